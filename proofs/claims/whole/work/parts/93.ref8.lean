/-! the reference: route, routeLetters, publish -/
theorem p42_f {k : Nat} (h : k ≤ 40) : p42 k = false := by
  unfold p42
  rw [beq_false_of_ne (by omega), beq_false_of_ne (by omega)]
  rfl
theorem SX.sc {k : Nat} {X Y : XT} {s : St} (h : SX k X s) (ha : Ag p42 X Y) : SX k Y s := by
  obtain ⟨h1, h2, h3, h4, h5, h6, h7, h8, h9, h10⟩ := h
  exact ⟨h1.ag ha rfl rfl, h2.ag ha rfl rfl rfl, h3.ag ha rfl rfl rfl rfl, h4.ag ha rfl rfl rfl rfl, h5.ag ha (fun k _ _ => p42_f (by omega)), h6.ag ha (fun k _ _ => p42_f (by omega)), by rw [ha 32 rfl]; exact h7, h8.ag ha (fun k _ _ => p42_f (by omega)), by rw [ha 39 rfl]; exact h9, by rw [ha 40 rfl]; exact h10⟩
theorem n_route {gc : Nat → Nat} {m : Nat} {M : Nat → Nat} {d : Nat} {X : XT} {kk e P b : Nat} {s : St} {ms : Msg} (h : SX kk X s) (hm : MI P b s) (hP : P + 6 < 2 ^ 31) (hb : b + 6 ≤ 450) (he : e < 5) (hd : ¬ s.1 (100 + 10 * e) = 0) (hk : isKeyB (mKey ms) = true) (hh : ∃ n, n ≤ 3 ∧ mHops ms = nI n) : WM gc m M (d + 5) 114 [.ref m, .int (nI e), .int ms.1, .int (mKey ms), .int (mHops ms), .int (b2i (mPers ms))] X (fun r X' => ∃ z, r = some (.int z) ∧ SX kk X' (opRt s e ms)) := by
  refine N114 ⟨_, n_choose h.1 h.2.2.1 hm.2.1 hm.2.2.2.2.2.2.1 he hd hk, ?_⟩
  rintro r X3 ⟨rfl, g1, g2⟩
  refine ⟨_, rfl, mrt_loop (d := d + 1) (ch := fun w => isCh s e w (mKey ms)) hk hh 6 0 P b X3 s rfl hP hb (h.sc g1) hm (fun w' _ h2 => g2 w' h2) (fun w' h1 h2 => ch_dec hm.2.2.2.2.2.2.1 h1 h2) (fun Y hY => ⟨_, rfl, ?_⟩)⟩
  rw [rtG_eq 6 0 s (by omega) (Sm.refl s)] at hY
  exact hY
theorem opRt_b {P b e : Nat} {s : St} {ms : Msg} (hm : MI P b s) (hP : P + 6 < 2 ^ 31) (hk : isKeyB (mKey ms) = true) (hh : ∃ n, n ≤ 3 ∧ mHops ms = nI n) : MI (P + 6) (b + 6) (opRt s e ms) := MI.rt hk hh 6 0 P b s (by omega) hP hm
/-- one count more -/
theorem SX.c40 {k : Nat} {X : XT} {s : St} (h : SX k X s) : SX k (wr X 40 0 (X 40 0 + 1)) (upd s.1 2 (s.1 2 + 1), s.2) := by
  have ha : Ag (fun k => k == 40) X (wr X 40 0 (X 40 0 + 1)) := (Ag.refl _ _).wr rfl
  have hp : ∀ k, k ≠ 40 → (fun k => k == 40) k = false := fun k hk => beq_false_of_ne hk
  obtain ⟨h1, h2, h3, h4, h5, h6, h7, h8, h9, h10⟩ := h
  refine ⟨(h1.ag ha rfl rfl).I (fun j _ _ => pk_un (by omega)), (h2.ag ha rfl rfl rfl).I (fun j _ _ => pk_un (by omega)), h3.ag ha rfl rfl rfl rfl, h4.ag ha rfl rfl rfl rfl, (h5.ag ha (fun k _ _ => hp k (by omega))).I (fun j _ _ => pk_un (by omega)), h6.ag ha (fun k _ _ => hp k (by omega)), ?_, ⟨?_, fun j r hr => ?_⟩, ?_, ?_⟩
  · rw [ha 32 rfl, h7]
    dsimp only
    rw [pk_un (by omega)]
  · exact (h8.ag ha (fun k _ _ => hp k (by omega))).1
  · have := (h8.ag ha (fun k _ _ => hp k (by omega))).2 j r hr
    unfold ltS at this ⊢
    rw [show dead (upd s.1 2 (s.1 2 + 1), s.2).1 r = dead s.1 r from pk_un (by omega)]
    exact this
  · rw [ha 39 rfl, h9]
    dsimp only
    rw [pk_un (by omega)]
  · rw [wr_s, h10]
    dsimp only
    rw [pk_us]
theorem SX.c39 {k : Nat} {X : XT} {s : St} (h : SX k X s) : SX (k + 1) (wr X 39 0 (X 39 0 + 1)) s := by
  have ha : Ag (fun k => k == 39) X (wr X 39 0 (X 39 0 + 1)) := (Ag.refl _ _).wr rfl
  have hp : ∀ k, k ≠ 39 → (fun k => k == 39) k = false := fun k hk => beq_false_of_ne hk
  obtain ⟨h1, h2, h3, h4, h5, h6, h7, h8, h9, h10⟩ := h
  refine ⟨h1.ag ha rfl rfl, h2.ag ha rfl rfl rfl, h3.ag ha rfl rfl rfl rfl, h4.ag ha rfl rfl rfl rfl, h5.ag ha (fun k _ _ => hp k (by omega)), h6.ag ha (fun k _ _ => hp k (by omega)), by rw [ha 32 rfl]; exact h7, h8.ag ha (fun k _ _ => hp k (by omega)), ?_, by rw [ha 40 rfl]; exact h10⟩
  rw [wr_s, h9, Int32.add_assoc, nI_1]
/-- the letters are done -/
theorem SX.c38 {k : Nat} {X : XT} {s : St} (h : SX k X s) : SX 0 (wr X 38 0 0) (upd s.1 1 (s.1 1 + nI k), upC s.2 1 []) := by
  have ha : Ag (fun k => k == 38) X (wr X 38 0 0) := (Ag.refl _ _).wr rfl
  have hp : ∀ k, k ≠ 38 → (fun k => k == 38) k = false := fun k hk => beq_false_of_ne hk
  obtain ⟨h1, h2, h3, h4, h5, h6, h7, h8, h9, h10⟩ := h
  refine ⟨(h1.ag ha rfl rfl).I (fun j _ _ => pk_un (by omega)), (h2.ag ha rfl rfl rfl).I (fun j _ _ => pk_un (by omega)), h3.ag ha rfl rfl rfl rfl, h4.ag ha rfl rfl rfl rfl, (h5.ag ha (fun k _ _ => hp k (by omega))).I (fun j _ _ => pk_un (by omega)), ?_, ?_, ⟨?_, fun j r hr => ?_⟩, ?_, ?_⟩
  · have := h6.ag ha (fun k _ _ => hp k (by omega))
    unfold sP at this ⊢
    rw [show flat (upd s.1 1 (s.1 1 + nI k), upC s.2 1 []).2 = flat s.2 from flat_1 rfl]
    exact this
  · rw [ha 32 rfl, h7]
    dsimp only
    rw [pk_un (by omega)]
  · dsimp only
    rw [uC_s]
    exact wr_s
  · dsimp only at hr
    rw [uC_s] at hr
    cases hr
  · rw [ha 39 rfl, h9]
    dsimp only
    rw [pk_us]
    exact (Int32.add_zero _).symm
  · rw [ha 40 rfl, h10]
    dsimp only
    rw [pk_un (by omega)]
theorem mrl_loop {gc : Nat → Nat} {m : Nat} {M : Nat → Nat} {d : Nat} {q : QT} {P0 b0 : Nat} (hP0 : P0 + 18 < 2 ^ 31) (hb0 : b0 + 18 ≤ 450) : ∀ n i k (X : XT) (s : St), i + n = 450 → k ≤ 3 → SX k X s → MI (P0 + 6 * k) (b0 + 6 * k) s → (∀ Y, SX 0 Y (upd (rlF n i k s).2.1 1 ((rlF n i k s).2.1 1 + nI (rlF n i k s).1), upC (rlF n i k s).2.2 1 []) → q none Y) → TM gc m M (d + 5) 119 q 4 [.ref m, .int (nI k), .int (nI i)] [] X := by
  intro n
  induction n with
  | zero =>
    intro i k X s hi hk h hm hq
    have h38 := h.2.2.2.2.2.2.2.1.1
    have hL := hm.2.2.2.1.2.2
    refine N119_4 ⟨fun _ => N119_109 (fun Y e => ?_), fun z => absurd (by rw [h38]; exact nI_le (by omega) (by omega)) z⟩
    rw [e]
    exact hq _ h.c38
  | succ n ih =>
    intro i k X s hi hk h hm hq
    have h38 := h.2.2.2.2.2.2.2.1.1
    have hL := hm.2.2.2.1.2.2
    have hs : rlF (n + 1) i k s = (match (uC s.2 1)[i]? with
      | none => (k, s)
      | some r => if decide (k < 3) && goOn s.1 r then rlF n (i + 1) (k + 1) (opRt s (dead s.1 r).toNatClampNeg (hopM (rM r))) else rlF n (i + 1) k (upd s.1 2 (s.1 2 + 1), s.2)) := rfl
    rw [hs] at hq
    cases hg : (uC s.2 1)[i]? with
    | none =>
      rw [hg] at hq
      have hil := List.getElem?_eq_none_iff.mp hg
      refine N119_4 ⟨fun _ => N119_109 (fun Y e => ?_), fun z => absurd (by rw [h38]; exact nI_le hil (by omega)) z⟩
      rw [e]
      exact hq _ h.c38
    | some r =>
      rw [hg] at hq
      dsimp only at hq
      obtain ⟨hil, -⟩ := List.getElem?_eq_some_iff.mp hg
      have hcl : (nI i).toNatClampNeg = i := nI_clamp (by omega)
      obtain ⟨l1, l2, l3, l4, l5⟩ := h.2.2.2.2.2.2.2.1.2 i r hg
      obtain ⟨k1, ⟨hp, k2, k3⟩, -⟩ := hm.2.2.2.2.2.1 1 isC_1 r (List.mem_of_getElem? hg)
      have no : (decide (k < 3) && goOn s.1 r) = false → TM gc m M (d + 5) 119 q 40 [.ref m, .int (nI k), .int (nI i)] [] X := fun hb => by
        rw [hb, if_neg (by decide)] at hq
        refine N119_40 (fun Y e => N119_103 ?_)
        rw [nI_1, e]
        exact ih (i + 1) k _ _ (by omega) hk h.c40 (hm.ct (Or.inr rfl)) hq
      refine N119_4 ⟨fun z => absurd z (by rw [h38]; exact nI_ge hil (by omega)), fun _ => ⟨nI_pos (by omega), by omega, ?_⟩⟩
      rw [hcl, l4]
      refine ⟨_, n_isE h.1 hm.2.1, ?_⟩
      rintro r' X3 ⟨rfl, rfl⟩
      refine ⟨_, rfl, fun z => no ?_, fun z => ⟨nI_pos (by omega), by omega, ?_⟩⟩
      · unfold goOn
        rw [show isEx s.1 (dead s.1 r) = false from b2i_z.mp z, Bool.false_and, Bool.and_false]
      · have z : isEx s.1 (dead s.1 r) = true := b2i_nz z
        rw [l3]
        refine ⟨fun z2 => no ?_, fun z2 => ⟨fun z3 => N119_53 (fun Y e => ?_), fun z3 => no ?_⟩⟩
        · unfold goOn
          rw [decide_eq_false (show ¬ ¬ 3 ≤ mHops (rM r) from fun w => w (by rw [z2]; exact Int32.le_refl _)), Bool.and_false, Bool.and_false]
        · have hk3 : k < 3 := by
            apply Nat.lt_of_le_of_ne hk
            intro w
            exact z3 (by rw [w]; rfl)
          have hp3 : hp < 3 := by
            apply Nat.lt_of_le_of_ne k2
            intro w
            exact z2 (by rw [k3, w]; rfl)
          have hgo : (decide (k < 3) && goOn s.1 r) = true := by
            unfold goOn
            rw [decide_eq_true hk3, z, decide_eq_true (show ¬ 3 ≤ mHops (rM r) by rw [k3]; exact nI_ge (b := 3) hp3 (by decide))]
            rfl
          rw [hgo, if_pos rfl] at hq
          obtain ⟨e', he', hee, hde⟩ := isEx_dec z
          have hS : SX (k + 1) Y s := by rw [e]; exact h.c39
          have ha : ∀ kk, kk ≠ 39 → Y kk = X3 kk := fun kk hkk => by rw [e]; exact funext (fun j => wr_k hkk)
          rw [ha 33 (by decide), ha 34 (by decide), ha 35 (by decide), ha 36 (by decide), ha 37 (by decide), hcl, l1, l2, l3, l4, l5, hee]
          have hm1 := MI.mono hm (P' := P0 + 6 * k) (b' := b0 + 6 * k) (Nat.le_refl _) (Nat.le_refl _)
          have hmr := opRt_b (e := e') (ms := hopM (rM r)) hm1 (by omega) k1 ⟨hp + 1, by omega, by show mHops (rM r) + 1 = _; rw [k3, nI_1]⟩
          refine ⟨nI_pos (by omega), by omega, nI_pos (by omega), by omega, nI_pos (by omega), by omega, nI_pos (by omega), by omega, nI_pos (by omega), by omega, _, n_route (ms := hopM (rM r)) hS hm1 (by omega) (by omega) he' hde k1 ⟨hp + 1, by omega, by show mHops (rM r) + 1 = _; rw [k3, nI_1]⟩, ?_⟩
          rintro r' Z ⟨zz, rfl, hZ⟩
          refine ⟨_, rfl, N119_103 ?_⟩
          rw [nI_1, nI_1]
          have hde2 : (dead s.1 r).toNatClampNeg = e' := by rw [hee]; exact nI_clamp (by omega)
          rw [hde2] at hq
          exact ih (i + 1) (k + 1) Z _ (by omega) (by omega) hZ (hmr.mono (by omega) (by omega)) hq
        · have : k = 3 := (nI_eq (b := 3) (by omega) (by decide)).mp z3
          rw [decide_eq_false (show ¬ k < 3 by omega), Bool.false_and]
theorem n_rl {gc : Nat → Nat} {m : Nat} {M : Nat → Nat} {d : Nat} {X : XT} {P b : Nat} {s : St} (h : SX 0 X s) (hm : MI P b s) (hP : P + 18 < 2 ^ 31) (hb : b + 18 ≤ 450) : WM gc m M (d + 6) 119 [.ref m] X (fun r X' => r = none ∧ SX 0 X' (opRl s)) := N119 (mrl_loop hP hb 450 0 0 X s rfl (by omega) h hm (fun Y hY => ⟨rfl, hY⟩))
theorem mul4 {a : Nat} : nI a * 4 = nI (a * 4) := (Int32.ofNat_mul a 4).symm
theorem n_note {gc : Nat → Nat} {m : Nat} {M : Nat → Nat} {d : Nat} {X : XT} {c l : Nat} {x2 x3 x4 x5 : Int32} (hc : c < 4) (hl : X 15 c = nI l) (hl4 : l ≤ 4) : WM gc m M (d + 1) 111 [.ref m, .int (nI c), .int x2, .int x3, .int x4, .int x5] X (fun r X' => (l = 4 ∧ r = some (.int (-2)) ∧ X' = X) ∨ (l < 4 ∧ r = some (.int 100) ∧ Ag pD X X' ∧ X' 13 = X 13 ∧ X' 14 = X 14 ∧ X' 16 = X 16 ∧ (∀ j, X' 15 j = if j = c then nI (l + 1) else X 15 j) ∧ (∀ k j, 17 ≤ k → k ≤ 20 → j ≠ 4 * c + l → X' k j = X k j) ∧ X' 17 (4 * c + l) = x2 ∧ X' 18 (4 * c + l) = x3 ∧ X' 19 (4 * c + l) = x4 ∧ X' 20 (4 * c + l) = x5)) := by
  have hcl : (nI c).toNatClampNeg = c := nI_clamp (by omega)
  have pc : ¬ nI c < 0 := nI_pos (by omega)
  refine N111 ⟨pc, by omega, ?_⟩
  rw [hcl, hl]
  refine ⟨fun z => N111_13 ?_, fun z => Or.inl ⟨(nI_eq (b := 4) (by omega) (by decide)).mp z, rfl, rfl⟩⟩
  have hl3 : l < 4 := by
    apply Nat.lt_of_le_of_ne hl4
    intro w
    exact z (by rw [w]; rfl)
  rw [hcl, hl, mul4, nI_add, show c * 4 + l = 4 * c + l by omega, nI_clamp (show 4 * c + l < 2 ^ 31 by omega)]
  have pi : ¬ nI (4 * c + l) < 0 := nI_pos (by omega)
  have hi : 4 * c + l < 16 := by omega
  refine ⟨pc, hc, pi, hi, fun Y1 e1 => ⟨pi, hi, fun Y2 e2 => ⟨pi, hi, fun Y3 e3 => ⟨pi, hi, fun Y4 e4 => ⟨pc, hc, pc, hc, fun Y5 e5 => Or.inr ⟨hl3, rfl, ?_, ?_, ?_, ?_, fun j => ?_, fun k j w1 w2 w3 => ?_, ?_, ?_, ?_, ?_⟩⟩⟩⟩⟩⟩
  · rw [e5, e4, e3, e2, e1]
    exact (((((Ag.refl _ _).wr rfl).wr rfl).wr rfl).wr rfl).wr rfl
  · rw [e5, e4, e3, e2, e1]
    exact funext (fun j => by rw [wr_k (by decide), wr_k (by decide), wr_k (by decide), wr_k (by decide), wr_k (by decide)])
  · rw [e5, e4, e3, e2, e1]
    exact funext (fun j => by rw [wr_k (by decide), wr_k (by decide), wr_k (by decide), wr_k (by decide), wr_k (by decide)])
  · rw [e5, e4, e3, e2, e1]
    exact funext (fun j => by rw [wr_k (by decide), wr_k (by decide), wr_k (by decide), wr_k (by decide), wr_k (by decide)])
  · have q4 : Y4 15 = X 15 := by
      rw [e4, e3, e2, e1]
      exact funext (fun j => by rw [wr_k (by decide), wr_k (by decide), wr_k (by decide), wr_k (by decide)])
    rw [e5, q4]
    by_cases hj : j = c
    · subst hj
      rw [wr_s, if_pos rfl, hl, nI_1]
    · rw [wr_i hj, if_neg hj, q4]
  · rw [e5, wr_k (by omega), e4, wr_i w3, e3, wr_i w3, e2, wr_i w3, e1, wr_i w3]
  · rw [e5, e4, e3, e2, e1]
    simp [wr]
  · rw [e5, e4, e3, e2]
    simp [wr]
  · rw [e5, e4, e3]
    simp [wr]
  · rw [e5, e4]
    simp [wr]
/-- one deed more -/
theorem sD.add {X Y : XT} {I : Nat → Int32} {v : Mu} {c : Nat} {dd : Ded} (h : sD X I v) (hdi : DI I v) (hc : c < 4) (hl3 : (uD v (18 + c)).length < 4) (g13 : Y 13 = X 13) (g14 : Y 14 = X 14) (g16 : Y 16 = X 16) (g15 : ∀ j, Y 15 j = if j = c then nI ((uD v (18 + c)).length + 1) else X 15 j) (gk : ∀ k j, 17 ≤ k → k ≤ 20 → j ≠ 4 * c + (uD v (18 + c)).length → Y k j = X k j) (hd : ddS Y (4 * c + (uD v (18 + c)).length) dd) : sD Y I (upD v (18 + c) (uD v (18 + c) ++ [dd])) := fun c' hc' => by
  obtain ⟨w1, w2, w3, w4, w5⟩ := h c' hc'
  have keep : ∀ j d, j < 4 → (c' = c → j < (uD v (18 + c)).length) → ddS X (4 * c' + j) d → ddS Y (4 * c' + j) d := fun j d hj hcj hx => by
    have hne : 4 * c' + j ≠ 4 * c + (uD v (18 + c)).length := by
      by_cases hz : c' = c
      · subst hz
        have := hcj rfl
        omega
      · omega
    unfold ddS at hx ⊢
    rw [gk 17 _ (by decide) (by decide) hne, gk 18 _ (by decide) (by decide) hne, gk 19 _ (by decide) (by decide) hne, gk 20 _ (by decide) (by decide) hne]
    exact hx
  refine ⟨by rw [g13]; exact w1, by rw [g14]; exact w2, by rw [g16]; exact w3, ?_, fun j d hj => ?_⟩
  · rw [g15]
    by_cases hz : c' = c
    · subst hz
      rw [if_pos rfl, uD_s, List.length_append, List.length_singleton]
    · rw [if_neg hz, uD_n (by omega)]
      exact w4
  · by_cases hz : c' = c
    · subst hz
      rw [uD_s] at hj
      by_cases hjl : j < (uD v (18 + c')).length
      · rw [List.getElem?_append_left hjl] at hj
        exact keep j d (by omega) (fun _ => hjl) (w5 j d hj)
      · rw [List.getElem?_append_right (by omega)] at hj
        have hjl2 : j = (uD v (18 + c')).length := by
          by_cases hz2 : j = (uD v (18 + c')).length
          · exact hz2
          · obtain ⟨t, ht⟩ : ∃ t, j - (uD v (18 + c')).length = t + 1 := ⟨j - (uD v (18 + c')).length - 1, by omega⟩
            rw [ht] at hj
            cases hj
        subst hjl2
        rw [Nat.sub_self] at hj
        cases hj
        exact hd
    · rw [uD_n (by omega)] at hj
      obtain ⟨hjl, -⟩ := List.getElem?_eq_some_iff.mp hj
      exact keep j d (by have := (hdi c' hc').1; omega) (fun z => absurd z hz) (w5 j d hj)
theorem fl_01 {f : Nat} (hf : f < 4) : (b2i (decide (¬ nI f &&& 1 = 0)) = if f % 2 = 1 then 1 else 0) ∧ ((nI f - nI f / 2 * 2 = 1) ↔ f % 2 = 1) ∧ (nI f < 2 ↔ nI f &&& 2 = 0) ∧ decide (¬ nI f &&& 1 = 0) = decide (f % 2 = 1) := by
  match f, hf with
  | 0, _ => decide
  | 1, _ => decide
  | 2, _ => decide
  | 3, _ => decide
  | f + 4, h => omega
theorem n_publish {gc : Nat → Nat} {m : Nat} {M : Nat → Nat} {d : Nat} {X : XT} {s : St} {P T : Nat} {x1 x2 x3 x4 x5 : Int32} (h : SX 0 X s) (hv : IV P T s) (hP : P + 42 < 2 ^ 31) : WM gc m M (d + 7) 109 [.ref m, .int x1, .int x2, .int x3, .int x4, .int x5] X (fun r X' => r = some (.int (opPb s x1 x2 x3 x4 x5).1) ∧ SX 0 X' (opPb s x1 x2 x3 x4 x5).2) := by
  have bad : (wi x1 0 3 && (isEx s.1 x2 && (isKeyB x3 && wi x5 0 3))) = false → TM gc m M (d + 6) 109 (fun r X' => r = some (.int (opPb s x1 x2 x3 x4 x5).1) ∧ SX 0 X' (opPb s x1 x2 x3 x4 x5).2) 32 [.ref m, .int x1, .int x2, .int x3, .int x4, .int x5, .retAddr 0] [] X := fun hb => by
    have ho : opPb s x1 x2 x3 x4 x5 = (-1, s) := by
      unfold opPb
      rw [hb]
      rfl
    rw [ho]
    exact N109_32 ⟨rfl, h⟩
  refine N109 ⟨_, n_in (k := 3) (by decide), ?_⟩
  rintro r X3 ⟨rfl, rfl⟩
  refine ⟨_, rfl, fun z => bad (by rw [show wi x1 0 3 = false from b2i_z.mp z]; rfl), fun z => ⟨_, n_isE h.1 hv.1.2.1, ?_⟩⟩
  rintro r X4 ⟨rfl, rfl⟩
  refine ⟨_, rfl, fun z2 => bad (by rw [show isEx s.1 x2 = false from b2i_z.mp z2, Bool.false_and, Bool.and_false]), fun z2 => ⟨_, n_isKey, ?_⟩⟩
  rintro r X5 ⟨rfl, rfl⟩
  refine ⟨_, rfl, fun z3 => bad (by rw [show isKeyB x3 = false from b2i_z.mp z3, Bool.false_and, Bool.and_false, Bool.and_false]), fun z3 => ⟨_, n_in (k := 3) (by decide), ?_⟩⟩
  rintro r X6 ⟨rfl, rfl⟩
  refine ⟨_, rfl, fun z4 => N109_34 ?_, fun z4 => bad (by rw [show wi x5 0 3 = false from b2i_z.mp z4, Bool.and_false, Bool.and_false, Bool.and_false])⟩
  have z : wi x1 0 3 = true := b2i_nz z
  have z2 : isEx s.1 x2 = true := b2i_nz z2
  have z3 : isKeyB x3 = true := b2i_nz z3
  have z4 : wi x5 0 3 = true := b2i_nz z4
  obtain ⟨c, hc, rfl⟩ := wi_rng (n := 3) (by decide) z
  obtain ⟨f, hf, rfl⟩ := wi_rng (n := 3) (by decide) z4
  obtain ⟨e, he, rfl, hde⟩ := isEx_dec z2
  have hc : c < 4 := hc
  have hf : f < 4 := hf
  obtain ⟨f1, f2, f3, f4⟩ := fl_01 hf
  have hcl : (nI c).toNatClampNeg = c := nI_clamp (by omega)
  have hce : (nI e).toNatClampNeg = e := nI_clamp (by omega)
  have ho : opPb s (nI c) (nI e) x3 x4 (nI f) = if s.1 (301 + 10 * c) = 0 then
      (if ccF s e x3 6 0 = 0 ∧ ¬ nI f &&& 2 = 0 then (-4, s) else (nI (ccF s e x3 6 0), opRl (opRt s e (pubM x3 x4 (nI f)))))
    else if (uD s.2 (18 + c)).length < 4 then (100, (s.1, upD s.2 (18 + c) (uD s.2 (18 + c) ++ [(nI e, some (pubM x3 x4 (nI f)), 0)]))) else (-2, s) := by
    unfold opPb
    rw [z, z2, z3, z4, hcl, hce]
    rfl
  rw [ho]
  have hd := h.2.2.2.2.1 c hc
  refine ⟨nI_pos (by omega), by omega, ?_⟩
  rw [hcl, hd.2.2.1]
  refine ⟨fun w => ?_, fun w => ⟨_, n_note hc hd.2.2.2.1 (hv.2.2.2.1 c hc).1, ?_⟩⟩
  · rw [if_pos w]
    have hccle : ccF s e x3 6 0 ≤ 6 := by
      have key : ∀ n q, ccF s e x3 n q ≤ n := by
        intro n
        induction n with
        | zero => intro q; exact Nat.le_refl _
        | succ n ih =>
          intro q
          show (isCh s e q x3).toNat + ccF s e x3 n (q + 1) ≤ n + 1
          have := ih (q + 1)
          have := Bool.toNat_le (isCh s e q x3)
          omega
      exact key 6 0
    refine N109_55 ⟨_, n_choose h.1 h.2.2.1 hv.1.2.1 hv.1.2.2.2.2.2.2.1 he hde z3, ?_⟩
    rintro r X7 ⟨rfl, g1, -⟩
    have h7 := h.sc g1
    have hm := opRt_b (e := e) (ms := pubM x3 x4 (nI f)) hv.1 (by omega) z3 ⟨0, by omega, rfl⟩
    have go : ∀ x6, TM gc m M (d + 6) 109 (fun r X' => r = some (.int x6) ∧ SX 0 X' (opRl (opRt s e (pubM x3 x4 (nI f))))) 77 [.ref m, .int (nI c), .int (nI e), .int x3, .int x4, .int (nI f), .int x6] [] X7 := fun x6 => by
      have fin : TM gc m M (d + 6) 109 (fun r X' => r = some (.int x6) ∧ SX 0 X' (opRl (opRt s e (pubM x3 x4 (nI f))))) 96 [.ref m, .int (nI c), .int (nI e), .int x3, .int x4, .int (nI f), .int x6] [.int (b2i (mPers (pubM x3 x4 (nI f)))), .int 0, .int x3, .int x4, .int (nI e), .ref m] X7 := by
        refine N109_96 ⟨_, n_route (d := d + 1) (ms := pubM x3 x4 (nI f)) h7 hv.1 (by omega) (by omega) he hde z3 ⟨0, by omega, rfl⟩, ?_⟩
        rintro r X8 ⟨zz, rfl, h8⟩
        refine ⟨_, rfl, _, n_rl h8 hm (by omega) (by omega), ?_⟩
        rintro r X9 ⟨rfl, h9⟩
        exact ⟨rfl, rfl, h9⟩
      have hmp : b2i (mPers (pubM x3 x4 (nI f))) = if f % 2 = 1 then 1 else 0 := f1
      refine N109_77 ⟨by decide, fun y => N109_95 ?_, fun y => ?_⟩
      · rw [hmp, if_neg (fun w => y (f2.mpr w))] at fin
        exact fin
      · rw [hmp, if_pos (f2.mp y)] at fin
        exact fin
    refine ⟨_, rfl, fun y => ?_, fun y => ⟨fun y2 => ?_, fun y2 => ?_⟩⟩
    · rw [if_neg (fun w => y (by rw [w.1]; rfl))]
      exact go _
    · rw [if_neg (fun w => w.2 (f3.mp y2))]
      exact go _
    · have : ccF s e x3 6 0 = 0 := (nI_z (by omega)).mp y
      rw [if_pos ⟨this, fun w => y2 (f3.mpr w)⟩]
      exact ⟨rfl, h7⟩
  · rw [if_neg w]
    rintro r X7 (⟨hl, rfl, rfl⟩ | ⟨hl, rfl, g1, g13, g14, g16, g15, gk, g17, g18, g19, g20⟩)
    · refine ⟨_, rfl, ?_⟩
      rw [if_neg (by omega)]
      exact ⟨rfl, h⟩
    · refine ⟨_, rfl, ?_⟩
      rw [if_pos hl]
      refine ⟨rfl, SX.dI (J := s.1) h hv.2.1 rfl rfl rfl g1 ?_ (fun _ _ => rfl)⟩
      refine sD.add h.2.2.2.2.1 hv.2.2.2.1 hc hl g13 g14 g16 g15 gk ⟨g17, g18, g19, f, hf, g20, ?_⟩
      exact f4
