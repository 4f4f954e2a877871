/-! the reference: forget, rollback, commit -/
theorem fg_loop {gc : Nat → Nat} {m : Nat} {M : Nat → Nat} {d : Nat} {X0 : XT} {q : QT} {n c : Nat} {x2 : Int32} (hn : X0 31 0 = nI n) (hn2 : n ≤ 400) : ∀ l i (X : XT), i + l = n → (∀ k, k ≠ 28 → X k = X0 k) → (∀ j, cpA X j = if j < i ∧ hdC c (cpA X0 j) = true then setD (cpA X0 j) 0 else cpA X0 j) → (∀ Y, (∀ k, k ≠ 28 → Y k = X0 k) → (∀ j, j < n → cpA Y j = if hdC c (cpA X0 j) = true then setD (cpA X0 j) 0 else cpA X0 j) → q (some (.int x2)) Y) → TM gc m M d 133 q 16 [.ref m, .int (nI c), .int x2, .int (nI i)] [] X := by
  intro l
  induction l with
  | zero =>
    intro i X hi hk hc2 hq
    refine N133_16 ⟨fun _ => N133_47 (hq X hk (fun j hj => ?_)), fun z => absurd (by rw [hk 31 (by decide), hn]; exact nI_le (by omega) (by omega)) z⟩
    rw [hc2 j]
    by_cases hz : hdC c (cpA X0 j) = true
    · rw [if_pos ⟨by omega, hz⟩, if_pos hz]
    · rw [if_neg (fun w => hz w.2), if_neg hz]
  | succ l ih =>
    intro i X hi hk hc2 hq
    have hcl : (nI i).toNatClampNeg = i := nI_clamp (by omega)
    have hXi : cpA X i = cpA X0 i := by rw [hc2 i, if_neg (fun w => Nat.lt_irrefl _ w.1)]
    have h26 : X 26 i = cH (cpA X0 i) := by rw [← hXi]; rfl
    refine N133_16 ⟨fun z => absurd z (by rw [hk 31 (by decide), hn]; exact nI_ge (by omega) (by omega)), fun _ => ⟨nI_pos (by omega), by omega, ?_⟩⟩
    rw [hcl, h26]
    refine ⟨fun z => N133_41 ?_, fun z => ⟨nI_pos (by omega), by omega, fun Y e => N133_41 ?_⟩⟩
    · rw [nI_1]
      refine ih (i + 1) X (by omega) hk (fun j => ?_) hq
      rw [hc2 j]
      by_cases hj : j = i
      · subst hj
        rw [if_neg (fun w => Nat.lt_irrefl _ w.1), if_neg (fun w => z (of_decide_eq_true w.2))]
      · by_cases h1 : j < i ∧ hdC c (cpA X0 j) = true
        · rw [if_pos h1, if_pos ⟨by omega, h1.2⟩]
        · rw [if_neg h1, if_neg (fun w => h1 ⟨by omega, w.2⟩)]
    · rw [nI_1]
      refine ih (i + 1) Y (by omega) (fun k hk2 => ?_) (fun j => ?_) hq
      · rw [e, ← hk k hk2]
        exact funext (fun j => wr_k hk2)
      · rw [e, cp28]
        by_cases hj : j = i
        · subst hj
          rw [if_pos rfl, if_pos ⟨by omega, decide_eq_true z⟩, hXi]
        · rw [if_neg hj, hc2 j]
          by_cases h1 : j < i ∧ hdC c (cpA X0 j) = true
          · rw [if_pos h1, if_pos ⟨by omega, h1.2⟩]
          · rw [if_neg h1, if_neg (fun w => h1 ⟨by omega, w.2⟩)]
/-- no deeds -/
theorem sD.clr {X : XT} {I : Nat → Int32} {v : Mu} {c : Nat} (h : sD X I v) : sD (wr X 15 c 0) I (upD v (18 + c) []) := fun c' hc' => by
  obtain ⟨w1, w2, w3, w4, w5⟩ := h c' hc'
  have ka : ∀ k, k ≠ 15 → wr X 15 c 0 k = X k := fun k hk => funext (fun j => wr_k hk)
  rw [ka 13 (by decide), ka 14 (by decide), ka 16 (by decide)]
  refine ⟨w1, w2, w3, ?_, fun j d hj => ?_⟩
  · by_cases hz : c' = c
    · subst hz
      rw [wr_s, uD_s]
      rfl
    · rw [wr_i hz, uD_n (by omega)]
      exact w4
  · by_cases hz : c' = c
    · subst hz
      rw [uD_s] at hj
      cases hj
    · rw [uD_n (by omega)] at hj
      have := w5 j d hj
      unfold ddS at this ⊢
      rw [ka 17 (by decide), ka 18 (by decide), ka 19 (by decide), ka 20 (by decide)]
      exact this
theorem n_forget {gc : Nat → Nat} {m : Nat} {M : Nat → Nat} {d : Nat} {X : XT} {kk c : Nat} {s : St} (h : SX kk X s) (hL : uC s.2 1 = []) (hc : c < 4) (hlen : (flat s.2).length ≤ 400) : WM gc m M (d + 1) 133 [.ref m, .int (nI c)] X (fun r X' => r = some (.int (nI (uD s.2 (18 + c)).length)) ∧ SX kk X' (s.1, fgt c s.2)) := by
  have hcl : (nI c).toNatClampNeg = c := nI_clamp (by omega)
  have hd := h.2.2.2.2.1 c hc
  refine N133 ⟨nI_pos (by omega), by omega, nI_pos (by omega), by omega, fun Y0 e0 => ?_⟩
  rw [hcl] at e0 ⊢
  rw [hd.2.2.2.1]
  have h1 : SX kk Y0 (s.1, upD s.2 (18 + c) []) := by
    rw [e0]
    exact SX.dI (J := s.1) h hL rfl rfl rfl ((Ag.refl _ _).wr (pD_t (by omega))) h.2.2.2.2.1.clr (fun _ _ => rfl)
  have hp1 : sP Y0 s.2 := by
    have := h.2.2.2.2.2.1.ag (p := pD) (Y := Y0) (by rw [e0]; exact (Ag.refl _ _).wr (pD_t (by omega))) (fun k _ _ => pD_f (by omega))
    exact this
  have hl1 := h1.2.2.2.2.2.2.2.1
  refine fg_loop (X0 := Y0) hp1.1 hlen (flat s.2).length 0 Y0 (by omega) (fun _ _ => rfl) (fun j => by rw [if_neg (fun w => Nat.not_lt_zero _ w.1)]) (fun Y y1 y2 => ⟨rfl, ?_⟩)
  refine SX.pI (s := (s.1, upD s.2 (18 + c) [])) (v := fgt c s.2) h1 rfl rfl (fun k hk => y1 k (fun w => by rw [w] at hk; cases hk)) ?_ ?_
  · have := hp1.map (Y := Y) (k := 14 + c) (f := fun x => if hdC c x = true then setD x 0 else x) (g := un) (fun r => ?_) (fun j hj hz r => ?_) (by rw [y1 31 (by decide)]) y2
    · exact this
    · rw [mp_c, mp_c, if_pos (show hdC c (hCp c r) = true from decide_eq_true rfl)]
      unfold setD hCp
      rw [show rD (un r) + 1 = 0 from (by decide : (-1 : Int32) + 1 = 0)]
      rfl
    · rw [if_neg (by rw [hdC_o hc hj hz]; decide)]
  · have hl1 : sL Y0 s.1 s.2 := hl1
    have hL1 : uC (fgt c s.2) 1 = uC s.2 1 := fgt_C (by omega)
    unfold sL ltS at hl1 ⊢
    rw [hL1, y1 33 (by decide), y1 34 (by decide), y1 35 (by decide), y1 36 (by decide), y1 37 (by decide), y1 38 (by decide)]
    exact hl1
theorem n_rollback {gc : Nat → Nat} {m : Nat} {M : Nat → Nat} {d : Nat} {X : XT} {s : St} {P T : Nat} {x : Int32} (h : SX 0 X s) (hv : IV P T s) : WM gc m M (d + 2) 134 [.ref m, .int x] X (fun r X' => r = some (.int (opRb s x).1) ∧ SX 0 X' (opRb s x).2) := by
  have hall := hv.1.2.2.2.1.all hv.1.2.2.1
  have hfl := flat_len (v := s.2)
  refine N134 ⟨_, n_in (k := 3) (by decide), ?_⟩
  rintro r X3 ⟨rfl, rfl⟩
  refine ⟨_, rfl, fun z => N134_10 ?_, fun z => ?_⟩
  rotate_left
  · unfold opRb
    rw [show wi x 0 3 = false from b2i_z.mp z, if_neg (by decide)]
    exact ⟨rfl, h⟩
  have z : wi x 0 3 = true := b2i_nz z
  obtain ⟨c, hc, rfl⟩ := wi_rng (n := 3) (by decide) z
  have hc : c < 4 := hc
  have hcl : (nI c).toNatClampNeg = c := nI_clamp (by omega)
  have hd := h.2.2.2.2.1 c hc
  have ho : opRb s (nI c) = if s.1 (301 + 10 * c) = 0 then (-3, s) else (nI (uD s.2 (18 + c)).length, (s.1, fgt c s.2)) := by
    unfold opRb
    rw [z, hcl]
    rfl
  rw [ho, hcl, hd.2.2.1]
  refine ⟨nI_pos (by omega), hc, fun w => N134_27 (N134_29 ?_), fun w => ⟨_, n_forget h hv.2.1 hc (by omega), ?_⟩⟩
  · rw [if_pos w]
    exact ⟨rfl, h⟩
  · rw [if_neg w]
    rintro r X4 ⟨rfl, h4⟩
    exact ⟨_, rfl, N134_29 ⟨rfl, h4⟩⟩
theorem mcm_loop {gc : Nat → Nat} {m : Nat} {M : Nat → Nat} {d : Nat} {q : QT} {c : Nat} {D : List Ded} (hc : c < 4) (hD4 : D.length ≤ 4) (hok : ∀ dd, dd ∈ D → dOK dd) : ∀ n k P b (X : XT) (s : St) (v3 : Value), k + n = D.length → P + 6 * n < 2 ^ 31 → b + 6 * n ≤ 450 → SX 0 X s → MI P b s → uD s.2 (18 + c) = D → (∀ Y x2 v3, SX 0 Y (ddF c n k s) → TM gc m M (d + 5) 132 q 129 [.ref m, .int (nI c), .int x2, v3] [] Y) → TM gc m M (d + 5) 132 q 24 [.ref m, .int (nI c), .int (nI k), v3] [] X := by
  intro n
  induction n with
  | zero =>
    intro k P b X s v3 hk hP hb h hm hD hq
    have hd := h.2.2.2.2.1 c hc
    have hcl : (nI c).toNatClampNeg = c := nI_clamp (by omega)
    refine N132_24 ⟨nI_pos (by omega), by omega, ?_⟩
    rw [hcl, hd.2.2.2.1, hD]
    exact ⟨fun _ => hq X _ _ h, fun z => absurd (nI_le (by omega) (by omega)) z⟩
  | succ n ih =>
    intro k P b X s v3 hk hP hb h hm hD hq
    have hd := h.2.2.2.2.1 c hc
    have hcl : (nI c).toNatClampNeg = c := nI_clamp (by omega)
    have hkl : k < D.length := by omega
    have hg : (uD s.2 (18 + c))[k]? = some D[k] := by rw [hD, List.getElem?_eq_getElem hkl]
    have hdd := hd.2.2.2.2 k _ hg
    have hokk := hok _ (List.getElem_mem hkl)
    have hs : ddF c (n + 1) k s = ddF c n (k + 1) (opDd c k s) := rfl
    rw [hs] at hq
    have hmd := hm.dd (k := k) (by omega) hc (by rw [hD]; exact hok)
    obtain ⟨d1, d2, d3⟩ := dd_S (k := k) hc hm.2.2.1
    have hD2 : uD (opDd c k s).2 (18 + c) = D := by rw [show uD (opDd c k s).2 (18 + c) = uD s.2 (18 + c) from congrFun (congrArg Prod.snd d2) _]; exact hD
    have next : ∀ Y x3, SX 0 Y (opDd c k s) → TM gc m M (d + 5) 132 q 123 [.ref m, .int (nI c), .int (nI k), .int x3] [] Y := fun Y x3 hY => by
      refine N132_123 ?_
      rw [nI_1]
      exact ih (k + 1) (P + 6) (b + 6) Y _ _ (by omega) (by omega) (by omega) hY hmd hD2 hq
    have hic : (nI (4 * c + k)).toNatClampNeg = 4 * c + k := nI_clamp (by omega)
    refine N132_24 ⟨nI_pos (by omega), by omega, ?_⟩
    rw [hcl, hd.2.2.2.1, hD]
    refine ⟨fun z => absurd z (nI_ge hkl (by omega)), fun _ => ?_⟩
    rw [mul4, nI_add, show c * 4 + k = 4 * c + k by omega, hic]
    have pi : ¬ nI (4 * c + k) < 0 := nI_pos (by omega)
    refine ⟨pi, by omega, fun z => N132_69 ?_, fun z => ⟨pi, by omega, ?_⟩⟩
    · rw [hic]
      unfold ddS at hdd
      unfold dOK at hokk
      cases hdm : (D[k]).2.1 with
      | none =>
        rw [hdm] at hokk
        exfalso
        rw [hdd.1, hokk.1] at z
        exact absurd z (by decide)
      | some ms =>
        rw [hdm] at hdd hokk
        dsimp only at hdd hokk
        obtain ⟨f17, f18, f19, f, hf, f20, fp⟩ := hdd
        obtain ⟨⟨e, he, hee⟩, hkey, hhop⟩ := hokk
        obtain ⟨f1, f2, f3, f4⟩ := fl_01 hf
        have hop : opDd c k s = if isEx s.1 (D[k]).1 then opRt s (D[k]).1.toNatClampNeg ms else s := by
          unfold opDd
          rw [hg]
          dsimp only
          rw [hdm]
        refine ⟨pi, by omega, _, n_isE (d := d + 3) h.1 hm.2.1, ?_⟩
        rintro r X3 ⟨rfl, rfl⟩
        rw [f17]
        refine ⟨_, rfl, fun w => next X3 _ ?_, fun w => ⟨pi, by omega, pi, by omega, pi, by omega, pi, by omega, by decide, ?_⟩⟩
        · rw [hop, if_neg (by rw [b2i_z.mp w]; decide)]
          exact h
        · have w := b2i_nz w
          rw [w, if_pos rfl] at hop
          obtain ⟨e2, he2, hee2, hde2⟩ := isEx_dec w
          have hee3 : (D[k]).1.toNatClampNeg = e2 := by rw [hee2]; exact nI_clamp (by omega)
          rw [hee3] at hop
          rw [f18, f19, f20, hee2]
          have fin : TM gc m M (d + 5) 132 q 119 [.ref m, .int (nI c), .int (nI k), .int (nI (4 * c + k))] [.int (b2i (mPers ms)), .int (nI 0), .int (mKey ms), .int ms.1, .int (nI e2), .ref m] X3 := by
            rw [← hhop]
            refine N132_119 ⟨_, n_route (ms := ms) h hm (by omega) (by omega) he2 hde2 hkey ⟨0, by omega, hhop⟩, ?_⟩
            rintro r X4 ⟨zz, rfl, h4⟩
            refine ⟨_, rfl, next X4 _ ?_⟩
            rw [hop]
            exact h4
          refine ⟨fun y => N132_118 ?_, fun y => ?_⟩
          · rw [fp, decide_eq_false (fun w => y (f2.mpr w))] at fin
            exact fin
          · rw [fp, decide_eq_true (f2.mp y)] at fin
            exact fin
    · unfold ddS at hdd
      unfold dOK at hokk
      cases hdm : (D[k]).2.1 with
      | some ms =>
        rw [hdm] at hdd hokk
        dsimp only at hdd hokk
        exfalso
        obtain ⟨⟨e, he, hee⟩, -, -⟩ := hokk
        exact z (by rw [hdd.1, hee]; exact nI_le (a := 0) (by omega) (by omega))
      | none =>
        rw [hdm] at hdd hokk
        dsimp only at hdd hokk
        obtain ⟨f17, f20⟩ := hdd
        obtain ⟨-, h0, hh, hhe⟩ := hokk
        have hop : opDd c k s = (s.1, smF c (isDd (nI k)) (nI h0) (uC s.2 (14 + c)).length 0 s.2) := by
          unfold opDd
          rw [hg]
          dsimp only
          rw [hdm]
          dsimp only
          rw [hhe]
        rw [f20, hhe, nI_1]
        have hb1 : (1 : Int32) = b2i true := rfl
        refine ⟨_, n_settleAll (d := d + 1) (wh := true) (π := isDd (nI k)) h hm (by omega) hc hh (fun r => ?_), ?_⟩
        · unfold mine
          rw [if_neg (show ¬ nI (k + 1) ≤ (0 : Int32) from nI_ge (a := 0) (b := k + 1) (by omega) (by omega)), show hdC c (hCp c r) = true from decide_eq_true rfl, Bool.true_and]
          refine decide_eq_decide.mpr ?_
          show rD r + 1 = nI (k + 1) ↔ rD r = nI k
          rw [← nI_1]
          exact Int32.add_left_inj 1
        · rintro r X3 ⟨rfl, h3⟩
          refine ⟨_, rfl, next X3 _ ?_⟩
          rw [hop]
          exact h3
theorem n_commit {gc : Nat → Nat} {m : Nat} {M : Nat → Nat} {d : Nat} {X : XT} {s : St} {P T : Nat} {x : Int32} (h : SX 0 X s) (hv : IV P T s) (hP : P + 42 < 2 ^ 31) : WM gc m M (d + 7) 132 [.ref m, .int x] X (fun r X' => r = some (.int (opCm s x).1) ∧ SX 0 X' (opCm s x).2) := by
  refine N132 ⟨_, n_in (k := 3) (by decide), ?_⟩
  rintro r X3 ⟨rfl, rfl⟩
  refine ⟨_, rfl, fun z => N132_10 ?_, fun z => ?_⟩
  rotate_left
  · unfold opCm
    rw [show wi x 0 3 = false from b2i_z.mp z, if_neg (by decide)]
    exact ⟨rfl, h⟩
  have z : wi x 0 3 = true := b2i_nz z
  obtain ⟨c, hc, rfl⟩ := wi_rng (n := 3) (by decide) z
  have hc : c < 4 := hc
  have hcl : (nI c).toNatClampNeg = c := nI_clamp (by omega)
  have hd := h.2.2.2.2.1 c hc
  have hdi := hv.2.2.2.1 c hc
  have ho : opCm s (nI c) = if s.1 (301 + 10 * c) = 0 then (-3, s) else (nI (uD s.2 (18 + c)).length, opRl ((ddF c (uD s.2 (18 + c)).length 0 s).1, fgt c (ddF c (uD s.2 (18 + c)).length 0 s).2)) := by
    unfold opCm
    rw [z, hcl]
    rfl
  rw [ho, hcl, hd.2.2.1]
  refine ⟨nI_pos (by omega), hc, fun w => N132_22 ?_, fun w => ?_⟩
  rotate_left
  · rw [if_pos w]
    exact ⟨rfl, h⟩
  rw [if_neg w]
  obtain ⟨m1, m2, m3, m4⟩ := MI.ddFk hc (uD s.2 (18 + c)).length 0 P 360 s (by omega) hv.1 hdi.2.2.2
  refine mcm_loop (d := d + 1) (D := uD s.2 (18 + c)) hc hdi.1 hdi.2.2.2 (uD s.2 (18 + c)).length 0 P 360 X3 s _ (by omega) (by omega) (by omega) h hv.1 rfl (fun Y x2 v3 hY => N132_129 ?_)
  have hDt : uD (ddF c (uD s.2 (18 + c)).length 0 s).2 (18 + c) = uD s.2 (18 + c) := congrFun (congrArg Prod.snd m3) _
  generalize ddF c (uD s.2 (18 + c)).length 0 s = t at m1 m2 m3 m4 hY hDt
  refine ⟨_, n_rl (d := d) hY m1 (by omega) (by omega), ?_⟩
  rintro r X4 ⟨rfl, h4⟩
  have hm4 := m1.rl (by omega)
  have hL4 := opRl_L (s := t)
  have s4 := S3.rl (s := t)
  have hall : sw (opRl t).2 + sh (opRl t).2 ≤ 360 := hm4.2.2.2.1.all hm4.2.2.1
  have hfl := flat_len (v := (opRl t).2)
  refine ⟨rfl, _, n_forget (d := d + 5) h4 hL4 hc (by omega), ?_⟩
  rintro r X5 ⟨rfl, h5⟩
  refine ⟨_, rfl, ?_, ?_⟩
  · rw [show uD (opRl t).2 (18 + c) = uD t.2 (18 + c) from congrFun (congrArg Prod.snd s4.2.2.1) _, hDt]
  · have := rl_fgt (c := c) (t := t)
    unfold fgS at this
    dsimp only
    rw [this]
    exact h5
