/-! the reference: settle, commit, rollback -/
theorem n_settleAll {gc : Nat → Nat} {m : Nat} {M : Nat → Nat} {d : Nat} {X : XT} {kk P b c h0 : Nat} {s : St} {x2 tg : Int32} {wh : Bool} {π : Rec → Bool} (h : SX kk X s) (hm : MI P b s) (hb : b ≤ 450) (hc : c < 4) (hh : h0 < 3) (hπ : ∀ r, mine c x2 tg wh (hCp c r) = π r) : WM gc m M (d + 4) 128 [.ref m, .int (nI c), .int x2, .int tg, .int (b2i wh), .int (nI h0)] X (fun r X' => r = some (.int (nI ((uC s.2 (14 + c)).countP π))) ∧ SX kk X' (s.1, smF c π (nI h0) (uC s.2 (14 + c)).length 0 s.2)) := by
  have h12 := hm.2.2.2.1.1 c hc
  have hcp := List.countP_le_length (p := π) (l := uC s.2 (14 + c))
  have hst := smF_stA (p := π) (how := nI h0) hc (uC s.2 (14 + c)).length 0 s.2 (uC s.2 (14 + c)).length hm.2.2.1 (by omega) (fun i hi w => absurd w (Nat.not_lt_zero _)) (Nat.le_refl _)
  rw [hst]
  refine N128 (so_loop (d := d) (I := s.1) hc hb hh hπ ((uC s.2 (14 + c)).countP π) (uC s.2 (14 + c)).length 0 0 X s.2 0 _ _ _ h hm rfl hcp (by omega) (fun r hr _ => ?_) (fun Y hY => ⟨by rw [Nat.zero_add], hY⟩))
  have := ((hm.2.2.2.2.1.2.1 c hc).2 r hr).1
  rw [Int32.le_iff_toInt_le]
  show ¬ kT r ≤ (0 : Int32).toInt
  have e : (0 : Int32).toInt = 0 := by decide
  omega
theorem cnt_mnt {X : XT} {v : Mu} {c : Nat} {tg : Int32} {wh : Bool} (hp : sP X v) (hc : c < 4) : cF (fun i => mnt c tg wh (cpA X i)) (flat v).length 0 = (uC v (14 + c)).countP (meant tg wh) := by
  rw [cF_map (p := mnt c tg wh) (f := cpA X)]
  show (cpL X (flat v).length).countP (mnt c tg wh) = _
  have e1 : (cpL X (flat v).length).countP (mnt c tg wh) = ((cpL X (flat v).length).filter (hdC c)).countP (mnt c tg wh) := by
    rw [List.countP_filter]
    refine List.countP_congr (fun x _ => ?_)
    rw [Bool.and_eq_true]
    refine ⟨fun hx => ⟨hx, ?_⟩, fun hx => hx.1⟩
    unfold mnt at hx
    rw [Bool.and_eq_true] at hx
    exact hx.1
  rw [e1, (sel_perm hp.2 (sel_c hc)).countP_eq, List.countP_map]
  refine List.countP_congr (fun r _ => ?_)
  show mnt c tg wh (mp (14 + c) r) = true ↔ _
  rw [mp_c, mnt_eq]
theorem sc_loop {gc : Nat → Nat} {m : Nat} {M : Nat → Nat} {d : Nat} {X : XT} {q : QT} {n c : Nat} {tg x4 : Int32} {wh : Bool} (hn : X 31 0 = nI n) (hn2 : n ≤ 400) : ∀ l i g, i + l = n → (∀ x6, TM gc m M (d + 1) 126 q 67 [.ref m, .int (nI c), .int tg, .int (b2i wh), .int x4, .int (nI (g + cF (fun i => mnt c tg wh (cpA X i)) l i)), .int x6, .retAddr 0] [] X) → TM gc m M (d + 1) 126 q 37 [.ref m, .int (nI c), .int tg, .int (b2i wh), .int x4, .int (nI g), .int (nI i), .retAddr 0] [] X := by
  intro l
  induction l with
  | zero =>
    intro i g hi hq
    exact N126_37 ⟨fun _ => hq _, fun z => absurd (by rw [hn]; exact nI_le (by omega) (by omega)) z⟩
  | succ l ih =>
    intro i g hi hq
    have hu : cF (fun i => mnt c tg wh (cpA X i)) (l + 1) i = (if mnt c tg wh (cpA X i) then 1 else 0) + cF (fun i => mnt c tg wh (cpA X i)) l (i + 1) := rfl
    rw [hu] at hq
    refine N126_37 ⟨fun z => absurd z (by rw [hn]; exact nI_ge (by omega) (by omega)), fun _ => ⟨_, n_meant (n := n) (by omega) hn2, ?_⟩⟩
    rintro r X3 ⟨rfl, rfl⟩
    refine ⟨_, rfl, fun z => N126_61 ?_, fun z => N126_61 ?_⟩
    · rw [b2i_z.mp z, if_neg (by decide), Nat.zero_add] at hq
      rw [nI_1]
      exact ih (i + 1) g (by omega) hq
    · rw [b2i_nz z, if_pos rfl, ← Nat.add_assoc] at hq
      rw [nI_1, nI_1]
      exact ih (i + 1) (g + 1) (by omega) hq
/-- another deed -/
def setD (x : Cp) (D : Int32) : Cp := (x.1, x.2.1, x.2.2.1, x.2.2.2.1, x.2.2.2.2.1, x.2.2.2.2.2.1, x.2.2.2.2.2.2.1, D, x.2.2.2.2.2.2.2.2.1, x.2.2.2.2.2.2.2.2.2)
theorem fl_map {v : Mu} {k : Nat} {f : Cp → Cp} {g : Rec → Rec} (h1 : ∀ r, f (mp k r) = mp k (g r)) (h2 : ∀ j, isP j = true → j ≠ k → ∀ r, f (mp j r) = mp j r) : ∀ n, fl (upC v k ((uC v k).map g)) n = (fl v n).map f := by
  intro n
  induction n with
  | zero => rfl
  | succ n ih =>
    show fl (upC v k ((uC v k).map g)) n ++ _ = (fl v n ++ _).map f
    rw [ih, List.map_append]
    congr 1
    by_cases hp : isP n = true
    · rw [if_pos hp, if_pos hp, List.map_map]
      by_cases hz : n = k
      · subst hz
        rw [uC_s, List.map_map]
        exact List.map_congr_left (fun r _ => (h1 r).symm)
      · rw [uC_n hz]
        exact List.map_congr_left (fun r _ => (h2 n hp hz r).symm)
    · rw [if_neg hp, if_neg hp]
      rfl
theorem flat_map {v : Mu} {k : Nat} {f : Cp → Cp} {g : Rec → Rec} (h1 : ∀ r, f (mp k r) = mp k (g r)) (h2 : ∀ j, isP j = true → j ≠ k → ∀ r, f (mp j r) = mp j r) : flat (upC v k ((uC v k).map g)) = (flat v).map f := fl_map h1 h2 18
theorem hdC_o {c j : Nat} {r : Rec} (hc : c < 4) (hj : isP j = true) (hz : j ≠ 14 + c) : hdC c (mp j r) = false := by
  refine decide_eq_false (fun z => ?_)
  rcases isP_qc hj with ⟨p, hp, rfl⟩ | ⟨c', hc', rfl⟩
  · rw [mp_q hp] at z
    exact nI_m1 (n := c) (by omega) z.symm
  · rw [mp_c] at z
    have z : nI c' = nI c := z
    have := (nI_eq (by omega) (by omega)).mp z
    omega
/-- every copy changed by f -/
theorem sP.map {X Y : XT} {v : Mu} {k : Nat} {f : Cp → Cp} {g : Rec → Rec} (h : sP X v) (h1 : ∀ r, f (mp k r) = mp k (g r)) (h2 : ∀ j, isP j = true → j ≠ k → ∀ r, f (mp j r) = mp j r) (h31 : Y 31 0 = X 31 0) (hc : ∀ i, i < (flat v).length → cpA Y i = f (cpA X i)) : sP Y (upC v k ((uC v k).map g)) := by
  unfold sP
  rw [flat_map h1 h2, List.length_map]
  refine ⟨h31.trans h.1, ?_⟩
  have : cpL Y (flat v).length = (cpL X (flat v).length).map f := by
    unfold cpL
    rw [List.map_map]
    exact List.map_congr_left (fun i hi => hc i (List.mem_range.mp hi))
  rw [this]
  exact h.2.map f
theorem cp28 {X : XT} {i j : Nat} {D : Int32} : cpA (wr X 28 i D) j = if j = i then setD (cpA X j) D else cpA X j := by
  by_cases hj : j = i
  · subst hj
    rw [if_pos rfl]
    unfold cpA setD
    simp [wr]
  · rw [if_neg hj]
    exact cpA_cg (fun k _ _ => wr_i hj)
theorem mk_loop {gc : Nat → Nat} {m : Nat} {M : Nat → Nat} {d : Nat} {X0 : XT} {q : QT} {n c : Nat} {tg x4 x5 D : Int32} {wh : Bool} (hc : c < 4) (hn : X0 31 0 = nI n) (hn2 : n ≤ 400) (hD : X0 15 c = D) : ∀ l i (X : XT), i + l = n → (∀ k, k ≠ 28 → X k = X0 k) → (∀ j, cpA X j = if j < i ∧ mnt c tg wh (cpA X0 j) = true then setD (cpA X0 j) D else cpA X0 j) → (∀ Y, (∀ k, k ≠ 28 → Y k = X0 k) → (∀ j, j < n → cpA Y j = if mnt c tg wh (cpA X0 j) = true then setD (cpA X0 j) D else cpA X0 j) → q (some (.int 100)) Y) → TM gc m M (d + 1) 126 q 117 [.ref m, .int (nI c), .int tg, .int (b2i wh), .int x4, .int x5, .int 100, .int (nI i)] [] X := by
  intro l
  induction l with
  | zero =>
    intro i X hi hk hc2 hq
    refine N126_117 ⟨fun z => absurd rfl z, fun _ => ⟨fun _ => N126_164 (hq X hk (fun j hj => ?_)), fun z => absurd (by rw [hk 31 (by decide), hn]; exact nI_le (by omega) (by omega)) z⟩⟩
    rw [hc2 j]
    by_cases hz : mnt c tg wh (cpA X0 j) = true
    · rw [if_pos ⟨by omega, hz⟩, if_pos hz]
    · rw [if_neg (fun w => hz w.2), if_neg hz]
  | succ l ih =>
    intro i X hi hk hc2 hq
    have hcl : (nI i).toNatClampNeg = i := nI_clamp (by omega)
    have hcc : (nI c).toNatClampNeg = c := nI_clamp (by omega)
    have hXi : cpA X i = cpA X0 i := by rw [hc2 i, if_neg (fun w => Nat.lt_irrefl _ w.1)]
    refine N126_117 ⟨fun z => absurd rfl z, fun _ => ⟨fun z => absurd z (by rw [hk 31 (by decide), hn]; exact nI_ge (by omega) (by omega)), fun _ => ⟨_, n_meant (n := n) (by omega) hn2, ?_⟩⟩⟩
    rintro r X3 ⟨rfl, rfl⟩
    rw [hXi]
    refine ⟨_, rfl, fun z => N126_158 ?_, fun z => ?_⟩
    · rw [nI_1]
      refine ih (i + 1) X3 (by omega) hk (fun j => ?_) hq
      rw [hc2 j]
      by_cases hj : j = i
      · subst hj
        rw [if_neg (fun w => Nat.lt_irrefl _ w.1), if_neg (fun w => by rw [b2i_z.mp z] at w; exact absurd w.2 (by decide))]
      · by_cases h1 : j < i ∧ mnt c tg wh (cpA X0 j) = true
        · rw [if_pos h1, if_pos ⟨by omega, h1.2⟩]
        · rw [if_neg h1, if_neg (fun w => h1 ⟨by omega, w.2⟩)]
    · rw [hcc, hcl, hk 15 (by decide), hD]
      refine ⟨nI_pos (by omega), hc, nI_pos (by omega), by omega, fun Y e => N126_158 ?_⟩
      rw [nI_1]
      refine ih (i + 1) Y (by omega) (fun k hk2 => ?_) (fun j => ?_) hq
      · rw [e, ← hk k hk2]
        exact funext (fun j => wr_k hk2)
      · rw [e, cp28]
        by_cases hj : j = i
        · subst hj
          rw [if_pos rfl, if_pos ⟨by omega, b2i_nz z⟩, hXi]
        · rw [if_neg hj, hc2 j]
          by_cases h1 : j < i ∧ mnt c tg wh (cpA X0 j) = true
          · rw [if_pos h1, if_pos ⟨by omega, h1.2⟩]
          · rw [if_neg h1, if_neg (fun w => h1 ⟨by omega, w.2⟩)]
theorem n_settle {gc : Nat → Nat} {m : Nat} {M : Nat → Nat} {d : Nat} {X : XT} {s : St} {P T : Nat} {x1 tg how : Int32} {wh : Bool} (h : SX 0 X s) (hv : IV P T s) (hP : P + 42 < 2 ^ 31) : WM gc m M (d + 7) 126 [.ref m, .int x1, .int tg, .int (b2i wh), .int how] X (fun r X' => r = some (.int (opSt s x1 tg wh how).1) ∧ SX 0 X' (opSt s x1 tg wh how).2) := by
  have bad : stC x1 tg wh how = false → TM gc m M (d + 6) 126 (fun r X' => r = some (.int (opSt s x1 tg wh how).1) ∧ SX 0 X' (opSt s x1 tg wh how).2) 29 [.ref m, .int x1, .int tg, .int (b2i wh), .int how, .retAddr 0, .retAddr 0, .retAddr 0] [] X := fun hb => by
    have ho : opSt s x1 tg wh how = (-1, s) := by
      unfold opSt
      rw [hb]
      rfl
    rw [ho]
    exact N126_29 ⟨rfl, h⟩
  have hst : stC x1 tg wh how = (wi x1 0 3 && (decide (¬ tg < 0) && ((decide (¬ tg = 0) || wh) && wi how 0 2))) := rfl
  refine N126 ⟨_, n_in (k := 3) (by decide), ?_⟩
  rintro r X3 ⟨rfl, rfl⟩
  refine ⟨_, rfl, fun z => bad (by rw [hst, show wi x1 0 3 = false from b2i_z.mp z, Bool.false_and]), fun z => ⟨fun z2 => bad (by rw [hst, decide_eq_false (show ¬ ¬ tg < 0 from fun y => y z2), Bool.false_and, Bool.and_false]), fun z2 => ?_⟩⟩
  have z : wi x1 0 3 = true := b2i_nz z
  have rest : (decide (¬ tg = 0) || wh) = true → TM gc m M (d + 6) 126 (fun r X' => r = some (.int (opSt s x1 tg wh how).1) ∧ SX 0 X' (opSt s x1 tg wh how).2) 20 [.ref m, .int x1, .int tg, .int (b2i wh), .int how, .retAddr 0, .retAddr 0, .retAddr 0] [] X3 := fun z3 => by
    refine N126_20 ⟨_, n_in (k := 2) (by decide), ?_⟩
    rintro r X4 ⟨rfl, rfl⟩
    refine ⟨_, rfl, fun z4 => N126_31 ?_, fun z4 => bad (by rw [hst, show wi how 0 2 = false from b2i_z.mp z4, Bool.and_false, Bool.and_false, Bool.and_false])⟩
    have z4 : wi how 0 2 = true := b2i_nz z4
    obtain ⟨c, hc, rfl⟩ := wi_rng (n := 3) (by decide) z
    obtain ⟨h0, hh, rfl⟩ := wi_rng (n := 2) (by decide) z4
    have hc : c < 4 := hc
    have hh : h0 < 3 := hh
    have hcl : (nI c).toNatClampNeg = c := nI_clamp (by omega)
    have hp := h.2.2.2.2.2.1
    have hall := hv.1.2.2.2.1.all hv.1.2.2.1
    have hfl := flat_len (v := s.2)
    have hdi := hv.2.2.2.1 c hc
    have hd := h.2.2.2.2.1 c hc
    have hcnt12 := List.countP_le_length (p := meant tg wh) (l := uC s.2 (14 + c))
    have h12 := hv.1.2.2.2.1.1 c hc
    have ho : opSt s (nI c) tg wh (nI h0) = if (uC s.2 (14 + c)).countP (meant tg wh) = 0 then (-1, s)
      else if s.1 (301 + 10 * c) = 0 then (nI ((uC s.2 (14 + c)).countP (meant tg wh)), opRl (s.1, smF c (isDd (nI (uD s.2 (18 + c)).length)) (nI h0) (uC s.2 (14 + c)).length 0 (upC s.2 (14 + c) ((uC s.2 (14 + c)).map (mrk tg wh (nI (uD s.2 (18 + c)).length))))))
      else if (uD s.2 (18 + c)).length < 4 then (100, (s.1, upD (upC s.2 (14 + c) ((uC s.2 (14 + c)).map (mrk tg wh (nI (uD s.2 (18 + c)).length)))) (18 + c) (uD s.2 (18 + c) ++ [(-1, none, nI h0)])))
      else (-2, s) := by
      unfold opSt
      rw [hst, z, z4, z3, decide_eq_true z2, hcl]
      rfl
    rw [ho]
    refine sc_loop (d := d + 5) hp.1 (by omega) (flat s.2).length 0 0 (by omega) (fun x6 => N126_67 ?_)
    rw [Nat.zero_add, cnt_mnt hp hc]
    refine ⟨fun y => N126_74 ?_, fun y => ?_⟩
    rotate_left
    · rw [if_pos ((nI_z (by omega)).mp y)]
      exact ⟨rfl, h⟩
    rw [if_neg (fun w => y (by rw [w]; rfl)), hcl, hd.2.2.1]
    refine ⟨nI_pos (by omega), hc, fun w => N126_102 ⟨_, n_note hc hd.2.2.2.1 hdi.1, ?_⟩, fun w => ⟨_, n_settleAll (d := d + 2) (b := 360) (P := P) (π := meant tg wh) h hv.1 (by omega) hc hh (fun r => ?_), ?_⟩⟩
    · rw [if_neg w]
      rintro r X7 (⟨hl, rfl, rfl⟩ | ⟨hl, rfl, g1, g13, g14, g16, g15, gk, g17, g18, g19, g20⟩)
      · refine ⟨_, rfl, N126_117 ⟨fun _ => N126_164 ?_, fun z => absurd z (by decide)⟩⟩
        rw [if_neg (by omega)]
        exact ⟨rfl, h⟩
      · refine ⟨_, rfl, ?_⟩
        rw [if_pos hl]
        have h7 : SX 0 X7 (s.1, upD s.2 (18 + c) (uD s.2 (18 + c) ++ [(-1, none, nI h0)])) := SX.dI (J := s.1) h hv.2.1 rfl rfl rfl g1 (sD.add h.2.2.2.2.1 hv.2.2.2.1 hc hl g13 g14 g16 g15 gk ⟨g17, g20⟩) (fun _ _ => rfl)
        have hp7 : sP X7 s.2 := hp.ag g1 (fun k _ _ => pD_f (by omega))
        have hl7 := h7.2.2.2.2.2.2.2.1
        refine mk_loop (d := d + 5) (X0 := X7) (n := (flat s.2).length) (D := nI ((uD s.2 (18 + c)).length + 1)) hc hp7.1 (by omega) (by rw [g15, if_pos rfl]) (flat s.2).length 0 X7 (by omega) (fun _ _ => rfl) (fun j => by rw [if_neg (fun w => Nat.not_lt_zero _ w.1)]) (fun Y y1 y2 => ⟨rfl, ?_⟩)
        have ha : Ag pL X7 Y := fun k hk => y1 k (fun w => by rw [w] at hk; cases hk)
        refine SX.pI (s := (s.1, upD s.2 (18 + c) (uD s.2 (18 + c) ++ [(-1, none, nI h0)]))) (v := upD (upC s.2 (14 + c) ((uC s.2 (14 + c)).map (mrk tg wh (nI (uD s.2 (18 + c)).length)))) (18 + c) (uD s.2 (18 + c) ++ [(-1, none, nI h0)])) h7 rfl rfl ha ?_ ?_
        · have := hp7.map (Y := Y) (k := 14 + c) (f := fun x => if mnt c tg wh x = true then setD x (nI ((uD s.2 (18 + c)).length + 1)) else x) (g := mrk tg wh (nI (uD s.2 (18 + c)).length)) (fun r => ?_) (fun j hj hz r => ?_) (by rw [y1 31 (by decide)]) y2
          · exact this
          · rw [mp_c, mp_c, mnt_eq]
            unfold mrk
            by_cases hz : meant tg wh r = true
            · rw [if_pos hz, if_pos hz]
              unfold setD hCp
              rw [← nI_1]
              rfl
            · rw [if_neg hz, if_neg hz]
          · rw [if_neg]
            intro w
            unfold mnt at w
            rw [hdC_o hc hj hz, Bool.false_and] at w
            cases w
        · have hL1 : uC (upD (upC s.2 (14 + c) ((uC s.2 (14 + c)).map (mrk tg wh (nI (uD s.2 (18 + c)).length)))) (18 + c) (uD s.2 (18 + c) ++ [(-1, none, nI h0)])) 1 = uC s.2 1 := uC_n (v := s.2) (by omega)
          have hl7 : sL X7 s.1 s.2 := hl7
          unfold sL ltS at hl7 ⊢
          rw [hL1, y1 33 (by decide), y1 34 (by decide), y1 35 (by decide), y1 36 (by decide), y1 37 (by decide), y1 38 (by decide)]
          exact hl7
    · unfold mine
      rw [if_pos (by decide)]
      exact mnt_eq
    · rw [if_pos w]
      rintro r X7 ⟨rfl, h7⟩
      have hD0 := hdi.2.1 w
      have hms := mrk_st (tg := tg) (wh := wh) (how := nI h0) hc (uC s.2 (14 + c)).length 0 s.2 hv.1.2.2.1 (by omega) (fun r hr => ?_) (fun i hi w => absurd w (Nat.not_lt_zero _))
      · rw [hD0, List.length_nil, hms]
        have hm7 := MI.smFk (p := meant tg wh) (how := nI h0) hc (uC s.2 (14 + c)).length 0 s hv.1
        refine ⟨_, rfl, _, n_rl (d := d) h7 hm7 (by omega) (by omega), ?_⟩
        rintro r X8 ⟨rfl, h8⟩
        exact ⟨rfl, rfl, h8⟩
      · rcases hdi.2.2.1 r hr with y | ⟨j, y1, y2⟩
        · exact y
        · rw [hD0] at y1
          exact absurd y1 (Nat.not_lt_zero _)
  refine ⟨fun z3 => rest (by rw [decide_eq_true z3, Bool.true_or]), fun z3 => ⟨fun z4 => bad (by rw [hst, decide_eq_false (show ¬ ¬ tg = 0 from fun y => y z3), b2i_z.mp z4, Bool.or_self, Bool.false_and, Bool.and_false, Bool.and_false]), fun z4 => rest (by rw [b2i_nz z4, Bool.or_true])⟩⟩
