/-! the reference: count -/
theorem c4_loop {gc : Nat → Nat} {m : Nat} {M : Nat → Nat} {d : Nat} {X : XT} {q : QT} {n : Nat} {y x3 : Int32} (hn : X 8 0 = nI n) (hn2 : n ≤ 24) : ∀ l i g, i + l = n → q (some (.int (nI (g + cF (fun i => bE y (bnA X i)) l i)))) X → TM gc m M d 141 q 166 [.ref m, .int 4, .int y, .int x3, .int (nI g), .int (nI i)] [] X := by
  intro l
  induction l with
  | zero =>
    intro i g hi hq
    exact N141_166 ⟨fun _ => N141_195 hq, fun z => absurd (by rw [hn]; exact nI_le (by omega) (by omega)) z⟩
  | succ l ih =>
    intro i g hi hq
    have hcl : (nI i).toNatClampNeg = i := nI_clamp (by omega)
    have hu : cF (fun i => bE y (bnA X i)) (l + 1) i = (if bE y (bnA X i) then 1 else 0) + cF (fun i => bE y (bnA X i)) l (i + 1) := rfl
    rw [hu] at hq
    refine N141_166 ⟨fun z => absurd z (by rw [hn]; exact nI_ge (by omega) (by omega)), fun _ => ⟨nI_pos (by omega), by omega, ?_⟩⟩
    rw [hcl]
    refine ⟨fun z => N141_189 ?_, fun z => N141_189 ?_⟩
    · rw [show bE y (bnA X i) = false from decide_eq_false z, if_neg (by decide), Nat.zero_add] at hq
      rw [nI_1]
      exact ih (i + 1) g (by omega) hq
    · rw [show bE y (bnA X i) = true from decide_eq_true z, if_pos rfl, ← Nat.add_assoc] at hq
      rw [nI_1, nI_1]
      exact ih (i + 1) (g + 1) (by omega) hq
theorem c1_loop {gc : Nat → Nat} {m : Nat} {M : Nat → Nat} {d : Nat} {X : XT} {q : QT} {n w : Nat} {x3 : Int32} (hn : X 12 0 = nI n) (hn2 : n ≤ 25) : ∀ l i g, i + l = n → q (some (.int (nI (g + cF (fun i => cnQ w (cnA X i)) l i)))) X → TM gc m M d 141 q 201 [.ref m, .int 1, .int (nI w), .int x3, .int (nI g), .int (nI i)] [] X := by
  intro l
  induction l with
  | zero =>
    intro i g hi hq
    exact N141_201 ⟨fun _ => N141_271 ⟨fun _ => N141_281 (N141_283 hq), fun z => absurd z (by decide)⟩, fun z => absurd (by rw [hn]; exact nI_le (by omega) (by omega)) z⟩
  | succ l ih =>
    intro i g hi hq
    have hcl : (nI i).toNatClampNeg = i := nI_clamp (by omega)
    have hu : cF (fun i => cnQ w (cnA X i)) (l + 1) i = (if cnQ w (cnA X i) then 1 else 0) + cF (fun i => cnQ w (cnA X i)) l (i + 1) := rfl
    rw [hu] at hq
    refine N141_201 ⟨fun z => absurd z (by rw [hn]; exact nI_ge (by omega) (by omega)), fun _ => ⟨fun z => absurd rfl z, fun _ => ⟨nI_pos (by omega), by omega, ?_⟩⟩⟩
    rw [hcl]
    refine ⟨fun z => N141_229 ⟨fun _ => N141_265 ?_, fun z => absurd z (by decide)⟩, fun z => N141_229 ⟨fun _ => N141_265 ?_, fun z => absurd z (by decide)⟩⟩
    · rw [show cnQ w (cnA X i) = false from decide_eq_false z, if_neg (by decide), Nat.zero_add] at hq
      rw [nI_1]
      exact ih (i + 1) g (by omega) hq
    · rw [show cnQ w (cnA X i) = true from decide_eq_true z, if_pos rfl, ← Nat.add_assoc] at hq
      rw [nI_1, nI_1]
      exact ih (i + 1) (g + 1) (by omega) hq
def chO (o : Option Cn) : Int32 := match o with
  | some c => c.2.1
  | none => -1
theorem c7_loop {gc : Nat → Nat} {m : Nat} {M : Nat → Nat} {d : Nat} {X : XT} {q : QT} {n y : Nat} {x3 : Int32} (hn : X 12 0 = nI n) (hn2 : n ≤ 25) (hy : y < 4) : ∀ l i g, i + l = n → g ≤ y → q (some (.int (chO ((((cnL X n).drop i).filter (cnQ 0))[y - g]?)))) X → TM gc m M d 141 q 201 [.ref m, .int 7, .int (nI y), .int x3, .int (nI g), .int (nI i)] [] X := by
  intro l
  induction l with
  | zero =>
    intro i g hi hg hq
    rw [List.drop_eq_nil_of_le (by rw [cnL_len]; omega)] at hq
    exact N141_201 ⟨fun _ => N141_271 ⟨fun z => absurd rfl z, fun _ => N141_283 hq⟩, fun z => absurd (by rw [hn]; exact nI_le (by omega) (by omega)) z⟩
  | succ l ih =>
    intro i g hi hg hq
    have hil : i < (cnL X n).length := by rw [cnL_len]; omega
    have hcl : (nI i).toNatClampNeg = i := nI_clamp (by omega)
    have hent : (cnL X n)[i] = cnA X i := (List.getElem_eq_iff _).mpr (cnL_get (by omega))
    rw [List.drop_eq_getElem_cons hil, hent] at hq
    refine N141_201 ⟨fun z => absurd z (by rw [hn]; exact nI_ge (by omega) (by omega)), fun _ => ⟨fun _ => N141_229 ⟨fun z => absurd rfl z, fun _ => ⟨nI_pos (by omega), by omega, ?_⟩⟩, fun z => absurd z (by decide)⟩⟩
    rw [hcl]
    refine ⟨fun z => N141_248 ?_, fun z => N141_265 ?_⟩
    · rw [List.filter_cons_of_pos (show cnQ 0 (cnA X i) = true from decide_eq_true z)] at hq
      refine ⟨fun w => N141_262 (N141_265 ?_), fun w => ⟨nI_pos (by omega), by omega, ?_⟩⟩
      · have hgy : g < y := by
          apply Nat.lt_of_le_of_ne hg
          intro e
          exact w (by rw [e])
        rw [nI_1, nI_1]
        refine ih (i + 1) (g + 1) (by omega) (by omega) ?_
        rw [show y - g = (y - (g + 1)) + 1 by omega] at hq
        exact hq
      · have hgy : g = y := (nI_eq (by omega) (by omega)).mp w
        subst hgy
        rw [Nat.sub_self] at hq
        rw [hcl]
        exact hq
    · rw [List.filter_cons_of_neg (show ¬ cnQ 0 (cnA X i) = true from fun w => z (of_decide_eq_true w))] at hq
      rw [nI_1]
      exact ih (i + 1) g (by omega) hg hq
theorem n_count {gc : Nat → Nat} {m : Nat} {M : Nat → Nat} {d : Nat} {X : XT} {s : St} {P T : Nat} {x y : Int32} (h : SX 0 X s) (hv : IV P T s) : WM gc m M (d + 3) 141 [.ref m, .int x, .int y] X (fun r X' => r = some (.int (opCt s x y)) ∧ SX 0 X' s) := by
  have hall := hv.1.2.2.2.1.all hv.1.2.2.1
  have hfl := flat_len (v := s.2)
  have hp := h.2.2.2.2.2.1
  have hcq := hv.1.2.2.1
  obtain ⟨n, hN⟩ := h.2.2.2.1
  have hN : sN X n s.2 := hN
  have hn24 := sN_24 hN hv.2.2.1
  by_cases x5 : x = 5
  · subst x5
    refine N141 ⟨fun _ => N141_11 ⟨fun z => absurd rfl z, fun _ => N141_27 ⟨?_, h⟩⟩, fun z => absurd rfl z⟩
    rw [h.2.2.2.2.2.2.2.2.1]
    show some (Value.int (s.1 1 + nI 0)) = some (Value.int (s.1 1))
    rw [show s.1 1 + nI 0 = s.1 1 from Int32.add_zero _]
  by_cases x6 : x = 6
  · subst x6
    refine N141 ⟨fun z => absurd z x5, fun _ => ⟨fun z => absurd rfl z, fun _ => N141_11 ⟨fun _ => N141_23 (N141_27 ⟨?_, h⟩), fun z => absurd z x5⟩⟩⟩
    rw [h.2.2.2.2.2.2.2.2.2]
    rfl
  refine N141 ⟨fun z => absurd z x5, fun _ => ⟨fun _ => N141_28 ?_, fun z => absurd z x6⟩⟩
  have bad : opCt s x y = -1000 → TM gc m M (d + 2) 141 (fun r X' => r = some (.int (opCt s x y)) ∧ SX 0 X' s) 88 [.ref m, .int x, .int y, .retAddr 0, .retAddr 0, .retAddr 0] [.int 0] X := fun hb => by
    rw [hb]
    exact N141_88 ⟨fun z => absurd rfl z, fun _ => ⟨rfl, h⟩⟩
  by_cases x0 : x = 0
  · subst x0
    have ho : opCt s 0 y = if wi y 0 5 then nI (uC s.2 (2 + y.toNatClampNeg)).length else -1000 := rfl
    refine ⟨fun _ => N141_37 ⟨_, n_in (k := 5) (by decide), ?_⟩, fun z => absurd rfl z⟩
    rintro r X3 ⟨rfl, rfl⟩
    refine ⟨_, rfl, fun z => N141_83 (N141_88 ⟨fun _ => N141_97 ⟨fun z => absurd rfl z, fun _ => ⟨_, n_isQ (d := d) h.2.1 hv.1.1, ?_⟩⟩, fun z => absurd z (by decide)⟩), fun z => N141_46 ⟨fun w => absurd w (by decide), fun _ => ⟨fun w => absurd w (by decide), fun _ => ⟨fun _ => N141_70 ⟨fun _ => N141_87 (bad ?_), fun w => absurd w (by decide)⟩, fun w => absurd w (by decide)⟩⟩⟩⟩
    · have z : wi y 0 5 = true := b2i_nz z
      obtain ⟨w, hw, rfl⟩ := wi_rng (n := 5) (by decide) z
      have hw : w < 6 := hw
      have hcl : (nI w).toNatClampNeg = w := nI_clamp (by omega)
      rw [ho, z, if_pos rfl, hcl]
      rintro r X4 ⟨rfl, rfl⟩
      have hqu : isQu s.1 (nI w) = decide (¬ s.1 (200 + 10 * w) = 0) := by
        show (wi (nI w) 0 5 && _) = _
        rw [z, hcl, Bool.true_and]
      rw [hqu]
      refine ⟨_, rfl, fun y => N141_117 (N141_118 ⟨?_, h⟩), fun y => ⟨_, n_readyCount (d := d + 1) hp.1 (by omega), ?_⟩⟩
      · have hd : s.1 (200 + 10 * w) = 0 := Decidable.not_not.mp (of_decide_eq_false (b2i_z.mp y))
        have hW : uC s.2 (2 + w) = [] := List.eq_nil_iff_forall_not_mem.mpr (fun r hr => by
          obtain ⟨-, -, q', w3, w4, w5⟩ := hv.1.2.2.2.2.2.1 (2 + w) (isC_q hw) r hr
          rw [hcq.2 w hw r hr] at w4
          have := (nI_eq (by omega) (by omega)).mp w4
          subst this
          exact w5 hd)
        rw [hW]
        rfl
      · rintro r X5 ⟨rfl, rfl⟩
        refine ⟨_, rfl, N141_118 ⟨?_, h⟩⟩
        rw [show cF (fun i => rdQ w (cpA X5 i)) (flat s.2).length 0 = (uC s.2 (2 + w)).length from sel_cnt hp.2 (sel_q hcq hw)]
    · rw [ho, show wi y 0 5 = false from b2i_z.mp z]
      rfl
  refine ⟨fun z => absurd z x0, fun _ => ⟨fun x1 => N141_46 ?_, fun x1 => N141_37 ⟨_, n_in (k := 5) (by decide), ?_⟩⟩⟩
  rotate_left
  · subst x1
    have ho : opCt s 1 y = if wi y 0 5 then nI (uR s.2 (8 + y.toNatClampNeg)).length else -1000 := rfl
    rintro r X3 ⟨rfl, rfl⟩
    refine ⟨_, rfl, fun z => N141_83 (N141_88 ⟨fun _ => N141_97 ⟨fun _ => N141_119 ⟨fun _ => N141_130 ⟨fun _ => N141_155 ⟨fun _ => N141_198 ?_, fun w => absurd w (by decide)⟩, fun w => absurd w (by decide)⟩, fun w => absurd w (by decide)⟩, fun w => absurd w (by decide)⟩, fun z => absurd z (by decide)⟩), fun z => N141_46 ⟨fun w => absurd w (by decide), fun _ => ⟨fun w => absurd w (by decide), fun _ => ⟨fun _ => N141_70 ⟨fun _ => N141_87 (bad ?_), fun w => absurd w (by decide)⟩, fun w => absurd w (by decide)⟩⟩⟩⟩
    · have z : wi y 0 5 = true := b2i_nz z
      obtain ⟨w, hw, rfl⟩ := wi_rng (n := 5) (by decide) z
      have hw : w < 6 := hw
      have hcl : (nI w).toNatClampNeg = w := nI_clamp (by omega)
      rw [ho, z, if_pos rfl, hcl]
      refine c1_loop (w := w) hN.1 (by omega) n 0 0 (by omega) ⟨?_, h⟩
      rw [Nat.zero_add, cF_map (p := cnQ w) (f := cnA X3)]
      show some (Value.int (nI ((cnL X3 n).countP (cnQ w)))) = _
      rw [List.countP_eq_length_filter, hN.2.2 w hw, List.length_map]
    · rw [ho, show wi y 0 5 = false from b2i_z.mp z]
      rfl
  have ch : ∀ (hx : x = 2 ∨ x = 3 ∨ x = 7), (wi y 0 3 = true → TM gc m M (d + 2) 141 (fun r X' => r = some (.int (opCt s x y)) ∧ SX 0 X' s) 97 [.ref m, .int x, .int y, .int 1, .retAddr 0, .retAddr 0] [] X) → (wi y 0 3 = false → opCt s x y = -1000) → TM gc m M (d + 2) 141 (fun r X' => r = some (.int (opCt s x y)) ∧ SX 0 X' s) 62 [.ref m, .int x, .int y, .retAddr 0, .retAddr 0, .retAddr 0] [] X := fun hx h1 h2 => by
    refine N141_62 ⟨_, n_in (k := 3) (by decide), ?_⟩
    rintro r X3 ⟨rfl, rfl⟩
    refine ⟨_, rfl, fun z => N141_83 (N141_88 ⟨fun _ => h1 (b2i_nz z), fun z => absurd z (by decide)⟩), fun z => N141_70 ⟨fun _ => N141_87 (bad (h2 (b2i_z.mp z))), fun w => ?_⟩⟩
    exfalso
    rcases hx with e | e | e <;> rw [e] at w <;> exact absurd w (by decide)
  refine ⟨fun x2 => ch (Or.inl x2) (fun z => ?_) (fun z => ?_), fun x2 => ⟨fun x3 => ch (Or.inr (Or.inl x3)) (fun z => ?_) (fun z => ?_), fun x3 => ⟨fun x7 => N141_70 ?_, fun x7 => ch (Or.inr (Or.inr x7)) (fun z => ?_) (fun z => ?_)⟩⟩⟩
  · subst x2
    obtain ⟨c, hc, rfl⟩ := wi_rng (n := 3) (by decide) z
    have hc : c < 4 := hc
    have hcl : (nI c).toNatClampNeg = c := nI_clamp (by omega)
    have ho : opCt s 2 (nI c) = if wi (nI c) 0 3 then nI (uC s.2 (14 + (nI c).toNatClampNeg)).length else -1000 := rfl
    rw [ho, z, if_pos rfl, hcl]
    refine N141_97 ⟨fun _ => N141_119 ⟨fun w => absurd rfl w, fun _ => ⟨_, n_heldCount (d := d + 1) hp.1 (by omega), ?_⟩⟩, fun w => absurd w (by decide)⟩
    rintro r X3 ⟨rfl, rfl⟩
    refine ⟨_, rfl, ?_, h⟩
    rw [show cF (fun i => hdC c (cpA X3 i)) (flat s.2).length 0 = (uC s.2 (14 + c)).length from sel_cnt hp.2 (sel_c hc)]
  · subst x2
    have ho : opCt s 2 y = if wi y 0 3 then nI (uC s.2 (14 + y.toNatClampNeg)).length else -1000 := rfl
    rw [ho, z]
    rfl
  · subst x3
    obtain ⟨c, hc, rfl⟩ := wi_rng (n := 3) (by decide) z
    have hc : c < 4 := hc
    have hcl : (nI c).toNatClampNeg = c := nI_clamp (by omega)
    have hd := h.2.2.2.2.1 c hc
    have ho : opCt s 3 (nI c) = if wi (nI c) 0 3 then (if s.1 (301 + 10 * (nI c).toNatClampNeg) = 0 then -1 else nI (uD s.2 (18 + (nI c).toNatClampNeg)).length) else -1000 := rfl
    rw [ho, z, if_pos rfl, hcl]
    refine N141_97 ⟨fun _ => N141_119 ⟨fun _ => N141_130 ⟨fun w => absurd rfl w, fun _ => ⟨nI_pos (by omega), by omega, ?_⟩⟩, fun w => absurd w (by decide)⟩, fun w => absurd w (by decide)⟩
    rw [hcl, hd.2.2.1, hd.2.2.2.1]
    refine ⟨fun w => N141_153 (N141_154 ⟨?_, h⟩), fun w => ⟨nI_pos (by omega), hc, N141_154 ⟨?_, h⟩⟩⟩
    · rw [if_pos w]
    · rw [if_neg w]
  · subst x3
    have ho : opCt s 3 y = if wi y 0 3 then (if s.1 (301 + 10 * y.toNatClampNeg) = 0 then -1 else nI (uD s.2 (18 + y.toNatClampNeg)).length) else -1000 := rfl
    rw [ho, z]
    rfl
  · refine ⟨fun x4 => N141_87 (bad ?_), fun x4 => ⟨_, n_in (k := 4) (by decide), ?_⟩⟩
    · unfold opCt
      rw [if_neg x0, if_neg x1, if_neg x2, if_neg x3, if_neg x4, if_neg x5, if_neg x6, if_neg x7]
    · subst x4
      have ho : opCt s 4 y = if wi y 0 4 then nI ((uB s.2 0).countP (bE y)) else -1000 := rfl
      rintro r X3 ⟨rfl, rfl⟩
      refine ⟨_, rfl, fun z => N141_87 (bad ?_), fun z => N141_83 (N141_88 ⟨fun _ => N141_97 ⟨fun _ => N141_119 ⟨fun _ => N141_130 ⟨fun _ => N141_155 ⟨fun w => absurd rfl w, fun _ => ?_⟩, fun w => absurd w (by decide)⟩, fun w => absurd w (by decide)⟩, fun w => absurd w (by decide)⟩, fun w => absurd w (by decide)⟩)⟩
      · rw [ho, show wi y 0 4 = false from b2i_z.mp z]
        rfl
      · have hb := h.2.2.1
        have hbn := hv.1.2.2.2.2.2.2.1.1
        rw [ho, show wi y 0 4 = true from b2i_nz z, if_pos rfl]
        refine c4_loop hb.1 hbn (uB s.2 0).length 0 0 (by omega) ⟨?_, h⟩
        rw [Nat.zero_add, cF_map (p := bE y) (f := bnA X3)]
        show some (Value.int (nI ((bnL X3 (uB s.2 0).length).countP (bE y)))) = _
        rw [hb.2.countP_eq]
  · subst x7
    obtain ⟨c, hc, rfl⟩ := wi_rng (n := 3) (by decide) z
    have hc : c < 4 := hc
    have hcl : (nI c).toNatClampNeg = c := nI_clamp (by omega)
    have ho : opCt s 7 (nI c) = if wi (nI c) 0 3 then fRow s.2 (nI c).toNatClampNeg else -1000 := rfl
    rw [ho, z, if_pos rfl, hcl]
    refine N141_97 ⟨fun _ => N141_119 ⟨fun _ => N141_130 ⟨fun _ => N141_155 ⟨fun _ => N141_198 ?_, fun w => absurd w (by decide)⟩, fun w => absurd w (by decide)⟩, fun w => absurd w (by decide)⟩, fun w => absurd w (by decide)⟩
    refine c7_loop hN.1 (by omega) hc n 0 0 (by omega) (Nat.zero_le _) ⟨?_, h⟩
    rw [List.drop_zero, hN.2.2 0 (by decide), List.getElem?_map, Nat.sub_zero]
    unfold fRow
    show some (Value.int (chO (Option.map (cnM 0) ((uR s.2 8)[c]?)))) = _
    cases (uR s.2 8)[c]? <;> rfl
  · subst x7
    have ho : opCt s 7 y = if wi y 0 3 then fRow s.2 y.toNatClampNeg else -1000 := rfl
    rw [ho, z]
    rfl
