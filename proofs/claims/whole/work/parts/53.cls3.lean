theorem b2i_nz {b : Bool} (h : ¬ b2i b = 0) : b = true := by
  cases b
  · exact absurd rfl h
  · rfl
def wi (x lo hi : Int32) : Bool := decide (¬ x < lo ∧ ¬ hi < x)
theorem wi_rng {x : Int32} {n : Nat} (hn : n < 2 ^ 31) (h : wi x 0 (nI n) = true) : ∃ e : Nat, e < n + 1 ∧ x = nI e := by
  have := of_decide_eq_true h
  exact rng hn this.1 this.2
def opQu (I : Nat → Int32) (x lm de du : Int32) : Int32 × (Nat → Int32) :=
  if wi x 0 5 && wi lm 1 12 && wi de (-1) 4 then
    (let e := x.toNatClampNeg
    if I (200 + 10 * e) = 0 then (0, upd (upd (upd (upd I (200 + 10 * e) 1) (201 + 10 * e) lm) (202 + 10 * e) de) (203 + 10 * e) du)
    else (if I (201 + 10 * e) = lm ∧ I (202 + 10 * e) = de ∧ I (203 + 10 * e) = du then 0 else -3, I))
  else (-1, I)
theorem k_queue {gc : Nat → Nat} {d : Nat} {h : AH} {A : Nat → Nat} {I : Nat → Int32} {v : Mu} {F : Nat} {x lm de du : Int32} (hR : RC gc h A I v F) (hdu : du = 0 ∨ du = 1) : WP gc (d + 2) 9 [.ref (A 0), .int x, .int lm, .int de, .int du] h (fun r h' => r = some (.int (opQu I x lm de du).1) ∧ RC gc h' A (opQu I x lm de du).2 v F ∧ KC h h') := by
  have hF := hR.rf
  have bad : (wi x 0 5 && wi lm 1 12 && wi de (-1) 4) = false → (some (Value.int (-1)) = some (Value.int (opQu I x lm de du).1) ∧ RC gc h A (opQu I x lm de du).2 v F ∧ KC h h) := fun hb => by
    unfold opQu
    rw [hb, if_neg (by decide)]
    exact ⟨rfl, hR, KC.refl⟩
  refine M9 ⟨_, k_isWithin, ?_⟩
  rintro r h' ⟨rfl, rfl⟩
  refine ⟨_, rfl, fun z => B9_28 (bad ?_), fun zx => ⟨_, k_isWithin, ?_⟩⟩
  · rw [show wi x 0 5 = false from b2i_z.mp z, Bool.false_and, Bool.false_and]
  rintro r h' ⟨rfl, rfl⟩
  have zx : wi x 0 5 = true := b2i_nz zx
  refine ⟨_, rfl, fun z => B9_28 (bad ?_), fun zl => ⟨_, k_isWithin, ?_⟩⟩
  · rw [show wi lm 1 12 = false from b2i_z.mp z, Bool.and_false, Bool.false_and]
  rintro r h' ⟨rfl, rfl⟩
  have zl : wi lm 1 12 = true := b2i_nz zl
  refine ⟨_, rfl, fun zd => ?_, fun z => B9_28 (bad ?_)⟩
  rotate_left
  · rw [show wi de (-1) 4 = false from b2i_z.mp z, Bool.and_false]
  have zd : wi de (-1) 4 = true := b2i_nz zd
  obtain ⟨e, he, rfl⟩ := wi_rng (n := 5) (by decide) zx
  obtain ⟨t', vs, g1, g2, g3, g4⟩ := hF.quA he
  have hex := hF.2.2.2.2.2.2.1 e he
  have ho : opQu I (nI e) lm de du = if I (200 + 10 * e) = 0 then (0, upd (upd (upd (upd I (200 + 10 * e) 1) (201 + 10 * e) lm) (202 + 10 * e) de) (203 + 10 * e) du)
    else (if I (201 + 10 * e) = lm ∧ I (202 + 10 * e) = de ∧ I (203 + 10 * e) = du then 0 else -3, I) := by
    unfold opQu
    rw [zx, zl, zd, nI_clamp (by omega)]
    rfl
  refine B9_30 ⟨_, _, hF.2.1, rfl, t', vs, _, g1, g2, g3, g4, _, _, hex, rfl, fun z3 => ?_, fun z3 => ?_⟩
  · refine B9_81 ⟨_, hex, Nat.le_of_ble_eq_true rfl, Or.inr rfl, ?_⟩
    rintro h3 rfl
    refine ⟨_, at_s, Nat.le_of_ble_eq_true rfl, trivial, ?_⟩
    rintro h4 rfl
    refine ⟨_, at_s, Nat.le_of_ble_eq_true rfl, trivial, ?_⟩
    rintro h5 rfl
    refine ⟨_, at_s, Nat.le_of_ble_eq_true rfl, hdu, ?_⟩
    rintro h6 rfl
    rw [set_set, set_set, set_set, ho, if_pos z3]
    generalize hU : upd (upd (upd (upd I (200 + 10 * e) 1) (201 + 10 * e) lm) (202 + 10 * e) de) (203 + 10 * e) du = U
    have key := RF.setQ (I' := U) hF hR.ok.1 he (fun j hj => by
      rw [← hU]
      unfold upd
      rw [if_neg (by omega), if_neg (by omega), if_neg (by omega), if_neg (by omega)])
    have e1 : U (200 + 10 * e) = 1 := by
      rw [← hU]
      unfold upd
      rw [if_neg (by omega), if_neg (by omega), if_neg (by omega), if_pos rfl]
    have e2 : U (201 + 10 * e) = lm := by
      rw [← hU]
      unfold upd
      rw [if_neg (by omega), if_neg (by omega), if_pos rfl]
    have e3 : U (202 + 10 * e) = de := by
      rw [← hU]
      unfold upd
      rw [if_neg (by omega), if_pos rfl]
    have e4 : U (203 + 10 * e) = du := by
      rw [← hU]
      unfold upd
      rw [if_pos rfl]
    rw [e1, e2, e3, e4] at key
    exact ⟨rfl, hR.wr hex (by omega) key, KC.set hex (by decide)⟩
  · rw [if_neg z3] at ho
    have fin : ∀ w : Int32, (if I (201 + 10 * e) = lm ∧ I (202 + 10 * e) = de ∧ I (203 + 10 * e) = du then (0 : Int32) else -3) = w → (some (Value.int w) = some (Value.int (opQu I (nI e) lm de du).1) ∧ RC gc h' A (opQu I (nI e) lm de du).2 v F ∧ KC h' h') := fun w hw => by
      rw [ho]
      exact ⟨by rw [← hw], hR, KC.refl⟩
    refine ⟨_, _, hex, rfl, fun z4 => B9_78 (B9_80 (fin _ ?_)), fun z4 => ⟨_, _, hex, rfl, fun z5 => B9_78 (B9_80 (fin _ ?_)), fun z5 => ⟨_, _, hex, rfl, fun z6 => B9_78 (B9_80 (fin _ ?_)), fun z6 => B9_80 (fin _ ?_)⟩⟩⟩
    · rw [if_neg (fun z => z4 z.1)]
    · rw [if_neg (fun z => z5 z.2.1)]
    · rw [if_neg (fun z => z6 z.2.2)]
    · rw [if_pos ⟨z4, z5, z6⟩]
def opPf (I : Nat → Int32) (x n : Int32) : Int32 × (Nat → Int32) :=
  if wi x 0 3 && wi n 1 12 then (0, upd I (300 + 10 * x.toNatClampNeg) n) else (-1, I)
theorem RX.wrC {gc : Nat → Nat} {h : AH} {A : Nat → Nat} {I : Nat → Int32} {U : Nat → Int32} {xs ys : Nat → List Nat} {v : Mu} {F : Nat} {e : Nat} {n0 n1 n2 : Int32} (hR : RX gc h A I xs ys v F) (he : e < 4) (hI : ∀ j, ¬ (300 + 10 * e ≤ j ∧ j ≤ 302 + 10 * e) → U j = I j) (e0 : U (300 + 10 * e) = n0) (e1 : U (301 + 10 * e) = n1) (e2 : U (302 + 10 * e) = n2) : RX gc (ah_set h (A (30 + e)) (2, [.int n0, .int n1, .int n2, .ref (A (54 + e)), .ref (A (58 + e))])) A U xs ys v F ∧ KC h (ah_set h (A (30 + e)) (2, [.int n0, .int n1, .int n2, .ref (A (54 + e)), .ref (A (58 + e))])) ∧ KO h (ah_set h (A (30 + e)) (2, [.int n0, .int n1, .int n2, .ref (A (54 + e)), .ref (A (58 + e))])) := by
  have hex := hR.rf.2.2.2.2.2.2.2 e he
  have key := RF.setC (I' := U) hR.rf hR.ok.1 he hI
  rw [e0, e1, e2] at key
  exact ⟨hR.wr hex (by omega) key, KC.set hex (by decide), KO.set hex (by decide)⟩
/-- a channel's numbers are written -/
theorem RC.wrC {gc : Nat → Nat} {h : AH} {A : Nat → Nat} {I U : Nat → Int32} {v : Mu} {F e : Nat} {n0 n1 n2 : Int32} (hR : RC gc h A I v F) (he : e < 4) (hI : ∀ j, ¬ (300 + 10 * e ≤ j ∧ j ≤ 302 + 10 * e) → U j = I j) (e0 : U (300 + 10 * e) = n0) (e1 : U (301 + 10 * e) = n1) (e2 : U (302 + 10 * e) = n2) : RC gc (ah_set h (A (30 + e)) (2, [.int n0, .int n1, .int n2, .ref (A (54 + e)), .ref (A (58 + e))])) A U v F ∧ KC h (ah_set h (A (30 + e)) (2, [.int n0, .int n1, .int n2, .ref (A (54 + e)), .ref (A (58 + e))])) := by
  have hex := hR.rf.2.2.2.2.2.2.2 e he
  have key := RF.setC (I' := U) hR.rf hR.ok.1 he hI
  rw [e0, e1, e2] at key
  exact ⟨hR.wr hex (by omega) key, KC.set hex (by decide)⟩
theorem k_prefetch {gc : Nat → Nat} {d : Nat} {h : AH} {A : Nat → Nat} {I : Nat → Int32} {v : Mu} {F : Nat} {x n : Int32} (hR : RC gc h A I v F) : WP gc (d + 3) 73 [.ref (A 0), .int x, .int n] h (fun r h' => r = some (.int (opPf I x n).1) ∧ RC gc h' A (opPf I x n).2 v F ∧ KC h h') := by
  have hF := hR.rf
  have bad : (wi x 0 3 && wi n 1 12) = false → (some (Value.int (-1)) = some (Value.int (opPf I x n).1) ∧ RC gc h A (opPf I x n).2 v F ∧ KC h h) := fun hb => by
    unfold opPf
    rw [hb, if_neg (by decide)]
    exact ⟨rfl, hR, KC.refl⟩
  refine M73 ⟨_, k_isChannel, ?_⟩
  rintro r h' ⟨rfl, rfl⟩
  refine ⟨_, rfl, fun z => B73_17 (bad ?_), fun zx => ⟨_, k_isWithin, ?_⟩⟩
  · rw [show wi x 0 3 = false from b2i_z.mp z, Bool.false_and]
  rintro r h' ⟨rfl, rfl⟩
  have zx : wi x 0 3 = true := b2i_nz zx
  refine ⟨_, rfl, fun zl => ?_, fun z => B73_17 (bad ?_)⟩
  rotate_left
  · rw [show wi n 1 12 = false from b2i_z.mp z, Bool.and_false]
  have zl : wi n 1 12 = true := b2i_nz zl
  obtain ⟨e, he, rfl⟩ := wi_rng (n := 3) (by decide) zx
  obtain ⟨t', vs, g1, g2, g3, g4⟩ := hF.chA he
  have hex := hF.2.2.2.2.2.2.2 e he
  have ho : opPf I (nI e) n = (0, upd I (300 + 10 * e) n) := by
    unfold opPf
    rw [zx, zl, nI_clamp (by omega)]
    rfl
  refine B73_19 ⟨_, _, hF.2.1, rfl, t', vs, _, g1, g2, g3, g4, _, hex, Nat.le_of_ble_eq_true rfl, trivial, ?_⟩
  rintro h3 rfl
  rw [ho]
  refine ⟨rfl, hR.wrC he (U := upd I (300 + 10 * e) n) (fun j hj => ?_) ?_ ?_ ?_⟩
  · unfold upd; rw [if_neg (by omega)]
  · unfold upd; rw [if_pos rfl]
  · unfold upd; rw [if_neg (by omega)]
  · unfold upd; rw [if_neg (by omega)]
def opBg (I : Nat → Int32) (x : Int32) : Int32 × (Nat → Int32) :=
  if wi x 0 3 then (if I (301 + 10 * x.toNatClampNeg) = 0 then (0, upd I (301 + 10 * x.toNatClampNeg) 1) else (-3, I)) else (-1, I)
theorem k_begin {gc : Nat → Nat} {d : Nat} {h : AH} {A : Nat → Nat} {I : Nat → Int32} {v : Mu} {F : Nat} {x : Int32} (hR : RC gc h A I v F) : WP gc (d + 3) 74 [.ref (A 0), .int x] h (fun r h' => r = some (.int (opBg I x).1) ∧ RC gc h' A (opBg I x).2 v F ∧ KC h h') := by
  have hF := hR.rf
  refine M74 ⟨_, k_isChannel, ?_⟩
  rintro r h' ⟨rfl, rfl⟩
  refine ⟨_, rfl, fun zx => ?_, fun z => ?_⟩
  · have zx : wi x 0 3 = true := b2i_nz zx
    obtain ⟨e, he, rfl⟩ := wi_rng (n := 3) (by decide) zx
    obtain ⟨t', vs, g1, g2, g3, g4⟩ := hF.chA he
    have hex := hF.2.2.2.2.2.2.2 e he
    have ho : opBg I (nI e) = if I (301 + 10 * e) = 0 then (0, upd I (301 + 10 * e) 1) else (-3, I) := by
      unfold opBg
      rw [zx, nI_clamp (by omega)]
      rfl
    refine B74_9 ⟨_, _, hF.2.1, rfl, t', vs, _, g1, g2, g3, g4, _, _, hex, rfl, fun z3 => B74_24 ⟨_, _, hF.2.1, rfl, t', vs, _, g1, g2, g3, g4, _, hex, Nat.le_of_ble_eq_true rfl, Or.inr rfl, ?_⟩, fun z3 => ?_⟩
    · rintro h3 rfl
      rw [ho, if_pos z3]
      refine ⟨rfl, hR.wrC he (U := upd I (301 + 10 * e) 1) (fun j hj => ?_) ?_ ?_ ?_⟩
      · unfold upd; rw [if_neg (by omega)]
      · unfold upd; rw [if_neg (by omega)]
      · unfold upd; rw [if_pos rfl]
      · unfold upd; rw [if_neg (by omega)]
    · rw [ho, if_neg z3]
      exact ⟨rfl, hR, KC.refl⟩
  · unfold opBg
    rw [show wi x 0 3 = false from b2i_z.mp z, if_neg (by decide)]
    exact ⟨rfl, hR, KC.refl⟩
