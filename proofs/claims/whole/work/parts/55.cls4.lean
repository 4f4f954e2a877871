/-! bindings, consumers -/
theorem k_newB {gc : Nat → Nat} {d : Nat} {h : AH} {x1 x2 x3 : Int32} : WP gc (d + 1) 22 [.ref h.1, .int x1, .int x2, .int x3] (ah_new h (1, dfl 1)) (fun r h' => r = none ∧ h' = ah_new h (1, [.int x1, .int x2, .int x3])) := by
  refine M22 ⟨_, at_new, Nat.le_of_ble_eq_true rfl, trivial, ?_⟩
  rintro h2 rfl
  refine ⟨_, at_s, Nat.le_of_ble_eq_true rfl, trivial, ?_⟩
  rintro h3 rfl
  refine ⟨_, at_s, Nat.le_of_ble_eq_true rfl, trivial, ?_⟩
  rintro h4 rfl
  refine ⟨rfl, ?_⟩
  rw [set_set, set_set]
  exact set_new rfl
theorem k_newM {gc : Nat → Nat} {d : Nat} {h : AH} {x1 x2 x3 x4 : Int32} (h4 : x4 = 0 ∨ x4 = 1) : WP gc (d + 1) 42 [.ref h.1, .int x1, .int x2, .int x3, .int x4] (ah_new h (7, dfl 7)) (fun r h' => r = none ∧ h' = ah_new h (7, [.int x1, .int x2, .int x3, .int x4])) := by
  refine M42 ⟨_, at_new, Nat.le_of_ble_eq_true rfl, trivial, ?_⟩
  rintro h2 rfl
  refine ⟨_, at_s, Nat.le_of_ble_eq_true rfl, trivial, ?_⟩
  rintro h3 rfl
  refine ⟨_, at_s, Nat.le_of_ble_eq_true rfl, trivial, ?_⟩
  rintro h5 rfl
  refine ⟨_, at_s, Nat.le_of_ble_eq_true rfl, h4, ?_⟩
  rintro h6 rfl
  refine ⟨rfl, ?_⟩
  rw [set_set, set_set, set_set]
  exact set_new rfl
theorem k_newDn {gc : Nat → Nat} {d : Nat} {h : AH} {x1 x3 : Int32} : WP gc (d + 1) 43 [.ref h.1, .int x1, .null, .int x3] (ah_new h (5, dfl 5)) (fun r h' => r = none ∧ h' = ah_new h (5, [.int x1, .null, .int x3])) := by
  refine M43n ⟨_, at_new, Nat.le_of_ble_eq_true rfl, trivial, ?_⟩
  rintro h2 rfl
  refine ⟨_, at_s, Nat.le_of_ble_eq_true rfl, trivial, ?_⟩
  rintro h3 rfl
  refine ⟨_, at_s, Nat.le_of_ble_eq_true rfl, trivial, ?_⟩
  rintro h4 rfl
  refine ⟨rfl, ?_⟩
  rw [set_set, set_set]
  exact set_new rfl
theorem k_newD {gc : Nat → Nat} {d m : Nat} {h : AH} {x1 x3 : Int32} : WP gc (d + 1) 43 [.ref h.1, .int x1, .ref m, .int x3] (ah_new h (5, dfl 5)) (fun r h' => r = none ∧ h' = ah_new h (5, [.int x1, .ref m, .int x3])) := by
  refine M43 ⟨_, at_new, Nat.le_of_ble_eq_true rfl, trivial, ?_⟩
  rintro h2 rfl
  refine ⟨_, at_s, Nat.le_of_ble_eq_true rfl, trivial, ?_⟩
  rintro h3 rfl
  refine ⟨_, at_s, Nat.le_of_ble_eq_true rfl, trivial, ?_⟩
  rintro h4 rfl
  refine ⟨rfl, ?_⟩
  rw [set_set, set_set]
  exact set_new rfl
theorem k_newN {gc : Nat → Nat} {d : Nat} {h : AH} {x1 x2 : Int32} (h4 : x2 = 0 ∨ x2 = 1) : WP gc (d + 1) 59 [.ref h.1, .int x1, .int x2] (ah_new h (3, dfl 3)) (fun r h' => r = none ∧ h' = ah_new h (3, [.int x1, .int x2])) := by
  refine M59 ⟨_, at_new, Nat.le_of_ble_eq_true rfl, trivial, ?_⟩
  rintro h2 rfl
  refine ⟨_, at_s, Nat.le_of_ble_eq_true rfl, h4, ?_⟩
  rintro h3 rfl
  refine ⟨rfl, ?_⟩
  rw [set_set]
  exact set_new rfl
theorem k_newC {gc : Nat → Nat} {d m : Nat} {h : AH} {x2 x3 : Int32} : WP gc (d + 1) 50 [.ref h.1, .ref m, .int x2, .int x3] (ah_new h (4, dfl 4)) (fun r h' => r = none ∧ h' = ah_new h (4, [.ref m, .int x2, .int x3, .int 0, .int 0, .int (-1)])) := by
  refine M50 ⟨_, at_new, Nat.le_of_ble_eq_true rfl, Or.inl rfl, ?_⟩
  rintro h2 rfl
  refine ⟨_, at_s, Nat.le_of_ble_eq_true rfl, trivial, ?_⟩
  rintro h3 rfl
  refine ⟨_, at_s, Nat.le_of_ble_eq_true rfl, trivial, ?_⟩
  rintro h4 rfl
  refine ⟨_, at_s, Nat.le_of_ble_eq_true rfl, trivial, ?_⟩
  rintro h5 rfl
  refine ⟨_, at_s, Nat.le_of_ble_eq_true rfl, trivial, ?_⟩
  rintro h6 rfl
  refine ⟨_, at_s, Nat.le_of_ble_eq_true rfl, trivial, ?_⟩
  rintro h7 rfl
  refine ⟨rfl, ?_⟩
  rw [set_set, set_set, set_set, set_set, set_set]
  exact set_new rfl
/-- the first place that fits, or the length -/
def ix {α : Type} (p : α → Bool) : List α → Nat
  | [] => 0
  | y :: ys => if p y then 0 else ix p ys + 1
def fo {α : Type} (p : α → Bool) (ys : List α) (i : Nat) : Int32 := if ix p ys < ys.length then nI (i + ix p ys) else -1
theorem fo_cons {α : Type} {p : α → Bool} {y : α} {ys : List α} {i : Nat} : fo p (y :: ys) i = if p y then nI i else fo p ys (i + 1) := by
  unfold fo
  by_cases hp : p y = true
  · rw [show ix p (y :: ys) = 0 from if_pos hp, List.length_cons, if_pos (by omega), if_pos hp]
    rfl
  · rw [show ix p (y :: ys) = ix p ys + 1 from if_neg hp, if_neg hp]
    by_cases hl : ix p ys < ys.length
    · rw [List.length_cons, if_pos (by omega), if_pos hl, show i + (ix p ys + 1) = i + 1 + ix p ys by omega]
    · rw [List.length_cons, if_neg (by omega), if_neg hl]
theorem nI_m1 {n : Nat} (h : n < 2 ^ 31) : ¬ nI n = -1 := fun z => by
  have := nI_pos h
  rw [z] at this
  exact this (by decide)
theorem fo_c {α : Type} {p : α → Bool} {ys : List α} (hl : ys.length < 1000) : (fo p ys 0 = -1 ∧ ¬ ix p ys < ys.length) ∨ (∃ h : ix p ys < ys.length, fo p ys 0 = nI (ix p ys) ∧ ¬ fo p ys 0 = -1) := by
  unfold fo
  by_cases h : ix p ys < ys.length
  · right
    rw [if_pos h, Nat.zero_add]
    exact ⟨h, rfl, nI_m1 (by omega)⟩
  · left
    rw [if_neg h]
    exact ⟨rfl, h⟩
def bEq (x1 x2 x3 : Int32) (b : Bnd) : Bool := decide (b.1 = x1 ∧ b.2.1 = x2 ∧ b.2.2 = x3)
theorem findB_loop {gc : Nat → Nat} {d : Nat} {h : AH} {A : Nat → Nat} {I : Nat → Int32} {xs ys : Nat → List Nat} {v : Mu} {F : Nat} {q : PT} {x1 x2 x3 : Int32} (hR : RX gc h A I xs ys v F) (hl : (uB v 0).length ≤ 64) : ∀ n i v5, i + n = (uB v 0).length → q (some (.int (fo (bEq x1 x2 x3) ((uB v 0).drop i) i))) h → TT gc (d + 3) 16 q 3 [.ref (A 0), .int x1, .int x2, .int x3, .int (nI i), v5] [] h := by
  have hF := hR.rf
  have hb : isB 0 := rfl
  intro n
  induction n with
  | zero =>
    intro i v5 hi hq
    refine B16_3 ⟨_, _, hF.2.1, rfl, hR.lst (k := 0) (by decide), _, rx_sizeB hR hb (hR.xB hb), ?_⟩
    rintro r h' ⟨rfl, rfl⟩
    refine ⟨_, rfl, fun _ => B16_65 ?_, fun z => absurd (nI_le (by omega) (by omega)) z⟩
    rw [List.drop_eq_nil_of_le (by omega)] at hq
    exact hq
  | succ n ih =>
    intro i v5 hi hq
    have hil : i < (uB v 0).length := by omega
    refine B16_3 ⟨_, _, hF.2.1, rfl, hR.lst (k := 0) (by decide), _, rx_sizeB hR hb (hR.xB hb), ?_⟩
    rintro r h' ⟨rfl, rfl⟩
    refine ⟨_, rfl, fun z => absurd z (nI_ge hil (by omega)), fun _ => ⟨_, _, hF.2.1, rfl, hR.lst (k := 0) (by decide), _, rx_getB hR hb (hR.xB hb) hil, ?_⟩⟩
    rintro r h2 ⟨a, rfl, rfl, -, ha⟩
    rw [List.drop_eq_getElem_cons hil, fo_cons] at hq
    have nx : bEq x1 x2 x3 (uB v 0)[i] = false → TT gc (d + 3) 16 q 59 [.ref (A 0), .int x1, .int x2, .int x3, .int (nI i), .ref a] [] h2 := fun hz => by
      rw [hz] at hq
      refine B16_59 ?_
      rw [nI_1]
      exact ih (i + 1) _ (by omega) hq
    refine ⟨a, rfl, _, ha, _, _, ha, rfl, fun z => nx ?_, fun z1 => ⟨_, _, ha, rfl, fun z => nx ?_, fun z2 => ⟨_, _, ha, rfl, fun z => nx ?_, fun z3 => ?_⟩⟩⟩
    · exact decide_eq_false (fun w => z w.1)
    · exact decide_eq_false (fun w => z w.2.1)
    · exact decide_eq_false (fun w => z w.2.2)
    · rw [show bEq x1 x2 x3 (uB v 0)[i] = true from decide_eq_true ⟨z1, z2, z3⟩] at hq
      exact hq
theorem k_findB {gc : Nat → Nat} {d : Nat} {h : AH} {A : Nat → Nat} {I : Nat → Int32} {xs ys : Nat → List Nat} {v : Mu} {F : Nat} {x1 x2 x3 : Int32} (hR : RX gc h A I xs ys v F) (hl : (uB v 0).length ≤ 64) : WP gc (d + 4) 16 [.ref (A 0), .int x1, .int x2, .int x3] h (fun r h' => r = some (.int (fo (bEq x1 x2 x3) (uB v 0) 0)) ∧ h' = h) :=
  M16 (findB_loop hR hl (uB v 0).length 0 _ (by omega) ⟨rfl, rfl⟩)
def opBd (I : Nat → Int32) (v : Mu) (x1 x2 x3 : Int32) : Int32 × Mu :=
  if isEx I x1 && isQu I x2 && isPat x3 then
    (if ix (bEq x1 x2 x3) (uB v 0) < (uB v 0).length then (-3, v) else if (uB v 0).length < 24 then (0, upB v 0 (uB v 0 ++ [(x1, x2, x3)])) else (-2, v))
  else (-1, v)
theorem and3 {a b c : Bool} (h : (a && b && c) = false → False) : a = true ∧ b = true ∧ c = true := by
  cases a <;> cases b <;> cases c <;> first | exact ⟨rfl, rfl, rfl⟩ | exact (h rfl).elim
theorem k_bind {gc : Nat → Nat} {d : Nat} {h : AH} {A : Nat → Nat} {I : Nat → Int32} {v : Mu} {F : Nat} {x1 x2 x3 : Int32} (hR : RC gc h A I v (F + 1)) (hl : (uB v 0).length ≤ 24) : WP gc (d + 7) 10 [.ref (A 0), .int x1, .int x2, .int x3] h (fun r h' => r = some (.int (opBd I v x1 x2 x3).1) ∧ RC gc h' A I (opBd I v x1 x2 x3).2 F ∧ KC h h') := by
  obtain ⟨xs, hX⟩ := hR
  have hR : RC gc h A I v (F + 1) := ⟨xs, hX⟩
  have hF := hX.rf
  have bad : (isEx I x1 && isQu I x2 && isPat x3) = false → (some (Value.int (-1)) = some (Value.int (opBd I v x1 x2 x3).1) ∧ RC gc h A I (opBd I v x1 x2 x3).2 F ∧ KC h h) := fun hb => by
    unfold opBd
    rw [hb, if_neg (by decide)]
    exact ⟨rfl, hR.le (by omega), KC.refl⟩
  refine M10 ⟨⟨_, hF.2.1⟩, _, k_isE hF, ?_⟩
  rintro r h' ⟨rfl, rfl⟩
  refine ⟨_, rfl, fun z => B10_23 (bad ?_), fun z1 => ⟨⟨_, hF.2.1⟩, _, k_isQ hF, ?_⟩⟩
  · rw [b2i_z.mp z]; rfl
  rintro r h' ⟨rfl, rfl⟩
  refine ⟨_, rfl, fun z => B10_23 (bad ?_), fun z2 => ⟨_, k_isPattern, ?_⟩⟩
  · rw [b2i_z.mp z, Bool.and_false]; rfl
  rintro r h' ⟨rfl, rfl⟩
  refine ⟨_, rfl, fun z3 => B10_25 ⟨⟨_, hF.2.1⟩, _, k_findB hX (by omega), ?_⟩, fun z => B10_23 (bad ?_)⟩
  rotate_left
  · rw [b2i_z.mp z, Bool.and_false]
  rintro r h' ⟨rfl, rfl⟩
  have ho : opBd I v x1 x2 x3 = if ix (bEq x1 x2 x3) (uB v 0) < (uB v 0).length then (-3, v) else if (uB v 0).length < 24 then (0, upB v 0 (uB v 0 ++ [(x1, x2, x3)])) else (-2, v) := by
    unfold opBd
    rw [b2i_nz z1, b2i_nz z2, b2i_nz z3]
    rfl
  rcases fo_c (p := bEq x1 x2 x3) (ys := uB v 0) (by omega) with ⟨w1, w2⟩ | ⟨w1, w2, w3⟩
  · rw [if_neg w2] at ho
    refine ⟨_, rfl, fun _ => B10_39 ⟨_, _, hF.2.1, rfl, hX.lst (k := 0) (by decide), _, rx_sizeB hX rfl (hX.xB rfl), ?_⟩, fun z => absurd w1 z⟩
    rintro r h' ⟨rfl, rfl⟩
    refine ⟨_, rfl, pk_lt (uB v 0).length 24 (fun hn => ?_) (fun hn => ?_)⟩
    · rw [if_pos hn] at ho
      obtain ⟨g1, g2, g3, g4, g5⟩ := hX.new (t := 1) (vs := [.int x1, .int x2, .int x3]) (Nat.le_of_ble_eq_true rfl)
      refine B10_54 ⟨_, _, hF.2.1, rfl, g2, Nat.le_trans (by decide) g3, ?_⟩
      rintro _ _ rfl rfl
      refine ⟨_, k_newB, ?_⟩
      rintro r h' ⟨rfl, rfl⟩
      refine ⟨rfl, g1.lst (k := 0) (by decide), _, rx_addB (x := (x1, x2, x3)) g1 rfl (g1.xB rfl) (by rw [if_neg (by decide)]; omega) at_new (fun z => absurd z (by unfold isC; omega)), ?_⟩
      rintro r h' ⟨rfl, q1, q2⟩
      rw [ho]
      have q1' := q1
      rw [hX.xB rfl] at q1'
      exact ⟨_, rfl, rfl, ⟨_, q1'⟩, g4.trans q2.kc⟩
    · rw [if_neg (by omega)] at ho
      rw [ho]
      exact ⟨rfl, hR.le (by omega), KC.refl⟩
  · rw [if_pos w1] at ho
    refine ⟨_, rfl, fun z => absurd z w3, fun _ => ?_⟩
    rw [ho]
    exact ⟨rfl, hR.le (by omega), KC.refl⟩
def opUb (I : Nat → Int32) (v : Mu) (x1 x2 x3 : Int32) : Int32 × Mu :=
  if isEx I x1 && isQu I x2 && isPat x3 then
    (if ix (bEq x1 x2 x3) (uB v 0) < (uB v 0).length then (0, upB v 0 ((uB v 0).eraseIdx (ix (bEq x1 x2 x3) (uB v 0)))) else (-3, v))
  else (-1, v)
theorem k_unbind {gc : Nat → Nat} {d : Nat} {h : AH} {A : Nat → Nat} {I : Nat → Int32} {v : Mu} {F : Nat} {x1 x2 x3 : Int32} (hR : RC gc h A I v F) (hl : (uB v 0).length ≤ 24) : WP gc (d + 5) 31 [.ref (A 0), .int x1, .int x2, .int x3] h (fun r h' => r = some (.int (opUb I v x1 x2 x3).1) ∧ RC gc h' A I (opUb I v x1 x2 x3).2 F ∧ KC h h') := by
  obtain ⟨xs, hX⟩ := hR
  have hR : RC gc h A I v F := ⟨xs, hX⟩
  have hF := hX.rf
  have bad : (isEx I x1 && isQu I x2 && isPat x3) = false → (some (Value.int (-1)) = some (Value.int (opUb I v x1 x2 x3).1) ∧ RC gc h A I (opUb I v x1 x2 x3).2 F ∧ KC h h) := fun hb => by
    unfold opUb
    rw [hb, if_neg (by decide)]
    exact ⟨rfl, hR, KC.refl⟩
  refine M31 ⟨⟨_, hF.2.1⟩, _, k_isE hF, ?_⟩
  rintro r h' ⟨rfl, rfl⟩
  refine ⟨_, rfl, fun z => B31_23 (bad ?_), fun z1 => ⟨⟨_, hF.2.1⟩, _, k_isQ hF, ?_⟩⟩
  · rw [b2i_z.mp z]; rfl
  rintro r h' ⟨rfl, rfl⟩
  refine ⟨_, rfl, fun z => B31_23 (bad ?_), fun z2 => ⟨_, k_isPattern, ?_⟩⟩
  · rw [b2i_z.mp z, Bool.and_false]; rfl
  rintro r h' ⟨rfl, rfl⟩
  refine ⟨_, rfl, fun z3 => B31_25 ⟨⟨_, hF.2.1⟩, _, k_findB hX (by omega), ?_⟩, fun z => B31_23 (bad ?_)⟩
  rotate_left
  · rw [b2i_z.mp z, Bool.and_false]
  rintro r h' ⟨rfl, rfl⟩
  have ho : opUb I v x1 x2 x3 = if ix (bEq x1 x2 x3) (uB v 0) < (uB v 0).length then (0, upB v 0 ((uB v 0).eraseIdx (ix (bEq x1 x2 x3) (uB v 0)))) else (-3, v) := by
    unfold opUb
    rw [b2i_nz z1, b2i_nz z2, b2i_nz z3]
    rfl
  rcases fo_c (p := bEq x1 x2 x3) (ys := uB v 0) (by omega) with ⟨w1, w2⟩ | ⟨w1, w2, w3⟩
  · rw [if_neg w2] at ho
    refine ⟨_, rfl, fun z => absurd w1 z, fun _ => ?_⟩
    rw [ho]
    exact ⟨rfl, hR, KC.refl⟩
  · rw [if_pos w1] at ho
    rw [ho, w2]
    refine ⟨_, rfl, fun _ => B31_43 ⟨_, _, hF.2.1, rfl, hX.lst (k := 0) (by decide), _, rx_rmB hX rfl (hX.xB rfl) w1, ?_⟩, fun z => absurd (w2.trans z) w3⟩
    rintro r h' ⟨a, rfl, q1, q2, -⟩
    exact ⟨_, rfl, rfl, ⟨_, q1⟩, q2.kc⟩
