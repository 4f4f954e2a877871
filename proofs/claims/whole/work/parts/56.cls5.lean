/-! consumers, deliver -/
theorem RF.quO {gc : Nat → Nat} {h : AH} {A : Nat → Nat} {I : Nat → Int32} (hF : RF gc h A I) {q : Nat} (hq : q < 6) : at_ h (A (20 + q)) 8 [.int (I (200 + 10 * q)), .int (I (201 + 10 * q)), .int (I (202 + 10 * q)), .int (I (203 + 10 * q)), .ref (A (40 + (2 + q))), .ref (A (40 + (8 + q)))] := by
  have := hF.2.2.2.2.2.2.1 q hq
  rw [show 40 + (2 + q) = 42 + q by omega, show 40 + (8 + q) = 48 + q by omega]
  exact this
theorem RF.chO {gc : Nat → Nat} {h : AH} {A : Nat → Nat} {I : Nat → Int32} (hF : RF gc h A I) {c : Nat} (hc : c < 4) : at_ h (A (30 + c)) 2 [.int (I (300 + 10 * c)), .int (I (301 + 10 * c)), .int (I (302 + 10 * c)), .ref (A (40 + (14 + c))), .ref (A (40 + (18 + c)))] := by
  have := hF.2.2.2.2.2.2.2 c hc
  rw [show 40 + (14 + c) = 54 + c by omega, show 40 + (18 + c) = 58 + c by omega]
  exact this
theorem RX.wrCh {gc : Nat → Nat} {h : AH} {A : Nat → Nat} {I : Nat → Int32} {U : Nat → Int32} {xs ys : Nat → List Nat} {v : Mu} {F : Nat} {e : Nat} {n0 n1 n2 : Int32} (hR : RX gc h A I xs ys v F) (he : e < 4) (hI : ∀ j, ¬ (300 + 10 * e ≤ j ∧ j ≤ 302 + 10 * e) → U j = I j) (e0 : U (300 + 10 * e) = n0) (e1 : U (301 + 10 * e) = n1) (e2 : U (302 + 10 * e) = n2) : RX gc (ah_set h (A (30 + e)) (2, [.int n0, .int n1, .int n2, .ref (A (40 + (14 + e))), .ref (A (40 + (18 + e)))])) A U xs ys v F ∧ KC h (ah_set h (A (30 + e)) (2, [.int n0, .int n1, .int n2, .ref (A (40 + (14 + e))), .ref (A (40 + (18 + e)))])) ∧ KO h (ah_set h (A (30 + e)) (2, [.int n0, .int n1, .int n2, .ref (A (40 + (14 + e))), .ref (A (40 + (18 + e)))])) := by
  rw [show 40 + (14 + e) = 54 + e by omega, show 40 + (18 + e) = 58 + e by omega]
  exact hR.wrC he hI e0 e1 e2
theorem uB_s {v : Mu} {k : Nat} {l : List Bnd} : uB (upB v k l) k = l := va_up_self _ _ _
theorem uB_n {v : Mu} {k j : Nat} {l : List Bnd} (h : j ≠ k) : uB (upB v k l) j = uB v j := va_up_ne _ _ h
theorem uC_s {v : Mu} {k : Nat} {l : List Rec} : uC (upC v k l) k = l := va_up_self _ _ _
theorem uC_n {v : Mu} {k j : Nat} {l : List Rec} (h : j ≠ k) : uC (upC v k l) j = uC v j := va_up_ne _ _ h
theorem uR_s {v : Mu} {k : Nat} {l : List Con} : uR (upR v k l) k = l := va_up_self _ _ _
theorem uR_n {v : Mu} {k j : Nat} {l : List Con} (h : j ≠ k) : uR (upR v k l) j = uR v j := va_up_ne _ _ h
theorem uD_s {v : Mu} {k : Nat} {l : List Ded} : uD (upD v k l) k = l := va_up_self _ _ _
theorem uD_n {v : Mu} {k j : Nat} {l : List Ded} (h : j ≠ k) : uD (upD v k l) j = uD v j := va_up_ne _ _ h
theorem vu_vu {α : Type} {f : Nat → α} {k : Nat} {a b : α} : va_up (va_up f k a) k b = va_up f k b := by
  funext j
  by_cases hj : j = k
  · subst hj; rw [va_up_self, va_up_self]
  · rw [va_up_ne _ _ hj, va_up_ne _ _ hj, va_up_ne _ _ hj]
theorem upC_upC {v : Mu} {k : Nat} {a b : List Rec} : upC (upC v k a) k b = upC v k b := by
  unfold upC
  rw [vu_vu]
theorem upR_upR {v : Mu} {k : Nat} {a b : List Con} : upR (upR v k a) k b = upR v k b := by
  unfold upR
  rw [vu_vu]
def nEq (x : Int32) (b : Con) : Bool := decide (b.1 = x)
theorem isR_q {q : Nat} (h : q < 6) : isR (8 + q) := by unfold isR; omega
theorem isC_q {q : Nat} (h : q < 6) : isC (2 + q) := by unfold isC; omega
theorem isC_c {c : Nat} (h : c < 4) : isC (14 + c) := by unfold isC; omega
theorem isD_c {c : Nat} (h : c < 4) : isD (18 + c) := by unfold isD; omega
theorem isC_1 : isC 1 := by unfold isC; omega
theorem findN_loop {gc : Nat → Nat} {d : Nat} {h : AH} {A : Nat → Nat} {I : Nat → Int32} {xs ys : Nat → List Nat} {v : Mu} {F : Nat} {q : PT} {x : Int32} {e : Nat} (hR : RX gc h A I xs ys v F) (he : e < 6) (hl : (uR v (8 + e)).length ≤ 64) : ∀ n i, i + n = (uR v (8 + e)).length → q (some (.int (fo (nEq x) ((uR v (8 + e)).drop i) i))) h → TT gc (d + 3) 58 q 2 [.ref (A (20 + e)), .int x, .int (nI i)] [] h := by
  have hq := hR.rf.quO he
  have hb := isR_q he
  intro n
  induction n with
  | zero =>
    intro i hi hz
    refine B58_2 ⟨_, _, hq, rfl, hR.lst (lt_R hb), _, rx_sizeR hR hb (hR.xR hb), ?_⟩
    rintro r h' ⟨rfl, rfl⟩
    refine ⟨_, rfl, fun _ => B58_39 ?_, fun z => absurd (nI_le (by omega) (by omega)) z⟩
    rw [List.drop_eq_nil_of_le (by omega)] at hz
    exact hz
  | succ n ih =>
    intro i hi hz
    have hil : i < (uR v (8 + e)).length := by omega
    refine B58_2 ⟨_, _, hq, rfl, hR.lst (lt_R hb), _, rx_sizeR hR hb (hR.xR hb), ?_⟩
    rintro r h' ⟨rfl, rfl⟩
    refine ⟨_, rfl, fun z => absurd z (nI_ge hil (by omega)), fun _ => ⟨_, _, hq, rfl, hR.lst (lt_R hb), _, rx_getR hR hb (hR.xR hb) hil, ?_⟩⟩
    rintro r h2 ⟨a, rfl, rfl, -, ha⟩
    rw [List.drop_eq_getElem_cons hil, fo_cons] at hz
    refine ⟨a, rfl, _, ha, _, _, ha, rfl, fun z => B58_33 ?_, fun z => ?_⟩
    · rw [show nEq x (uR v (8 + e))[i] = false from decide_eq_false z] at hz
      rw [nI_1]
      exact ih (i + 1) (by omega) hz
    · rw [show nEq x (uR v (8 + e))[i] = true from decide_eq_true z] at hz
      exact hz
theorem k_findN {gc : Nat → Nat} {d : Nat} {h : AH} {A : Nat → Nat} {I : Nat → Int32} {xs ys : Nat → List Nat} {v : Mu} {F : Nat} {x : Int32} {e : Nat} (hR : RX gc h A I xs ys v F) (he : e < 6) (hl : (uR v (8 + e)).length ≤ 64) : WP gc (d + 4) 58 [.ref (A (20 + e)), .int x] h (fun r h' => r = some (.int (fo (nEq x) (uR v (8 + e)) 0)) ∧ h' = h) :=
  M58 (findN_loop hR he hl (uR v (8 + e)).length 0 (by omega) ⟨rfl, rfl⟩)
theorem isQu_rng {I : Nat → Int32} {x : Int32} (h : isQu I x = true) : ∃ e : Nat, e < 6 ∧ x = nI e := by
  unfold isQu at h
  have h1 := (Bool.and_eq_true _ _ ▸ h).1
  have := of_decide_eq_true h1
  exact rng (n := 5) (by decide) this.1 this.2
theorem isEx_rng {I : Nat → Int32} {x : Int32} (h : isEx I x = true) : ∃ e : Nat, e < 5 ∧ x = nI e := by
  unfold isEx at h
  have h1 := (Bool.and_eq_true _ _ ▸ h).1
  have := of_decide_eq_true h1
  exact rng (n := 4) (by decide) this.1 this.2
def opCs (I : Nat → Int32) (v : Mu) (x1 x2 : Int32) (au : Bool) : Int32 × Mu :=
  if wi x1 0 3 && isQu I x2 then
    (let k := 8 + x2.toNatClampNeg
    if ix (nEq x1) (uR v k) < (uR v k).length then (-3, v) else (0, upR v k (uR v k ++ [(x1, au)])))
  else (-1, v)
theorem k_consume {gc : Nat → Nat} {d : Nat} {h : AH} {A : Nat → Nat} {I : Nat → Int32} {v : Mu} {F : Nat} {x1 x2 : Int32} {au : Bool} (hR : RC gc h A I v (F + 1)) (hl : ∀ q, q < 6 → (uR v (8 + q)).length ≤ 64) : WP gc (d + 7) 57 [.ref (A 0), .int x1, .int x2, .int (b2i au)] h (fun r h' => r = some (.int (opCs I v x1 x2 au).1) ∧ RC gc h' A I (opCs I v x1 x2 au).2 F ∧ KC h h') := by
  obtain ⟨xs, hX⟩ := hR
  have hR : RC gc h A I v (F + 1) := ⟨xs, hX⟩
  have hF := hX.rf
  have bad : (wi x1 0 3 && isQu I x2) = false → (some (Value.int (-1)) = some (Value.int (opCs I v x1 x2 au).1) ∧ RC gc h A I (opCs I v x1 x2 au).2 F ∧ KC h h) := fun hb => by
    unfold opCs
    rw [hb, if_neg (by decide)]
    exact ⟨rfl, hR.le (by omega), KC.refl⟩
  refine M57 ⟨_, k_isChannel, ?_⟩
  rintro r h' ⟨rfl, rfl⟩
  refine ⟨_, rfl, fun z => B57_15 (bad ?_), fun z1 => ⟨⟨_, hF.2.1⟩, _, k_isQ hF, ?_⟩⟩
  · rw [show wi x1 0 3 = false from b2i_z.mp z]; rfl
  rintro r h' ⟨rfl, rfl⟩
  refine ⟨_, rfl, fun z2 => B57_17 ?_, fun z => B57_15 (bad ?_)⟩
  rotate_left
  · rw [b2i_z.mp z, Bool.and_false]
  have z1 : wi x1 0 3 = true := b2i_nz z1
  have z2 := b2i_nz z2
  obtain ⟨e, he, rfl⟩ := isQu_rng z2
  have ho : opCs I v x1 (nI e) au = if ix (nEq x1) (uR v (8 + e)) < (uR v (8 + e)).length then (-3, v) else (0, upR v (8 + e) (uR v (8 + e) ++ [(x1, au)])) := by
    unfold opCs
    rw [z1, z2, nI_clamp (by omega)]
    rfl
  obtain ⟨t, vs, g1, g2, g3, g4⟩ := hF.quA he
  have hle := hl e he
  refine ⟨_, _, hF.2.1, rfl, t, vs, _, g1, g2, g3, g4, ⟨_, hF.quO he⟩, _, k_findN hX he hle, ?_⟩
  rintro r h' ⟨rfl, rfl⟩
  rcases fo_c (p := nEq x1) (ys := uR v (8 + e)) (by omega) with ⟨w1, w2⟩ | ⟨w1, w2, w3⟩
  · rw [if_neg w2] at ho
    obtain ⟨n1, n2, n3, n4, n5⟩ := hX.new (t := 3) (vs := [.int x1, .int (b2i au)]) (Nat.le_of_ble_eq_true rfl)
    refine ⟨_, rfl, fun _ => B57_34 ⟨_, _, hF.2.1, rfl, t, vs, _, g1, g2, g3, g4, _, _, hF.quO he, rfl, n2, Nat.le_trans (by decide) n3, ?_⟩, fun z => absurd w1 z⟩
    rintro _ _ rfl rfl
    refine ⟨_, k_newN (b2i_01 _), ?_⟩
    rintro r h' ⟨rfl, rfl⟩
    refine ⟨rfl, n1.lst (lt_R (isR_q he)), _, rx_addR (x := (x1, au)) n1 (isR_q he) (n1.xR (isR_q he)) (by rw [if_neg (by omega)]; omega) at_new (fun z => absurd z (by unfold isC; omega)), ?_⟩
    rintro r h' ⟨rfl, q1, q2⟩
    rw [ho]
    exact ⟨_, rfl, rfl, ⟨_, q1⟩, n4.trans q2.kc⟩
  · rw [if_pos w1] at ho
    refine ⟨_, rfl, fun z => absurd z w3, fun _ => ?_⟩
    rw [ho]
    exact ⟨rfl, hR.le (by omega), KC.refl⟩
/-- a row without the channel's consumer -/
def rmN (x : Int32) (ys : List Con) : List Con := if ix (nEq x) ys < ys.length then ys.eraseIdx (ix (nEq x) ys) else ys
theorem k_rmN {gc : Nat → Nat} {d : Nat} {h : AH} {A : Nat → Nat} {I : Nat → Int32} {xs ys : Nat → List Nat} {v : Mu} {F : Nat} {x : Int32} {e : Nat} (hR : RX gc h A I xs ys v F) (he : e < 6) (hl : (uR v (8 + e)).length ≤ 64) : WP gc (d + 5) 61 [.ref (A (20 + e)), .int x] h (fun r h' => r = some (.int (b2i (decide (ix (nEq x) (uR v (8 + e)) < (uR v (8 + e)).length)))) ∧ (∃ as, RX gc h' A I (va_up xs (8 + e) as) (va_up ys (8 + e) as) (upR v (8 + e) (rmN x (uR v (8 + e)))) F) ∧ KL h h') := by
  have hb := isR_q he
  have hx := hR.xR hb
  refine M61 ⟨⟨_, hR.rf.quO he⟩, _, k_findN hR he hl, ?_⟩
  rintro r h' ⟨rfl, rfl⟩
  unfold rmN
  rcases fo_c (p := nEq x) (ys := uR v (8 + e)) (by omega) with ⟨w1, w2⟩ | ⟨w1, w2, w3⟩
  · refine ⟨_, rfl, fun z => absurd w1 z, fun _ => ⟨Or.inl rfl, ?_⟩⟩
    rw [if_neg w2, decide_eq_false w2]
    refine ⟨rfl, ⟨xs (8 + e), ?_⟩, KL.refl⟩
    have u1 : ∀ {α : Type} (f : Nat → α) (k : Nat), va_up f k (f k) = f := fun f k => by
      funext j
      by_cases hj : j = k
      · subst hj; rw [va_up_self]
      · rw [va_up_ne _ _ hj]
    rw [u1, ← hx, u1]
    have : upR v (8 + e) (uR v (8 + e)) = v := by
      unfold upR uR
      rw [u1]
    rw [this]
    exact hR
  · rw [w2]
    refine ⟨_, rfl, fun _ => B61_13 ⟨_, _, hR.rf.quO he, rfl, hR.lst (lt_R hb), _, rx_rmR hR hb hx w1, ?_⟩, fun z => absurd (w2.trans z) w3⟩
    rintro r h' ⟨a, rfl, q1, q2, -⟩
    refine ⟨_, rfl, Or.inr rfl, ?_⟩
    rw [if_pos w1, decide_eq_true w1]
    rw [hx] at q1
    exact ⟨rfl, ⟨_, q1⟩, q2⟩
def opCa (I : Nat → Int32) (v : Mu) (x1 x2 : Int32) : Int32 × Mu :=
  if wi x1 0 3 && isQu I x2 then
    (let k := 8 + x2.toNatClampNeg
    (if ix (nEq x1) (uR v k) < (uR v k).length then 0 else -3, upR v k (rmN x1 (uR v k))))
  else (-1, v)
theorem k_cancel {gc : Nat → Nat} {d : Nat} {h : AH} {A : Nat → Nat} {I : Nat → Int32} {v : Mu} {F : Nat} {x1 x2 : Int32} (hR : RC gc h A I v F) (hl : ∀ q, q < 6 → (uR v (8 + q)).length ≤ 64) : WP gc (d + 6) 60 [.ref (A 0), .int x1, .int x2] h (fun r h' => r = some (.int (opCa I v x1 x2).1) ∧ RC gc h' A I (opCa I v x1 x2).2 F ∧ KC h h') := by
  obtain ⟨xs, hX⟩ := hR
  have hR : RC gc h A I v F := ⟨xs, hX⟩
  have hF := hX.rf
  have bad : (wi x1 0 3 && isQu I x2) = false → (some (Value.int (-1)) = some (Value.int (opCa I v x1 x2).1) ∧ RC gc h A I (opCa I v x1 x2).2 F ∧ KC h h) := fun hb => by
    unfold opCa
    rw [hb, if_neg (by decide)]
    exact ⟨rfl, hR, KC.refl⟩
  refine M60 ⟨_, k_isChannel, ?_⟩
  rintro r h' ⟨rfl, rfl⟩
  refine ⟨_, rfl, fun z => B60_15 (bad ?_), fun z1 => ⟨⟨_, hF.2.1⟩, _, k_isQ hF, ?_⟩⟩
  · rw [show wi x1 0 3 = false from b2i_z.mp z]; rfl
  rintro r h' ⟨rfl, rfl⟩
  refine ⟨_, rfl, fun z2 => B60_17 ?_, fun z => B60_15 (bad ?_)⟩
  rotate_left
  · rw [b2i_z.mp z, Bool.and_false]
  have z1 : wi x1 0 3 = true := b2i_nz z1
  have z2 := b2i_nz z2
  obtain ⟨e, he, rfl⟩ := isQu_rng z2
  have ho : opCa I v x1 (nI e) = (if ix (nEq x1) (uR v (8 + e)) < (uR v (8 + e)).length then 0 else -3, upR v (8 + e) (rmN x1 (uR v (8 + e)))) := by
    unfold opCa
    rw [z1, z2, nI_clamp (by omega)]
    rfl
  obtain ⟨t, vs, g1, g2, g3, g4⟩ := hF.quA he
  refine ⟨_, _, hF.2.1, rfl, t, vs, _, g1, g2, g3, g4, ⟨_, hF.quO he⟩, _, k_rmN hX he (hl e he), ?_⟩
  rintro r h' ⟨rfl, ⟨as, q1⟩, q2⟩
  rw [ho]
  by_cases w : ix (nEq x1) (uR v (8 + e)) < (uR v (8 + e)).length
  · rw [decide_eq_true w, if_pos w]
    exact ⟨_, rfl, fun z => absurd z (by decide), fun _ => B60_36 ⟨rfl, ⟨_, q1⟩, q2.kc⟩⟩
  · rw [decide_eq_false w, if_neg w]
    exact ⟨_, rfl, fun _ => B60_34 (B60_36 ⟨rfl, ⟨_, q1⟩, q2.kc⟩), fun z => absurd rfl z⟩
