/-! deliver -/
def able (I : Nat → Int32) (v : Mu) (x : Con) : Bool := x.2 || decide (¬ I (300 + 10 * x.1.toNatClampNeg) ≤ nI (uC v (14 + x.1.toNatClampNeg)).length)
def chOK (ys : List Con) : Prop := ∀ x, x ∈ ys → ∃ c : Nat, c < 4 ∧ x.1 = nI c
theorem able_loop {gc : Nat → Nat} {d : Nat} {h : AH} {A : Nat → Nat} {I : Nat → Int32} {v : Mu} {F : Nat} {xs : Nat → List Nat} {q : PT} {e : Nat} (hR : RX gc h A I xs xs v F) (he : e < 6) (hl : (uR v (8 + e)).length ≤ 64) (hc : chOK (uR v (8 + e))) : ∀ n i v3 v4, i + n = (uR v (8 + e)).length → q (some (.int (fo (able I v) ((uR v (8 + e)).drop i) i))) h → TT gc (d + 3) 64 q 2 [.ref (A 0), .ref (A (20 + e)), .int (nI i), v3, v4] [] h := by
  have hF := hR.rf
  have hq := hF.quO he
  have hb := isR_q he
  intro n
  induction n with
  | zero =>
    intro i v3 v4 hi hz
    refine B64_2 ⟨_, _, hq, rfl, hR.lst (lt_R hb), _, rx_sizeR hR hb rfl, ?_⟩
    rintro r h' ⟨rfl, rfl⟩
    refine ⟨_, rfl, fun _ => B64_67 ?_, fun z => absurd (nI_le (by omega) (by omega)) z⟩
    rw [List.drop_eq_nil_of_le (by omega)] at hz
    exact hz
  | succ n ih =>
    intro i v3 v4 hi hz
    have hil : i < (uR v (8 + e)).length := by omega
    refine B64_2 ⟨_, _, hq, rfl, hR.lst (lt_R hb), _, rx_sizeR hR hb rfl, ?_⟩
    rintro r h' ⟨rfl, rfl⟩
    refine ⟨_, rfl, fun z => absurd z (nI_ge hil (by omega)), fun _ => ⟨_, _, hq, rfl, hR.lst (lt_R hb), _, rx_getR hR hb rfl hil, ?_⟩⟩
    rintro r h2 ⟨a, rfl, rfl, -, ha⟩
    rw [List.drop_eq_getElem_cons hil, fo_cons] at hz
    obtain ⟨c, hc4, hcx⟩ := hc _ (List.getElem_mem hil)
    generalize hy : (uR v (8 + e))[i] = y at ha hz hcx
    obtain ⟨t, vs, g1, g2, g3, g4⟩ := hF.chA hc4
    obtain ⟨y1, y2⟩ := y
    have hcx : y1 = nI c := hcx
    subst hcx
    have hab : able I v (nI c, y2) = (y2 || decide (¬ I (300 + 10 * c) ≤ nI (uC v (14 + c)).length)) := by
      unfold able
      rw [nI_clamp (by omega)]
    refine ⟨a, rfl, _, ha, _, _, hF.2.1, rfl, _, _, ha, rfl, t, vs, _, g1, g2, g3, g4, _, _, ha, rfl, fun z => B64_59 ?_, fun z => ⟨_, _, hF.chO hc4, rfl, hR.lst (lt_C (isC_c hc4)), _, rx_sizeC hR (isC_c hc4) rfl, ?_⟩⟩
    · have : y2 = true := b2i_nz z
      subst this
      rw [hab, Bool.true_or, if_pos rfl] at hz
      exact hz
    · have : y2 = false := b2i_z.mp z
      subst this
      rw [Bool.false_or] at hab
      rintro r h3 ⟨rfl, rfl⟩
      refine ⟨_, rfl, _, _, hF.chO hc4, rfl, fun z => B64_61 ?_, fun z => B64_59 ?_⟩
      · rw [hab, decide_eq_false (fun w => w z), if_neg (by decide)] at hz
        rw [nI_1]
        exact ih (i + 1) _ _ (by omega) hz
      · rw [hab, decide_eq_true z, if_pos rfl] at hz
        exact hz
theorem k_able {gc : Nat → Nat} {d : Nat} {h : AH} {A : Nat → Nat} {I : Nat → Int32} {v : Mu} {F : Nat} {xs : Nat → List Nat} {e : Nat} (hR : RX gc h A I xs xs v F) (he : e < 6) (hl : (uR v (8 + e)).length ≤ 64) (hc : chOK (uR v (8 + e))) : WP gc (d + 4) 64 [.ref (A 0), .ref (A (20 + e))] h (fun r h' => r = some (.int (fo (able I v) (uR v (8 + e)) 0)) ∧ h' = h) :=
  M64 (able_loop hR he hl hc (uR v (8 + e)).length 0 _ _ (by omega) ⟨rfl, rfl⟩)
/-- consumers stay -/
def KN (h h' : AH) : Prop := ∀ (b : Nat) (vs : List Value), at_ h b 3 vs → at_ h' b 3 vs
/-- held by a channel, with a tag -/
def rHold (r : Rec) (t : Int32) : Rec := (rM r, rRet r, rQ r, rP r, t, -1)
theorem k_hold {gc : Nat → Nat} {d : Nat} {h : AH} {A : Nat → Nat} {I : Nat → Int32} {v : Mu} {F : Nat} {xs : Nat → List Nat} {c a k : Nat} {r : Rec} (hR : RX gc h A I xs xs v F) (hc : c < 4) (ha : CpAt k h a r) (hf : free xs a) (hl : (uC v (14 + c)).length ≤ 64) : WP gc (d + 7) 65 [.ref (A (30 + c)), .ref a] h (fun r' h' => r' = none ∧ RC gc h' A (upd I (302 + 10 * c) (I (302 + 10 * c) + 1)) (upC v (14 + c) (uC v (14 + c) ++ [rHold r (I (302 + 10 * c) + 1)])) F ∧ KC h h' ∧ KN h h') := by
  have hch := hR.rf.chO hc
  obtain ⟨m, D, ha, -, hm⟩ := ha
  refine M65 ⟨_, _, hch, rfl, _, hch, Nat.le_of_ble_eq_true rfl, trivial, ?_⟩
  rintro h4 rfl
  obtain ⟨w1, w2, w3⟩ := hR.wrCh (U := upd I (302 + 10 * c) (I (302 + 10 * c) + 1)) hc (n0 := I (300 + 10 * c)) (n1 := I (301 + 10 * c)) (n2 := I (302 + 10 * c) + 1) (fun j hj => pk_un (by omega)) (pk_un (by omega)) (pk_un (by omega)) pk_us
  refine ⟨_, _, at_s, rfl, _, w3 _ _ _ (by omega) ha, Nat.le_of_ble_eq_true rfl, trivial, ?_⟩
  rintro h8 rfl
  refine ⟨_, at_s, Nat.le_of_ble_eq_true rfl, trivial, ?_⟩
  rintro h10 rfl
  rw [set_set]
  obtain ⟨x1, x2⟩ := w1.wrF (vs' := [.ref m, .int (rQ r), .int (rP r), .int (b2i (rRet r)), .int (I (302 + 10 * c) + 1), .int (-1)]) hf (w3 _ _ _ (by omega) ha)
  have hcp : CpAt (14 + c) (ah_set (ah_set h (A (30 + c)) (2, [.int (I (300 + 10 * c)), .int (I (301 + 10 * c)), .int (I (302 + 10 * c) + 1), .ref (A (40 + (14 + c))), .ref (A (40 + (18 + c)))])) a (4, [.ref m, .int (rQ r), .int (rP r), .int (b2i (rRet r)), .int (I (302 + 10 * c) + 1), .int (-1)])) a (rHold r (I (302 + 10 * c) + 1)) := ⟨m, -1, at_s, fun _ => rfl, at_n (w3 _ _ _ (by omega) hm) (at_ne hm ha (by decide))⟩
  have hch2 := x1.rf.chO hc
  refine ⟨_, _, hch2, rfl, x1.lst (lt_C (isC_c hc)), _, rx_addC x1 (isC_c hc) rfl (by rw [if_neg (by omega)]; omega) hcp (fun _ => hf), ?_⟩
  rintro r' h' ⟨rfl, q1, q2⟩
  refine ⟨_, rfl, rfl, ⟨_, q1⟩, (w2.trans x2).trans q2.kc, fun b ws hb => q2 _ _ _ (by decide) (by decide) (by decide) (at_n (w3 _ _ _ (by omega) hb) (at_ne hb ha (by decide)))⟩
def opDl (I : Nat → Int32) (v : Mu) (x : Int32) : Int32 × (Nat → Int32) × Mu :=
  if isQu I x then
    match uC v (2 + x.toNatClampNeg) with
    | [] => (-5, I, v)
    | r :: W => match (uR v (8 + x.toNatClampNeg))[ix (able I v) (uR v (8 + x.toNatClampNeg))]? with
      | none => (-6, I, v)
      | some c => (fun v2 : Mu => if c.2 then (c.1, I, v2) else (c.1, upd I (302 + 10 * c.1.toNatClampNeg) (I (302 + 10 * c.1.toNatClampNeg) + 1), upC v2 (14 + c.1.toNatClampNeg) (uC v (14 + c.1.toNatClampNeg) ++ [rHold r (I (302 + 10 * c.1.toNatClampNeg) + 1)]))) (upC (upR v (8 + x.toNatClampNeg) ((uR v (8 + x.toNatClampNeg)).eraseIdx (ix (able I v) (uR v (8 + x.toNatClampNeg))) ++ [c])) (2 + x.toNatClampNeg) W)
  else (-1, I, v)
theorem k_deliver {gc : Nat → Nat} {d : Nat} {h : AH} {A : Nat → Nat} {I : Nat → Int32} {v : Mu} {F : Nat} {x : Int32} (hR : RC gc h A I v F) (hl : ∀ q, q < 6 → (uR v (8 + q)).length ≤ 64) (hc : ∀ q, q < 6 → chOK (uR v (8 + q))) (hh : ∀ c, c < 4 → (uC v (14 + c)).length ≤ 64) : WP gc (d + 8) 62 [.ref (A 0), .int x] h (fun r h' => r = some (.int (opDl I v x).1) ∧ RC gc h' A (opDl I v x).2.1 (opDl I v x).2.2 F ∧ KC h h') := by
  obtain ⟨xs, hX⟩ := hR
  have hR : RC gc h A I v F := ⟨xs, hX⟩
  have hF := hX.rf
  refine M62 ⟨⟨_, hF.2.1⟩, _, k_isQ hF, ?_⟩
  rintro r h' ⟨rfl, rfl⟩
  refine ⟨_, rfl, fun z => B62_10 ?_, fun z => ?_⟩
  rotate_left
  · unfold opDl
    rw [b2i_z.mp z]
    exact ⟨rfl, hR, KC.refl⟩
  have z := b2i_nz z
  obtain ⟨e, he, rfl⟩ := isQu_rng z
  obtain ⟨t, vs, g1, g2, g3, g4⟩ := hF.quA he
  have hle := hl e he
  have ho : ∀ r W, uC v (2 + e) = r :: W → opDl I v (nI e) = (match (uR v (8 + e))[ix (able I v) (uR v (8 + e))]? with
      | none => (-6, I, v)
      | some c => (fun v2 : Mu => if c.2 then (c.1, I, v2) else (c.1, upd I (302 + 10 * c.1.toNatClampNeg) (I (302 + 10 * c.1.toNatClampNeg) + 1), upC v2 (14 + c.1.toNatClampNeg) (uC v (14 + c.1.toNatClampNeg) ++ [rHold r (I (302 + 10 * c.1.toNatClampNeg) + 1)]))) (upC (upR v (8 + e) ((uR v (8 + e)).eraseIdx (ix (able I v) (uR v (8 + e))) ++ [c])) (2 + e) W)) := fun r W hW => by
    unfold opDl
    rw [z, if_pos rfl, nI_clamp (by omega), hW]
  have hemp : ∀ s, WP gc (d + 7) 63 [.ref (A (40 + (2 + e)))] h' s ↔ WP gc (d + 7) 63 [.ref (A (40 + (2 + e)))] h' s := fun _ => Iff.rfl
  refine ⟨_, _, hF.2.1, rfl, t, vs, _, g1, g2, g3, g4, _, _, hF.quO he, rfl, hX.lst (lt_C (isC_q he)), _, rs_isEmpty hX.1 (lt_C (isC_q he)), ?_⟩
  rintro r h2 ⟨rfl, rfl⟩
  have hA2 := hX.2.1.C (isC_q he)
  have hln := hA2.len
  cases hW : uC v (2 + e) with
  | nil =>
    rw [hW] at hln
    have : xs (2 + e) = [] := List.length_eq_zero_iff.mp hln
    rw [if_pos this]
    refine ⟨_, rfl, fun w => absurd w (by decide), fun _ => ?_⟩
    unfold opDl
    rw [z, if_pos rfl, nI_clamp (by omega), hW]
    exact ⟨rfl, hR, KC.refl⟩
  | cons r W =>
    rw [hW] at hln
    have : ¬ xs (2 + e) = [] := fun w => by rw [w] at hln; cases hln
    have ho := ho r W hW
    rw [if_neg this]
    refine ⟨_, rfl, fun _ => B62_30 ⟨⟨_, hF.2.1⟩, _, k_able hX he hle (hc e he), ?_⟩, fun w => absurd rfl w⟩
    rintro r' h3 ⟨rfl, rfl⟩
    rcases fo_c (p := able I v) (ys := uR v (8 + e)) (by omega) with ⟨w1, w2⟩ | ⟨w1, w2, w3⟩
    · refine ⟨_, rfl, fun w => absurd w1 w, fun _ => ?_⟩
      rw [List.getElem?_eq_none (by omega)] at ho
      rw [ho]
      exact ⟨rfl, hR, KC.refl⟩
    · rw [List.getElem?_eq_getElem w1] at ho
      rw [w2]
      have hb := isR_q he
      refine ⟨_, rfl, fun _ => B62_44 ⟨_, _, hF.quO he, rfl, hX.lst (lt_R hb), _, rx_rmR hX hb rfl w1, ?_⟩, fun w => absurd (w2.trans w) w3⟩
      rintro r' h4 ⟨a, rfl, y1, y2, -, ha⟩
      refine ⟨_, rfl, _, ha, _, _, y1.rf.quO he, rfl, y1.lst (lt_R hb), _, rx_addR y1 hb rfl (by rw [if_neg (by omega), uR_s, List.length_eraseIdx]; split <;> omega) ha (fun w => absurd w (by unfold isC; omega)), ?_⟩
      rintro r' h5 ⟨rfl, y3, y4⟩
      rw [uR_s, upR_upR] at y3
      have hW' : uC (upR v (8 + e) ((uR v (8 + e)).eraseIdx (ix (able I v) (uR v (8 + e))) ++ [(uR v (8 + e))[ix (able I v) (uR v (8 + e))]])) (2 + e) = r :: W := hW
      refine ⟨_, rfl, _, _, y3.rf.quO he, rfl, y3.lst (lt_C (isC_q he)), _, rx_rmC (j := 0) y3 (isC_q he) rfl (by rw [hW']; exact Nat.succ_pos _), ?_⟩
      rintro r' h6 ⟨a2, rfl, y5, y6, y7, ha2⟩
      have hfr := (y3.2.2.1.er (isC_q he) y7).2
      have er : (uC (upR v (8 + e) ((uR v (8 + e)).eraseIdx (ix (able I v) (uR v (8 + e))) ++ [(uR v (8 + e))[ix (able I v) (uR v (8 + e))]])) (2 + e)).eraseIdx 0 = W := by rw [hW']; rfl
      rw [er] at y5
      have eh : (uC (upR v (8 + e) ((uR v (8 + e)).eraseIdx (ix (able I v) (uR v (8 + e))) ++ [(uR v (8 + e))[ix (able I v) (uR v (8 + e))]])) (2 + e))[0]'(by rw [hW']; exact Nat.succ_pos _) = r := by simp only [hW', List.getElem_cons_zero]
      rw [eh] at ha2
      have hn : CnAt h6 a (uR v (8 + e))[ix (able I v) (uR v (8 + e))] := CnAt.ko (y4.trans y6).ko ha
      obtain ⟨ws2, hw2⟩ := ha2.tag
      have hmem := hc e he _ (List.getElem_mem w1)
      generalize (uR v (8 + e))[ix (able I v) (uR v (8 + e))] = cn at ho y5 hn hmem
      have hkc : KC h3 h6 := ((y2.trans y4).trans y6).kc
      refine ⟨_, rfl, _, hw2, _, _, hn, rfl, fun w => B62_103 ⟨_, _, hn, rfl, ?_⟩, fun w => ?_⟩
      · rw [ho]
        dsimp only
        rw [b2i_nz w, if_pos rfl]
        exact ⟨rfl, ⟨_, y5⟩, hkc⟩
      · obtain ⟨c, hc4, hcx⟩ := hmem
        obtain ⟨n1, n2⟩ := cn
        have hcx : n1 = nI c := hcx
        subst hcx
        have w : n2 = false := b2i_z.mp w
        subst w
        obtain ⟨t', vs', k1, k2, k3, k4⟩ := y5.rf.chA hc4
        have e14 : uC (upC (upR v (8 + e) ((uR v (8 + e)).eraseIdx (ix (able I v) (uR v (8 + e))) ++ [(nI c, false)])) (2 + e) W) (14 + c) = uC v (14 + c) := uC_n (by omega)
        refine ⟨_, _, y5.rf.2.1, rfl, _, _, hn, rfl, t', vs', _, k1, k2, k3, k4, ⟨_, y5.rf.chO hc4⟩, _, k_hold y5 hc4 ha2 hfr (by rw [e14]; exact hh c hc4), ?_⟩
        rintro r' h7 ⟨rfl, q1, q2, q3⟩
        rw [e14] at q1
        refine ⟨rfl, B62_103 ⟨_, _, q3 _ _ hn, rfl, ?_⟩⟩
        rw [ho]
        dsimp only
        rw [if_neg (by decide), nI_clamp (by omega)]
        exact ⟨rfl, q1, hkc.trans q2⟩
