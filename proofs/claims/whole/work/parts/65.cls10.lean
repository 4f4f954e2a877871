/-! settle -/
theorem k_isSet {gc : Nat → Nat} {d a0 a c : Nat} {h : AH} {r : Rec} {tg : Int32} {wh : Bool} (ha : CpAt (14 + c) h a r) : WP gc (d + 1) 68 [.ref a0, .ref a, .int tg, .int (b2i wh)] h (fun r' h' => r' = some (.int (b2i (meant tg wh r))) ∧ h' = h) := by
  obtain ⟨m, D, w1, w2, w3⟩ := ha
  have w2 := w2 (by omega)
  subst w2
  unfold meant
  refine M68 ⟨_, _, w1, rfl, fun z => B68_10 ⟨fun z1 => B68_34 ⟨_, _, w1, rfl, fun z2 => B68_46 (B68_47 ⟨Or.inl rfl, ?_, rfl⟩), fun z2 => B68_47 ⟨Or.inr rfl, ?_, rfl⟩⟩, fun z1 => ⟨fun z2 => B68_26 (B68_47 ⟨Or.inr rfl, ?_, rfl⟩), fun z2 => ⟨_, _, w1, rfl, fun z3 => B68_30 (B68_47 ⟨Or.inl rfl, ?_, rfl⟩), fun z3 => B68_26 (B68_47 ⟨Or.inr rfl, ?_, rfl⟩)⟩⟩⟩, fun z => ⟨Or.inl rfl, ?_, rfl⟩⟩
  · rw [b2i_z.mp z1, if_neg (by decide), decide_eq_false z2, Bool.and_false]; rfl
  · rw [b2i_z.mp z1, if_neg (by decide), decide_eq_true z2, decide_eq_true z]; rfl
  · rw [b2i_nz z1, if_pos rfl, decide_eq_true z2, decide_eq_true z]; rfl
  · rw [b2i_nz z1, if_pos rfl, decide_eq_false z2, show decide (¬ tg < rT r) = false from decide_eq_false (fun w => w z3), Bool.false_or, Bool.and_false]; rfl
  · rw [b2i_nz z1, if_pos rfl, decide_eq_true z3, Bool.or_true, decide_eq_true z]; rfl
  · rw [decide_eq_false z, Bool.false_and]; rfl
theorem cset_loop {gc : Nat → Nat} {d : Nat} {h : AH} {A : Nat → Nat} {I : Nat → Int32} {v : Mu} {F : Nat} {xs : Nat → List Nat} {q : PT} {c : Nat} {tg : Int32} {wh : Bool} (hR : RX gc h A I xs xs v F) (hc : c < 4) (hl : (uC v (14 + c)).length ≤ 64) : ∀ n i k, i + n = (uC v (14 + c)).length → q (some (.int (nI (k + ((uC v (14 + c)).drop i).countP (meant tg wh))))) h → TT gc (d + 3) 67 q 5 [.ref (A (30 + c)), .int tg, .int (b2i wh), .int (nI k), .int (nI i)] [] h := by
  have hch := hR.rf.chO hc
  have hk := isC_c hc
  intro n
  induction n with
  | zero =>
    intro i k hi hq
    refine B67_5 ⟨_, _, hch, rfl, hR.lst (lt_C hk), _, rx_sizeC hR hk rfl, ?_⟩
    rintro r h' ⟨rfl, rfl⟩
    refine ⟨_, rfl, fun _ => B67_47 ?_, fun z => absurd (nI_le (by omega) (by omega)) z⟩
    rw [List.drop_eq_nil_of_le (by omega)] at hq
    exact hq
  | succ n ih =>
    intro i k hi hq
    have hil : i < (uC v (14 + c)).length := by omega
    refine B67_5 ⟨_, _, hch, rfl, hR.lst (lt_C hk), _, rx_sizeC hR hk rfl, ?_⟩
    rintro r h' ⟨rfl, rfl⟩
    refine ⟨_, rfl, fun z => absurd z (nI_ge hil (by omega)), fun _ => ⟨_, _, hch, rfl, hR.lst (lt_C hk), _, rx_getC hR hk rfl hil, ?_⟩⟩
    rintro r h2 ⟨a, rfl, rfl, -, ha⟩
    rw [List.drop_eq_getElem_cons hil, List.countP_cons] at hq
    obtain ⟨ws, hw⟩ := ha.tag
    refine ⟨_, rfl, _, hw, ⟨_, hch⟩, _, k_isSet ha, ?_⟩
    rintro r h3 ⟨rfl, rfl⟩
    refine ⟨_, rfl, fun z => B67_41 ?_, fun z => B67_41 ?_⟩
    · rw [b2i_z.mp z, if_neg (by decide)] at hq
      rw [nI_1]
      exact ih (i + 1) k (by omega) hq
    · rw [b2i_nz z, if_pos rfl] at hq
      rw [nI_1, nI_1]
      refine ih (i + 1) (k + 1) (by omega) ?_
      rw [show k + 1 + ((uC v (14 + c)).drop (i + 1)).countP (meant tg wh) = k + (((uC v (14 + c)).drop (i + 1)).countP (meant tg wh) + 1) by omega]
      exact hq
theorem k_cset {gc : Nat → Nat} {d : Nat} {h : AH} {A : Nat → Nat} {I : Nat → Int32} {v : Mu} {F : Nat} {xs : Nat → List Nat} {c : Nat} {tg : Int32} {wh : Bool} (hR : RX gc h A I xs xs v F) (hc : c < 4) (hl : (uC v (14 + c)).length ≤ 64) : WP gc (d + 4) 67 [.ref (A (30 + c)), .int tg, .int (b2i wh)] h (fun r h' => r = some (.int (nI ((uC v (14 + c)).countP (meant tg wh)))) ∧ h' = h) :=
  M67 (cset_loop hR hc hl _ 0 0 (Nat.zero_add _) ⟨by rw [Nat.zero_add]; rfl, rfl⟩)
theorem cpD {h : AH} {a m : Nat} {r : Rec} {D' : Int32} {k : Nat} (hm : MsgAt h m (rM r)) (ha : at_ h a 4 [.ref m, .int (rQ r), .int (rP r), .int (b2i (rRet r)), .int (rT r), .int (rD r)]) : CpAt k (ah_set h a (4, [.ref m, .int (rQ r), .int (rP r), .int (b2i (rRet r)), .int (rT r), .int D'])) a (rSetD r D') :=
  ⟨m, D', at_s, fun _ => rfl, at_n hm (at_ne hm ha (by decide))⟩
theorem mark_loop {gc : Nat → Nat} {d : Nat} {A : Nat → Nat} {I : Nat → Int32} {v : Mu} {F c : Nat} {q : PT} {tg D : Int32} {wh : Bool} (hc : c < 4) (hl : (uC v (14 + c)).length ≤ 64) (h0 : AH) (hq : ∀ h', RC gc h' A I (upC v (14 + c) ((uC v (14 + c)).map (mrk tg wh D))) F → KC h0 h' → q none h') : ∀ n i (h : AH), i + n = (uC v (14 + c)).length → RC gc h A I (upC v (14 + c) (mpF (mrk tg wh D) (uC v (14 + c)) i)) F → KC h0 h → TT gc (d + 3) 69 q 3 [.ref (A (30 + c)), .int tg, .int (b2i wh), .int D, .int (nI i)] [] h := by
  have hk := isC_c hc
  intro n
  induction n with
  | zero =>
    rintro i h hi ⟨xs, hX⟩ hkc
    have hch := hX.rf.chO hc
    refine B69_3 ⟨_, _, hch, rfl, hX.lst (lt_C hk), _, rx_sizeC hX hk rfl, ?_⟩
    rintro r h' ⟨rfl, rfl⟩
    rw [uC_s, mpF_len]
    refine ⟨_, rfl, fun _ => B69_58 (hq h' ⟨xs, ?_⟩ hkc), fun z => absurd (nI_le (by omega) (by omega)) z⟩
    rw [← mpF_n, show (uC v (14 + c)).length = i by omega]
    exact hX
  | succ n ih =>
    rintro i h hi ⟨xs, hX⟩ hkc
    have hch := hX.rf.chO hc
    have hil : i < (uC v (14 + c)).length := by omega
    refine B69_3 ⟨_, _, hch, rfl, hX.lst (lt_C hk), _, rx_sizeC hX hk rfl, ?_⟩
    rintro r h' ⟨rfl, rfl⟩
    have hlen : (uC (upC v (14 + c) (mpF (mrk tg wh D) (uC v (14 + c)) i)) (14 + c)).length = (uC v (14 + c)).length := by rw [uC_s, mpF_len]
    have hg : (uC (upC v (14 + c) (mpF (mrk tg wh D) (uC v (14 + c)) i)) (14 + c))[i]'(by rw [hlen]; exact hil) = (uC v (14 + c))[i] := (List.getElem_eq_iff _).mpr (by rw [uC_s]; exact mpF_get hil)
    rw [hlen]
    refine ⟨_, rfl, fun z => absurd z (nI_ge hil (by omega)), fun _ => ⟨_, _, hch, rfl, hX.lst (lt_C hk), _, rx_getC hX hk rfl (by rw [hlen]; exact hil), ?_⟩⟩
    rintro r h2 ⟨a, rfl, rfl, haj, ha⟩
    rw [hg] at ha
    obtain ⟨ws, hw⟩ := ha.tag
    refine ⟨_, rfl, _, hw, ⟨_, hch⟩, _, k_isSet ha, ?_⟩
    rintro r h3 ⟨rfl, rfl⟩
    refine ⟨_, rfl, fun z => B69_52 ?_, fun z => ⟨_, _, hch, rfl, hX.lst (lt_C hk), _, rx_getC hX hk rfl (by rw [hlen]; exact hil), ?_⟩⟩
    · rw [nI_1]
      refine ih (i + 1) h3 (by omega) ⟨xs, ?_⟩ hkc
      rw [mpF_same hil (by unfold mrk; rw [b2i_z.mp z, if_neg (by decide)])]
      exact hX
    · rintro r h4 ⟨a2, rfl, rfl, haj2, -⟩
      have hz : a2 = a := Option.some.inj (haj2.symm.trans haj)
      subst hz
      obtain ⟨m, D0, w1, w2, w3⟩ := ha
      have w2 := w2 (by omega)
      subst w2
      refine ⟨_, rfl, _, w1, _, w1, Nat.le_of_ble_eq_true rfl, trivial, ?_⟩
      rintro h5 rfl
      obtain ⟨y1, y2⟩ := hX.wrH hk haj2 w1 (cpD (D' := D) (k := 14 + c) w3 w1)
      rw [uC_s, upC_upC, show rSetD (uC v (14 + c))[i] D = mrk tg wh D (uC v (14 + c))[i] from by unfold mrk; rw [b2i_nz z, if_pos rfl], mpF_set hil] at y1
      refine B69_52 ?_
      rw [nI_1]
      exact ih (i + 1) _ (by omega) ⟨xs, y1⟩ (hkc.trans y2)
theorem k_mark {gc : Nat → Nat} {d : Nat} {h : AH} {A : Nat → Nat} {I : Nat → Int32} {v : Mu} {F : Nat} {c : Nat} {tg D : Int32} {wh : Bool} (hR : RC gc h A I v F) (hc : c < 4) (hl : (uC v (14 + c)).length ≤ 64) : WP gc (d + 4) 69 [.ref (A (30 + c)), .int tg, .int (b2i wh), .int D] h (fun r h' => r = none ∧ RC gc h' A I (upC v (14 + c) ((uC v (14 + c)).map (mrk tg wh D))) F ∧ KC h h') := by
  refine M69 (mark_loop hc hl h (fun h' q1 q2 => ⟨rfl, q1, q2⟩) _ 0 h (Nat.zero_add _) ?_ KC.refl)
  rw [mpF_0, upC_id]
  exact hR
/-! giving back -/
theorem k_back {gc : Nat → Nat} {d : Nat} {h : AH} {A : Nat → Nat} {I : Nat → Int32} {xs ys : Nat → List Nat} {v : Mu} {F : Nat} {a k q : Nat} {r : Rec} (hR : RX gc h A I xs ys v F) (ha : CpAt k h a r) (hf : free ys a) (hq6 : q < 6) (hr : rQ r = nI q) (hl : (uC v (2 + q)).length ≤ 65) : WP gc (d + 7) 72 [.ref (A 0), .ref a] h (fun r' h' => r' = none ∧ (∃ as bs, RX gc h' A I (va_up xs (2 + q) as) (va_up ys (2 + q) bs) (bk v r) F) ∧ KC h h') := by
  obtain ⟨m, D, w1, w2, w3⟩ := ha
  rw [hr] at w1
  refine M72 ⟨_, w1, Nat.le_of_ble_eq_true rfl, Or.inr rfl, ?_⟩
  rintro h2 rfl
  obtain ⟨y1, y2⟩ := hR.wrF (vs' := [.ref m, .int (nI q), .int (rP r), .int 1, .int (rT r), .int D]) hf w1
  have hcp : CpAt (2 + q) (ah_set h a (4, [.ref m, .int (nI q), .int (rP r), .int 1, .int (rT r), .int D])) a (rBk r) := ⟨m, D, by rw [show rQ (rBk r) = nI q from hr]; exact at_s, fun z => by omega, at_n w3 (at_ne w3 w1 (by decide))⟩
  obtain ⟨t, vs, g1, g2, g3, g4⟩ := y1.rf.quA hq6
  refine ⟨_, _, y1.rf.2.1, rfl, _, _, at_s, rfl, t, vs, _, g1, g2, g3, g4, ⟨_, y1.rf.quO hq6⟩, _, k_insQ y1 hq6 hl hcp hf, ?_⟩
  rintro r' h3 ⟨rfl, q1, q2⟩
  have hbk : bk v r = upC v (2 + q) (insR (uC v (2 + q)) (rBk r)) := by
    unfold bk
    rw [hr, nI_clamp (by omega)]
  rw [hbk]
  exact ⟨rfl, rfl, ⟨_, _, q1⟩, y2.trans q2.kc⟩
theorem k_setCp {gc : Nat → Nat} {d : Nat} {h : AH} {A : Nat → Nat} {I : Nat → Int32} {v : Mu} {F : Nat} {xs : Nat → List Nat} {a k q : Nat} {r : Rec} {how : Int32} (hR : RX gc h A I xs xs v F) (ha : CpAt k h a r) (hf : free xs a) (hq6 : q < 6) (hr : rQ r = nI q) (hl : (uC v (2 + q)).length ≤ 65) (hl2 : (uC v 1).length ≤ 449) : WP gc (d + 8) 71 [.ref (A 0), .ref a, .int how] h (fun r' h' => r' = none ∧ RC gc h' A I (stl v r how) F ∧ KC h h') := by
  unfold stl
  by_cases h1 : how = 1
  · rw [if_pos h1]
    refine M71 ⟨fun z => absurd h1 z, fun _ => ⟨⟨_, hR.rf.2.1⟩, _, k_back hR ha hf hq6 hr hl, ?_⟩⟩
    rintro r' h' ⟨rfl, ⟨as, bs, q1⟩, q2⟩
    refine ⟨rfl, B71_27 ⟨rfl, ?_, q2⟩⟩
    have q3 := q1.2.2.2 (2 + q) (by omega)
    rw [va_up_self, va_up_self] at q3
    rw [q3] at q1
    exact ⟨_, q1⟩
  · rw [if_neg h1]
    refine M71 ⟨fun _ => B71_13 ?_, fun z => absurd z h1⟩
    by_cases h2 : how = 2
    · rw [if_pos h2]
      refine ⟨fun z => absurd h2 z, fun _ => ⟨_, _, hR.rf.2.1, rfl, hR.lst (k := 1) (by decide), _, rx_addC (k := 1) (x := rW r) hR isC_1 rfl (by rw [if_pos rfl]; exact hl2) (ha.toW (by omega)) (fun _ => hf), ?_⟩⟩
      rintro r' h' ⟨rfl, q1, q2⟩
      exact ⟨_, rfl, B71_27 ⟨rfl, ⟨_, q1⟩, q2.kc⟩⟩
    · rw [if_neg h2]
      exact ⟨fun _ => B71_27 ⟨rfl, ⟨_, hR⟩, KC.refl⟩, fun z => absurd z h2⟩
def isDd (D : Int32) (r : Rec) : Bool := decide (rD r = D)
theorem sm_loop {gc : Nat → Nat} {d : Nat} {A : Nat → Nat} {I : Nat → Int32} {F c b : Nat} {q : PT} {D how : Int32} (hc : c < 4) (hb : b ≤ 440) (x4 : Nat) (hx4 : x4 ≤ 64) (h0 : AH) : ∀ n j i (h : AH) (v : Mu), i + n = x4 → j + n = (uC v (14 + c)).length → RC gc h A I v F → CQ v → LB v b → KC h0 h → (∀ h', RC gc h' A I (smF c (isDd D) how n j v) F → KC h0 h' → q none h') → TT gc (d + 8) 70 q 15 [.ref (A 0), .ref (A (30 + c)), .int D, .int how, .int (nI x4), .int (nI j), .int (nI i)] [] h := by
  have hk := isC_c hc
  intro n
  induction n with
  | zero =>
    intro j i h v hi hj hR hcq hlb hkc hq
    exact B70_15 ⟨fun _ => B70_70 (hq h hR hkc), fun z => absurd (nI_le (by omega) (by omega)) z⟩
  | succ n ih =>
    intro j i h v hi hj hR hcq hlb hkc hq
    obtain ⟨xs, hX⟩ := hR
    have hch := hX.rf.chO hc
    have hjl : j < (uC v (14 + c)).length := by omega
    have hs : smF c (isDd D) how (n + 1) j v = (match (uC v (14 + c))[j]? with
    | none => v
    | some r => if isDd D r then smF c (isDd D) how n j (stl (upC v (14 + c) ((uC v (14 + c)).eraseIdx j)) r how) else smF c (isDd D) how n (j + 1) v) := rfl
    have hgj := List.getElem?_eq_getElem hjl
    rw [hgj] at hs
    dsimp only at hs
    refine B70_15 ⟨fun z => absurd z (nI_ge (by omega) (by omega)), fun _ => ⟨_, _, hch, rfl, hX.lst (lt_C hk), _, rx_getC hX hk rfl hjl, ?_⟩⟩
    rintro r h2 ⟨a, rfl, rfl, haj, ha⟩
    obtain ⟨m, D0, w1, w2, w3⟩ := ha
    have w2 := w2 (by omega)
    subst w2
    refine ⟨_, rfl, _, w1, _, _, w1, rfl, fun z => B70_61 (B70_64 ?_), fun z => ⟨_, _, hch, rfl, hX.lst (lt_C hk), _, rx_rmC hX hk rfl hjl, ?_⟩⟩
    · rw [nI_1, nI_1]
      rw [show isDd D (uC v (14 + c))[j] = false from decide_eq_false z, if_neg (by decide)] at hs
      refine ih (j + 1) (i + 1) h2 v (by omega) (by omega) ⟨xs, hX⟩ hcq hlb hkc (fun h' q1 q2 => hq h' ?_ q2)
      rw [hs]
      exact q1
    · rw [show isDd D (uC v (14 + c))[j] = true from decide_eq_true z, if_pos rfl] at hs
      rintro r h3 ⟨a2, rfl, y1, y2, y3, ha2⟩
      have hfr := (hX.2.2.1.er hk y3).2
      obtain ⟨w, hw6, hwr⟩ := hcq.1 (14 + c) hk _ (List.getElem_mem hjl)
      obtain ⟨h0b, htk, -⟩ := hlb.tk hc hgj
      obtain ⟨ws, hw⟩ := ha2.tag
      have hl3 := htk.w (q := w) hw6
      have hl4 := htk.2.2
      refine ⟨_, rfl, _, hw, ⟨_, y1.rf.2.1⟩, _, k_setCp y1 ha2 hfr hw6 hwr (by omega) (by omega), ?_⟩
      rintro r h4 ⟨rfl, q1, q2⟩
      refine ⟨rfl, B70_64 ?_⟩
      rw [nI_1]
      refine ih j (i + 1) h4 _ (by omega) ?_ q1 (hcq.stlk hc hgj) (hlb.stlk hcq hc hgj) ((hkc.trans y2.kc).trans q2) (fun h' q3 q4 => hq h' ?_ q4)
      · rw [stl_H (by omega) hw6 hwr, uC_s]
        have := (countP_er (p := pq 0) hgj).2
        omega
      · rw [hs]
        exact q3
theorem k_sm {gc : Nat → Nat} {d : Nat} {h : AH} {A : Nat → Nat} {I : Nat → Int32} {v : Mu} {F : Nat} {c b : Nat} {D how : Int32} (hR : RC gc h A I v F) (hc : c < 4) (hb : b ≤ 440) (hcq : CQ v) (hlb : LB v b) : WP gc (d + 9) 70 [.ref (A 0), .ref (A (30 + c)), .int D, .int how] h (fun r h' => r = none ∧ RC gc h' A I (smF c (isDd D) how (uC v (14 + c)).length 0 v) F ∧ KC h h') := by
  obtain ⟨xs, hX⟩ := hR
  have hch := hX.rf.chO hc
  have hk := isC_c hc
  refine M70 ⟨_, _, hch, rfl, hX.lst (lt_C hk), _, rx_sizeC hX hk rfl, ?_⟩
  rintro r h' ⟨rfl, rfl⟩
  have := hlb.1 c hc
  exact ⟨_, rfl, sm_loop hc hb _ (by omega) h' _ 0 0 h' v (Nat.zero_add _) (Nat.zero_add _) ⟨xs, hX⟩ hcq hlb KC.refl (fun h2 q1 q2 => ⟨rfl, q1, q2⟩)⟩
