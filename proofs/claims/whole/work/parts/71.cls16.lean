/-! what is read: ready, held, count -/
def NON : Int64 := Int64.ofNat 18446743073709551616
def rdF (r : Rec) (x : Int32) : Int64 := if x = 0 then (rM r).1.toInt64 else if x = 1 then (mKey (rM r)).toInt64 else if x = 2 then (mHops (rM r)).toInt64 else if x = 3 then (if rRet r then 1 else 0) else if x = 4 then (if mPers (rM r) then 1 else 0) else NON
def hdF (r : Rec) (x : Int32) : Int64 := if x = 5 then (rT r).toInt64 else if x = 6 then (rQ r).toInt64 else if x = 7 then (if rD r = -1 then 0 else 1) else rdF r x
theorem sw_eq {x y : Int32} {j : Nat} (h : x.toInt = 0 + (j : Int)) (hy : y.toInt = (j : Int)) : x = y := Int32.toInt_inj.mp (by rw [h, hy]; omega)
theorem sw_ne {x y : Int32} {lo hi : Int} (h : x.toInt < lo ∨ hi < x.toInt) (h1 : lo ≤ y.toInt) (h2 : y.toInt ≤ hi) : ¬ x = y := by
  rintro rfl
  omega
theorem k_rdF {gc : Nat → Nat} {d : Nat} {h : AH} {k a : Nat} {r : Rec} {x : Int32} (ha : CpAt k h a r) : WP gc (d + 1) 86 [.ref a, .int x] h (fun r' h' => r' = some (.long (rdF r x)) ∧ h' = h) := by
  obtain ⟨m, D, w1, w2, w3⟩ := ha
  refine M86 ⟨fun z => B86_92 ⟨?_, rfl⟩, fun j t hj hx => ?_⟩
  · unfold rdF
    rw [if_neg (sw_ne z (by decide) (by decide)), if_neg (sw_ne z (by decide) (by decide)), if_neg (sw_ne z (by decide) (by decide)), if_neg (sw_ne z (by decide) (by decide)), if_neg (sw_ne z (by decide) (by decide))]
    rfl
  · match j, hj, hx with
    | 0, hj, hx =>
      obtain rfl : x = 0 := sw_eq hx rfl
      cases hj
      exact B86_36 ⟨_, _, w1, rfl, _, _, w3, rfl, rfl, rfl⟩
    | 1, hj, hx =>
      obtain rfl : x = 1 := sw_eq hx rfl
      cases hj
      exact B86_45 ⟨_, _, w1, rfl, _, _, w3, rfl, rfl, rfl⟩
    | 2, hj, hx =>
      obtain rfl : x = 2 := sw_eq hx rfl
      cases hj
      exact B86_54 ⟨_, _, w1, rfl, _, _, w3, rfl, rfl, rfl⟩
    | 3, hj, hx =>
      obtain rfl : x = 3 := sw_eq hx rfl
      cases hj
      have e : rdF r 3 = if rRet r then 1 else 0 := rfl
      rw [e]
      refine B86_63 ⟨_, _, w1, rfl, fun z => B86_74 (B86_75 ⟨?_, rfl⟩), fun z => B86_75 ⟨?_, rfl⟩⟩
      · rw [show rRet r = false from b2i_z.mp z]; rfl
      · rw [show rRet r = true from b2i_nz z]; rfl
    | 4, hj, hx =>
      obtain rfl : x = 4 := sw_eq hx rfl
      cases hj
      have e : rdF r 4 = if mPers (rM r) then 1 else 0 := rfl
      rw [e]
      refine B86_76 ⟨_, _, w1, rfl, _, _, w3, rfl, fun z => B86_90 (B86_91 ⟨?_, rfl⟩), fun z => B86_91 ⟨?_, rfl⟩⟩
      · rw [show mPers (rM r) = false from b2i_z.mp z]; rfl
      · rw [show mPers (rM r) = true from b2i_nz z]; rfl
    | j + 5, hj, hx => cases hj
theorem sw_e5 {x y : Int32} {j : Nat} (h : x.toInt = 5 + (j : Int)) (hy : y.toInt = 5 + (j : Int)) : x = y := Int32.toInt_inj.mp (by rw [h, hy])
theorem k_hdF {gc : Nat → Nat} {d : Nat} {h : AH} {k a : Nat} {r : Rec} {x : Int32} (hk : 14 ≤ k) (ha : CpAt k h a r) : WP gc (d + 2) 88 [.ref a, .int x] h (fun r' h' => r' = some (.long (hdF r x)) ∧ h' = h) := by
  have ha0 := ha
  obtain ⟨m, D, w1, w2, w3⟩ := ha
  have w2 := w2 hk
  subst w2
  refine M88 ⟨fun z => B88_54 ⟨_, k_rdF ha0, ?_⟩, fun j t hj hx => ?_⟩
  · rintro r' h' ⟨rfl, rfl⟩
    refine ⟨_, rfl, ?_, rfl⟩
    unfold hdF
    rw [if_neg (sw_ne z (by decide) (by decide)), if_neg (sw_ne z (by decide) (by decide)), if_neg (sw_ne z (by decide) (by decide))]
  · match j, hj, hx with
    | 0, hj, hx =>
      obtain rfl : x = 5 := sw_e5 hx rfl
      cases hj
      exact B88_28 ⟨_, _, w1, rfl, rfl, rfl⟩
    | 1, hj, hx =>
      obtain rfl : x = 6 := sw_e5 hx rfl
      cases hj
      exact B88_34 ⟨_, _, w1, rfl, rfl, rfl⟩
    | 2, hj, hx =>
      obtain rfl : x = 7 := sw_e5 hx rfl
      cases hj
      have e : hdF r 7 = if rD r = -1 then 0 else 1 := rfl
      rw [e]
      refine B88_40 ⟨_, _, w1, rfl, fun z => B88_52 (B88_53 ⟨?_, rfl⟩), fun z => B88_53 ⟨?_, rfl⟩⟩
      · rw [if_neg z]
      · rw [if_pos z]
    | j + 3, hj, hx => cases hj
theorem wi_len {x : Int32} {n : Nat} (hn : n < 2 ^ 31) (h : wi x 0 (nI n - 1) = true) : ∃ i : Nat, i < n ∧ x = nI i := by
  cases n with
  | zero =>
    exfalso
    obtain ⟨h1, h2⟩ := of_decide_eq_true h
    have e : nI 0 - 1 = -1 := by decide
    rw [e] at h2
    have h1 : ¬ x.toInt < 0 := fun z => h1 (Int32.lt_iff_toInt_lt.mpr z)
    have h2 : ¬ (-1 : Int) < x.toInt := fun z => h2 (Int32.lt_iff_toInt_lt.mpr z)
    omega
  | succ n =>
    rw [nI_pred] at h
    exact wi_rng (by omega) h
def opRy (v : Mu) (x y f : Int32) : Int64 := if wi x 0 5 && wi y 0 (nI (uC v (2 + x.toNatClampNeg)).length - 1) then (match (uC v (2 + x.toNatClampNeg))[y.toNatClampNeg]? with
    | some r => rdF r f
    | none => NON) else NON
theorem k_ready {gc : Nat → Nat} {d : Nat} {h : AH} {A : Nat → Nat} {I : Nat → Int32} {v : Mu} {F : Nat} {x y f : Int32} (hR : RC gc h A I v F) (hl : ∀ q, q < 6 → (uC v (2 + q)).length ≤ 64) : WP gc (d + 4) 85 [.ref (A 0), .int x, .int y, .int f] h (fun r h' => r = some (.long (opRy v x y f)) ∧ RC gc h' A I v F ∧ KC h h') := by
  have hR0 := hR
  obtain ⟨xs, hX⟩ := hR
  refine M85 ⟨_, k_isWithin, ?_⟩
  rintro r h' ⟨rfl, rfl⟩
  refine ⟨_, rfl, fun z => B85_31 ⟨?_, hR0, KC.refl⟩, fun z => ?_⟩
  · have z : wi x 0 5 = false := b2i_z.mp z
    unfold opRy
    rw [z, Bool.false_and, if_neg (by decide)]
    rfl
  · have z : wi x 0 5 = true := b2i_nz z
    obtain ⟨w, hw, rfl⟩ := wi_rng (n := 5) (by decide) z
    have hw : w < 6 := hw
    have hc : (nI w).toNatClampNeg = w := nI_clamp (by omega)
    obtain ⟨t, vs, g1, g2, g3, g4⟩ := hX.rf.quA hw
    refine ⟨_, _, hX.rf.2.1, rfl, t, vs, _, g1, g2, g3, g4, _, _, hX.rf.quO hw, rfl, hX.lst (lt_C (isC_q hw)), _, rx_sizeC hX (isC_q hw) rfl, ?_⟩
    rintro r h2 ⟨rfl, rfl⟩
    refine ⟨_, rfl, _, k_isWithin, ?_⟩
    rintro r h3 ⟨rfl, rfl⟩
    refine ⟨_, rfl, fun z2 => ?_, fun z2 => B85_31 ⟨?_, hR0, KC.refl⟩⟩
    · have z2 : wi y 0 (nI (uC v (2 + w)).length - 1) = true := b2i_nz z2
      have hlw := hl w hw
      obtain ⟨i, hi, rfl⟩ := wi_len (by omega) z2
      obtain ⟨t, vs, g1, g2, g3, g4⟩ := hX.rf.quA hw
      refine B85_35 ⟨_, _, hX.rf.2.1, rfl, t, vs, _, g1, g2, g3, g4, _, _, hX.rf.quO hw, rfl, hX.lst (lt_C (isC_q hw)), _, rx_getC hX (isC_q hw) rfl hi, ?_⟩
      rintro r h4 ⟨a, rfl, rfl, -, ha⟩
      obtain ⟨ws, hws⟩ := ha.tag
      refine ⟨_, rfl, _, hws, _, k_rdF ha, ?_⟩
      rintro r h5 ⟨rfl, rfl⟩
      refine ⟨_, rfl, ?_, hR0, KC.refl⟩
      unfold opRy
      rw [hc, z, z2, Bool.true_and, if_pos rfl, nI_clamp (by omega), List.getElem?_eq_getElem hi]
    · have z2 : wi y 0 (nI (uC v (2 + w)).length - 1) = false := b2i_z.mp z2
      unfold opRy
      rw [hc, z2, Bool.and_false, if_neg (by decide)]
      rfl
def opHd (v : Mu) (x y f : Int32) : Int64 := if wi x 0 3 && wi y 0 (nI (uC v (14 + x.toNatClampNeg)).length - 1) then (match (uC v (14 + x.toNatClampNeg))[y.toNatClampNeg]? with
    | some r => hdF r f
    | none => NON) else NON
theorem k_heldR {gc : Nat → Nat} {d : Nat} {h : AH} {A : Nat → Nat} {I : Nat → Int32} {v : Mu} {F : Nat} {x y f : Int32} (hR : RC gc h A I v F) (hl : ∀ c, c < 4 → (uC v (14 + c)).length ≤ 64) : WP gc (d + 4) 87 [.ref (A 0), .int x, .int y, .int f] h (fun r h' => r = some (.long (opHd v x y f)) ∧ RC gc h' A I v F ∧ KC h h') := by
  have hR0 := hR
  obtain ⟨xs, hX⟩ := hR
  refine M87 ⟨_, k_isChannel, ?_⟩
  rintro r h' ⟨rfl, rfl⟩
  refine ⟨_, rfl, fun z => B87_29 ⟨?_, hR0, KC.refl⟩, fun z => ?_⟩
  · have z : wi x 0 3 = false := b2i_z.mp z
    unfold opHd
    rw [z, Bool.false_and, if_neg (by decide)]
    rfl
  · have z : wi x 0 3 = true := b2i_nz z
    obtain ⟨w, hw, rfl⟩ := wi_rng (n := 3) (by decide) z
    have hw : w < 4 := hw
    have hc : (nI w).toNatClampNeg = w := nI_clamp (by omega)
    obtain ⟨t, vs, g1, g2, g3, g4⟩ := hX.rf.chA hw
    refine ⟨_, _, hX.rf.2.1, rfl, t, vs, _, g1, g2, g3, g4, _, _, hX.rf.chO hw, rfl, hX.lst (lt_C (isC_c hw)), _, rx_sizeC hX (isC_c hw) rfl, ?_⟩
    rintro r h2 ⟨rfl, rfl⟩
    refine ⟨_, rfl, _, k_isWithin, ?_⟩
    rintro r h3 ⟨rfl, rfl⟩
    refine ⟨_, rfl, fun z2 => ?_, fun z2 => B87_29 ⟨?_, hR0, KC.refl⟩⟩
    · have z2 : wi y 0 (nI (uC v (14 + w)).length - 1) = true := b2i_nz z2
      have hlw := hl w hw
      obtain ⟨i, hi, rfl⟩ := wi_len (by omega) z2
      obtain ⟨t, vs, g1, g2, g3, g4⟩ := hX.rf.chA hw
      refine B87_33 ⟨_, _, hX.rf.2.1, rfl, t, vs, _, g1, g2, g3, g4, _, _, hX.rf.chO hw, rfl, hX.lst (lt_C (isC_c hw)), _, rx_getC hX (isC_c hw) rfl hi, ?_⟩
      rintro r h4 ⟨a, rfl, rfl, -, ha⟩
      obtain ⟨ws, hws⟩ := ha.tag
      refine ⟨_, rfl, _, hws, _, k_hdF (by omega) ha, ?_⟩
      rintro r h5 ⟨rfl, rfl⟩
      refine ⟨_, rfl, ?_, hR0, KC.refl⟩
      unfold opHd
      rw [hc, z, z2, Bool.true_and, if_pos rfl, nI_clamp (by omega), List.getElem?_eq_getElem hi]
    · have z2 : wi y 0 (nI (uC v (14 + w)).length - 1) = false := b2i_z.mp z2
      unfold opHd
      rw [hc, z2, Bool.and_false, if_neg (by decide)]
      rfl
theorem k_countDeeds {gc : Nat → Nat} {d : Nat} {h : AH} {A : Nat → Nat} {I : Nat → Int32} {v : Mu} {F : Nat} {c : Nat} (hR : RC gc h A I v F) (hc : c < 4) : WP gc (d + 2) 90 [.ref (A 0), .int (nI c)] h (fun r h' => r = some (.int (if I (301 + 10 * c) = 0 then -1 else nI (uD v (18 + c)).length)) ∧ h' = h) := by
  obtain ⟨xs, hX⟩ := hR
  obtain ⟨t, vs, g1, g2, g3, g4⟩ := hX.rf.chA hc
  refine M90 ⟨_, _, hX.rf.2.1, rfl, t, vs, _, g1, g2, g3, g4, _, _, hX.rf.chO hc, rfl, fun z => B90_27 (B90_28 ⟨?_, rfl⟩), fun z => ⟨_, _, hX.rf.2.1, rfl, t, vs, _, g1, g2, g3, g4, _, _, hX.rf.chO hc, rfl, hX.lst (lt_D (isD_c hc)), _, rx_sizeD hX (isD_c hc) rfl, ?_⟩⟩
  · rw [if_pos z]
  · rintro r h2 ⟨rfl, rfl⟩
    refine ⟨_, rfl, B90_28 ⟨?_, rfl⟩⟩
    rw [if_neg z]
theorem ctB_loop {gc : Nat → Nat} {d : Nat} {h : AH} {A : Nat → Nat} {I : Nat → Int32} {v : Mu} {F : Nat} {xs : Nat → List Nat} {q : PT} {x : Int32} (hX : RX gc h A I xs xs v F) (hl : (uB v 0).length ≤ 64) : ∀ n i g, i + n = (uB v 0).length → q (some (.int (nI (g + ((uB v 0).drop i).countP (bE x))))) h → TT gc (d + 3) 91 q 4 [.ref (A 0), .int x, .int (nI g), .int (nI i)] [] h := by
  have hb : isB 0 := rfl
  intro n
  induction n with
  | zero =>
    intro i g hi hq
    refine B91_4 ⟨_, _, hX.rf.2.1, rfl, hX.lst (k := 0) (by decide), _, rx_sizeB hX hb rfl, ?_⟩
    rintro r h' ⟨rfl, rfl⟩
    refine ⟨_, rfl, fun _ => B91_42 ?_, fun z => absurd (nI_le (by omega) (by omega)) z⟩
    rw [List.drop_eq_nil_of_le (by omega)] at hq
    exact hq
  | succ n ih =>
    intro i g hi hq
    have hil : i < (uB v 0).length := by omega
    refine B91_4 ⟨_, _, hX.rf.2.1, rfl, hX.lst (k := 0) (by decide), _, rx_sizeB hX hb rfl, ?_⟩
    rintro r h' ⟨rfl, rfl⟩
    refine ⟨_, rfl, fun z => absurd z (nI_ge hil (by omega)), fun _ => ⟨_, _, hX.rf.2.1, rfl, hX.lst (k := 0) (by decide), _, rx_getB hX hb rfl hil, ?_⟩⟩
    rintro r h2 ⟨a, rfl, rfl, -, ha⟩
    rw [List.drop_eq_getElem_cons hil, List.countP_cons] at hq
    refine ⟨_, rfl, _, ha, _, _, ha, rfl, fun z => B91_36 ?_, fun z => B91_36 ?_⟩
    · rw [nI_1]
      rw [show bE x (uB v 0)[i] = false from decide_eq_false z, if_neg (by decide), Nat.add_zero] at hq
      exact ih (i + 1) g (by omega) hq
    · rw [nI_1, nI_1]
      rw [show bE x (uB v 0)[i] = true from decide_eq_true z, if_pos rfl] at hq
      refine ih (i + 1) (g + 1) (by omega) ?_
      rw [Nat.add_assoc, Nat.add_comm 1]
      exact hq
theorem k_countB {gc : Nat → Nat} {d : Nat} {h : AH} {A : Nat → Nat} {I : Nat → Int32} {v : Mu} {F : Nat} {x : Int32} (hR : RC gc h A I v F) (hl : (uB v 0).length ≤ 64) : WP gc (d + 4) 91 [.ref (A 0), .int x] h (fun r h' => r = some (.int (nI ((uB v 0).countP (bE x)))) ∧ h' = h) := by
  obtain ⟨xs, hX⟩ := hR
  refine M91 (ctB_loop hX hl (uB v 0).length 0 0 (by omega) ⟨?_, rfl⟩)
  rw [Nat.zero_add]
  rfl
def fRow (v : Mu) (i : Nat) : Int32 := match (uR v 8)[i]? with
  | some r => r.1
  | none => -1
theorem k_fRow {gc : Nat → Nat} {d : Nat} {h : AH} {A : Nat → Nat} {I : Nat → Int32} {v : Mu} {F : Nat} {i : Nat} (hR : RC gc h A I v F) (hi : i < 4) (hl : RB v) : WP gc (d + 4) 92 [.ref (A 0), .int (nI i)] h (fun r h' => r = some (.int (fRow v i)) ∧ h' = h) := by
  obtain ⟨xs, hX⟩ := hR
  obtain ⟨t, vs, g1, g2, g3, g4⟩ := hX.rf.quA (e := 0) (by decide)
  have hr : isR 8 := isR_q (q := 0) (by decide)
  have hl : (uR v 8).length ≤ 64 := hl 0 (by decide)
  refine M92 ⟨_, _, hX.rf.2.1, rfl, t, vs, _, g1, g2, g3, g4, _, _, hX.rf.quO (q := 0) (by decide), rfl, hX.lst (lt_R hr), _, rx_sizeR hX hr rfl, ?_⟩
  rintro r h2 ⟨rfl, rfl⟩
  refine ⟨_, rfl, fun z => B92_38 (B92_39 ⟨?_, rfl⟩), fun z => ⟨_, _, hX.rf.2.1, rfl, t, vs, _, g1, g2, g3, g4, _, _, hX.rf.quO (q := 0) (by decide), rfl, hX.lst (lt_R hr), _, rx_getR (j := i) hX hr rfl ?_, ?_⟩⟩
  · have : ¬ i < (uR v 8).length := fun w => nI_ge w (by omega) z
    unfold fRow
    rw [List.getElem?_eq_none (by omega)]
  · apply Nat.lt_of_not_le
    intro w
    exact z (nI_le w (by omega))
  · rintro r h3 ⟨a, rfl, rfl, hj, ha⟩
    refine ⟨_, rfl, _, ha, _, _, ha, rfl, B92_39 ⟨?_, rfl⟩⟩
    have hil : i < (uR v 8).length := by
      apply Nat.lt_of_not_le
      intro w
      exact z (nI_le w (by omega))
    unfold fRow
    rw [List.getElem?_eq_getElem hil]
def opCt (s : St) (x y : Int32) : Int32 :=
  if x = 0 then (if wi y 0 5 then nI (uC s.2 (2 + y.toNatClampNeg)).length else -1000)
  else if x = 1 then (if wi y 0 5 then nI (uR s.2 (8 + y.toNatClampNeg)).length else -1000)
  else if x = 2 then (if wi y 0 3 then nI (uC s.2 (14 + y.toNatClampNeg)).length else -1000)
  else if x = 3 then (if wi y 0 3 then (if s.1 (301 + 10 * y.toNatClampNeg) = 0 then -1 else nI (uD s.2 (18 + y.toNatClampNeg)).length) else -1000)
  else if x = 4 then (if wi y 0 4 then nI ((uB s.2 0).countP (bE y)) else -1000)
  else if x = 5 then s.1 1
  else if x = 6 then s.1 2
  else if x = 7 then (if wi y 0 3 then fRow s.2 y.toNatClampNeg else -1000)
  else -1000
theorem k_countR {gc : Nat → Nat} {d : Nat} {h : AH} {A : Nat → Nat} {I : Nat → Int32} {v : Mu} {F : Nat} {x y : Int32} (hR : RC gc h A I v F) (hl : RB v) (hlB : (uB v 0).length ≤ 64) : WP gc (d + 5) 89 [.ref (A 0), .int x, .int y] h (fun r h' => r = some (.int (opCt (I, v) x y)) ∧ RC gc h' A I v F ∧ KC h h') := by
  have hR0 := hR
  obtain ⟨xs, hX⟩ := hR
  refine M89 ⟨fun z => B89_201 ⟨?_, hR0, KC.refl⟩, fun j t hj hx => ?_⟩
  · unfold opCt
    rw [if_neg (sw_ne z (by decide) (by decide)), if_neg (sw_ne z (by decide) (by decide)), if_neg (sw_ne z (by decide) (by decide)), if_neg (sw_ne z (by decide) (by decide)), if_neg (sw_ne z (by decide) (by decide)), if_neg (sw_ne z (by decide) (by decide)), if_neg (sw_ne z (by decide) (by decide)), if_neg (sw_ne z (by decide) (by decide))]
  · match j, hj, hx with
    | 0, hj, hx =>
      obtain rfl : x = 0 := sw_eq hx rfl
      cases hj
      have ho : opCt (I, v) 0 y = (if wi y 0 5 then nI (uC v (2 + y.toNatClampNeg)).length else -1000) := rfl
      rw [ho]
      refine B89_48 ⟨_, k_isWithin, ?_⟩
      rintro r h' ⟨rfl, rfl⟩
      refine ⟨_, rfl, fun z => B89_72 (B89_75 ⟨?_, hR0, KC.refl⟩), fun z => ?_⟩
      · rw [show wi y 0 5 = false from b2i_z.mp z]; rfl
      · have z : wi y 0 5 = true := b2i_nz z
        obtain ⟨w, hw, rfl⟩ := wi_rng (n := 5) (by decide) z
        have hw : w < 6 := hw
        obtain ⟨t, vs, g1, g2, g3, g4⟩ := hX.rf.quA hw
        refine ⟨_, _, hX.rf.2.1, rfl, t, vs, _, g1, g2, g3, g4, _, _, hX.rf.quO hw, rfl, hX.lst (lt_C (isC_q hw)), _, rx_sizeC hX (isC_q hw) rfl, ?_⟩
        rintro r h2 ⟨rfl, rfl⟩
        refine ⟨_, rfl, B89_75 ⟨?_, hR0, KC.refl⟩⟩
        rw [z, if_pos rfl, nI_clamp (by omega)]
    | 1, hj, hx =>
      obtain rfl : x = 1 := sw_eq hx rfl
      cases hj
      have ho : opCt (I, v) 1 y = (if wi y 0 5 then nI (uR v (8 + y.toNatClampNeg)).length else -1000) := rfl
      rw [ho]
      refine B89_76 ⟨_, k_isWithin, ?_⟩
      rintro r h' ⟨rfl, rfl⟩
      refine ⟨_, rfl, fun z => B89_100 (B89_103 ⟨?_, hR0, KC.refl⟩), fun z => ?_⟩
      · rw [show wi y 0 5 = false from b2i_z.mp z]; rfl
      · have z : wi y 0 5 = true := b2i_nz z
        obtain ⟨w, hw, rfl⟩ := wi_rng (n := 5) (by decide) z
        have hw : w < 6 := hw
        obtain ⟨t, vs, g1, g2, g3, g4⟩ := hX.rf.quA hw
        refine ⟨_, _, hX.rf.2.1, rfl, t, vs, _, g1, g2, g3, g4, _, _, hX.rf.quO hw, rfl, hX.lst (lt_R (isR_q hw)), _, rx_sizeR hX (isR_q hw) rfl, ?_⟩
        rintro r h2 ⟨rfl, rfl⟩
        refine ⟨_, rfl, B89_103 ⟨?_, hR0, KC.refl⟩⟩
        rw [z, if_pos rfl, nI_clamp (by omega)]
    | 2, hj, hx =>
      obtain rfl : x = 2 := sw_eq hx rfl
      cases hj
      have ho : opCt (I, v) 2 y = (if wi y 0 3 then nI (uC v (14 + y.toNatClampNeg)).length else -1000) := rfl
      rw [ho]
      refine B89_104 ⟨_, k_isChannel, ?_⟩
      rintro r h' ⟨rfl, rfl⟩
      refine ⟨_, rfl, fun z => B89_126 (B89_129 ⟨?_, hR0, KC.refl⟩), fun z => ?_⟩
      · rw [show wi y 0 3 = false from b2i_z.mp z]; rfl
      · have z : wi y 0 3 = true := b2i_nz z
        obtain ⟨w, hw, rfl⟩ := wi_rng (n := 3) (by decide) z
        have hw : w < 4 := hw
        obtain ⟨t, vs, g1, g2, g3, g4⟩ := hX.rf.chA hw
        refine ⟨_, _, hX.rf.2.1, rfl, t, vs, _, g1, g2, g3, g4, _, _, hX.rf.chO hw, rfl, hX.lst (lt_C (isC_c hw)), _, rx_sizeC hX (isC_c hw) rfl, ?_⟩
        rintro r h2 ⟨rfl, rfl⟩
        refine ⟨_, rfl, B89_129 ⟨?_, hR0, KC.refl⟩⟩
        rw [z, if_pos rfl, nI_clamp (by omega)]
    | 3, hj, hx =>
      obtain rfl : x = 3 := sw_eq hx rfl
      cases hj
      have ho : opCt (I, v) 3 y = (if wi y 0 3 then (if I (301 + 10 * y.toNatClampNeg) = 0 then -1 else nI (uD v (18 + y.toNatClampNeg)).length) else -1000) := rfl
      rw [ho]
      refine B89_130 ⟨_, k_isChannel, ?_⟩
      rintro r h' ⟨rfl, rfl⟩
      refine ⟨_, rfl, fun z => B89_145 (B89_148 ⟨?_, hR0, KC.refl⟩), fun z => ?_⟩
      · rw [show wi y 0 3 = false from b2i_z.mp z]; rfl
      · have z : wi y 0 3 = true := b2i_nz z
        obtain ⟨w, hw, rfl⟩ := wi_rng (n := 3) (by decide) z
        have hw : w < 4 := hw
        refine ⟨⟨_, hX.rf.2.1⟩, _, k_countDeeds hR0 hw, ?_⟩
        rintro r h2 ⟨rfl, rfl⟩
        refine ⟨_, rfl, B89_148 ⟨?_, hR0, KC.refl⟩⟩
        rw [z, if_pos rfl, nI_clamp (by omega)]
    | 4, hj, hx =>
      obtain rfl : x = 4 := sw_eq hx rfl
      cases hj
      have ho : opCt (I, v) 4 y = (if wi y 0 4 then nI ((uB v 0).countP (bE y)) else -1000) := rfl
      rw [ho]
      refine B89_149 ⟨_, k_isWithin, ?_⟩
      rintro r h' ⟨rfl, rfl⟩
      refine ⟨_, rfl, fun z => B89_166 (B89_169 ⟨?_, hR0, KC.refl⟩), fun z => ?_⟩
      · rw [show wi y 0 4 = false from b2i_z.mp z]; rfl
      · have z : wi y 0 4 = true := b2i_nz z
        refine ⟨⟨_, hX.rf.2.1⟩, _, k_countB hR0 hlB, ?_⟩
        rintro r h2 ⟨rfl, rfl⟩
        refine ⟨_, rfl, B89_169 ⟨?_, hR0, KC.refl⟩⟩
        rw [z, if_pos rfl]
    | 5, hj, hx =>
      obtain rfl : x = 5 := sw_eq hx rfl
      cases hj
      exact B89_170 ⟨_, _, hX.rf.2.1, rfl, rfl, hR0, KC.refl⟩
    | 6, hj, hx =>
      obtain rfl : x = 6 := sw_eq hx rfl
      cases hj
      exact B89_175 ⟨_, _, hX.rf.2.1, rfl, rfl, hR0, KC.refl⟩
    | 7, hj, hx =>
      obtain rfl : x = 7 := sw_eq hx rfl
      cases hj
      have ho : opCt (I, v) 7 y = (if wi y 0 3 then fRow v y.toNatClampNeg else -1000) := rfl
      rw [ho]
      refine B89_180 ⟨_, k_isWithin, ?_⟩
      rintro r h' ⟨rfl, rfl⟩
      refine ⟨_, rfl, fun z => B89_197 (B89_200 ⟨?_, hR0, KC.refl⟩), fun z => ?_⟩
      · rw [show wi y 0 3 = false from b2i_z.mp z]; rfl
      · have z : wi y 0 3 = true := b2i_nz z
        obtain ⟨w, hw, rfl⟩ := wi_rng (n := 3) (by decide) z
        have hw : w < 4 := hw
        refine ⟨⟨_, hX.rf.2.1⟩, _, k_fRow hR0 hw hl, ?_⟩
        rintro r h2 ⟨rfl, rfl⟩
        refine ⟨_, rfl, B89_200 ⟨?_, hR0, KC.refl⟩⟩
        rw [z, if_pos rfl, nI_clamp (by omega)]
    | j + 8, hj, hx => cases hj
