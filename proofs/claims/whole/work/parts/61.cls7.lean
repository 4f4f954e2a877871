/-! isChosen, countChosen, insert, put, route -/
theorem chosen_loop {gc : Nat → Nat} {d : Nat} {h : AH} {A : Nat → Nat} {I : Nat → Int32} {xs ys : Nat → List Nat} {v : Mu} {F : Nat} {q : PT} {e w : Nat} {key : Int32} (hR : RX gc h A I xs ys v F) (hl : (uB v 0).length ≤ 64) : ∀ n i v6, i + n = (uB v 0).length → q (some (.int (b2i (((uB v 0).drop i).any (chB (I (101 + 10 * e)) e w key))))) h → TT gc (d + 3) 45 q 14 [.ref (A 0), .int (nI e), .int (nI w), .int key, .int (I (101 + 10 * e)), .int (nI i), v6] [] h := by
  have hF := hR.rf
  have hb : isB 0 := rfl
  intro n
  induction n with
  | zero =>
    intro i v6 hi hq
    refine B45_14 ⟨_, _, hF.2.1, rfl, hR.lst (k := 0) (by decide), _, rx_sizeB hR hb (hR.xB hb), ?_⟩
    rintro r h' ⟨rfl, rfl⟩
    refine ⟨_, rfl, fun _ => B45_99 ⟨Or.inl rfl, ?_⟩, fun z => absurd (nI_le (by omega) (by omega)) z⟩
    rw [List.drop_eq_nil_of_le (by omega)] at hq
    exact hq
  | succ n ih =>
    intro i v6 hi hq
    have hil : i < (uB v 0).length := by omega
    refine B45_14 ⟨_, _, hF.2.1, rfl, hR.lst (k := 0) (by decide), _, rx_sizeB hR hb (hR.xB hb), ?_⟩
    rintro r h' ⟨rfl, rfl⟩
    refine ⟨_, rfl, fun z => absurd z (nI_ge hil (by omega)), fun _ => ⟨_, _, hF.2.1, rfl, hR.lst (k := 0) (by decide), _, rx_getB hR hb (hR.xB hb) hil, ?_⟩⟩
    rintro r h2 ⟨a, rfl, rfl, -, ha⟩
    rw [List.drop_eq_getElem_cons hil, List.any_cons] at hq
    generalize hy : (uB v 0)[i] = y at ha hq
    have nx : chB (I (101 + 10 * e)) e w key y = false → TT gc (d + 3) 45 q 93 [.ref (A 0), .int (nI e), .int (nI w), .int key, .int (I (101 + 10 * e)), .int (nI i), .ref a] [] h2 := fun hz => by
      rw [hz, Bool.false_or] at hq
      refine B45_93 ?_
      rw [nI_1]
      exact ih (i + 1) _ (by omega) hq
    have ye : chB (I (101 + 10 * e)) e w key y = true → TT gc (d + 3) 45 q 91 [.ref (A 0), .int (nI e), .int (nI w), .int key, .int (I (101 + 10 * e)), .int (nI i), .ref a] [] h2 := fun hz => by
      rw [hz, Bool.true_or] at hq
      exact B45_91 ⟨Or.inr rfl, hq⟩
    unfold chB at nx ye
    refine ⟨a, rfl, _, ha, _, _, ha, rfl, fun z => nx ?_, fun z1 => ⟨_, _, ha, rfl, fun z => nx ?_, fun z2 => ⟨fun z3 => ye ?_, fun z3 => ⟨_, _, ha, rfl, fun z4 => ye ?_, fun z4 => ⟨fun z5 => nx ?_, fun z5 => ⟨_, _, ha, rfl, _, k_match, ?_⟩⟩⟩⟩⟩⟩
    · rw [decide_eq_false z, Bool.false_and]
    · rw [decide_eq_false z, Bool.false_and, Bool.and_false]
    · rw [decide_eq_true z1, decide_eq_true z2, decide_eq_true z3]; rfl
    · rw [decide_eq_true z1, decide_eq_true z2, decide_eq_true z4, Bool.true_or, Bool.or_true]; rfl
    · rw [decide_eq_false z3, decide_eq_false z4, decide_eq_false z5, Bool.false_and, Bool.false_or, Bool.false_or, Bool.and_false, Bool.and_false]
    · rintro r h3 ⟨rfl, rfl⟩
      rw [decide_eq_true z1, decide_eq_true z2, decide_eq_false z3, decide_eq_false z4, decide_eq_true z5, Bool.false_or, Bool.false_or, Bool.true_and, Bool.true_and, Bool.true_and] at nx ye
      exact ⟨_, rfl, fun z => nx (b2i_z.mp z), fun z => ye (b2i_nz z)⟩
theorem k_isCh {gc : Nat → Nat} {d : Nat} {h : AH} {A : Nat → Nat} {I : Nat → Int32} {xs ys : Nat → List Nat} {v : Mu} {F : Nat} {e w : Nat} {key : Int32} (hR : RX gc h A I xs ys v F) (he : e < 5) (hl : (uB v 0).length ≤ 64) : WP gc (d + 4) 45 [.ref (A 0), .int (nI e), .int (nI w), .int key] h (fun r h' => r = some (.int (b2i (isCh (I, v) e w key))) ∧ h' = h) := by
  have hF := hR.rf
  obtain ⟨t, vs, g1, g2, g3, g4⟩ := hF.exA he
  exact M45 ⟨_, _, hF.2.1, rfl, t, vs, _, g1, g2, g3, g4, _, _, hF.2.2.2.2.2.1 e he, rfl, chosen_loop hR hl (uB v 0).length 0 _ (by omega) ⟨rfl, rfl⟩⟩
def ccF (s : St) (e : Nat) (key : Int32) : Nat → Nat → Nat
  | 0, _ => 0
  | n + 1, q => (isCh s e q key).toNat + ccF s e key n (q + 1)
theorem cc_le {s : St} {e : Nat} {key : Int32} : ∀ n q, ccF s e key n q ≤ n := by
  intro n
  induction n with
  | zero => intro q; exact Nat.le_refl _
  | succ n ih =>
    intro q
    have := ih (q + 1)
    have h2 : (isCh s e q key).toNat ≤ 1 := by cases isCh s e q key <;> decide
    show (isCh s e q key).toNat + ccF s e key n (q + 1) ≤ n + 1
    omega
theorem cc_loop {gc : Nat → Nat} {d : Nat} {h : AH} {A : Nat → Nat} {I : Nat → Int32} {xs ys : Nat → List Nat} {v : Mu} {F : Nat} {q : PT} {e : Nat} {key : Int32} (hR : RX gc h A I xs ys v F) (he : e < 5) (hl : (uB v 0).length ≤ 64) : ∀ n w c, w + n = 6 → c ≤ w → q (some (.int (nI (c + ccF (I, v) e key n w)))) h → TT gc (d + 4) 44 q 5 [.ref (A 0), .int (nI e), .int key, .int (nI c), .int (nI w)] [] h := by
  intro n
  induction n with
  | zero =>
    intro w c hw hc hq
    exact B44_5 ⟨fun _ => B44_32 hq, fun z => absurd (show (6 : Int32) ≤ nI w from nI_le (a := 6) (by omega) (by omega)) z⟩
  | succ n ih =>
    intro w c hw hc hq
    have hq : q (some (.int (nI (c + ((isCh (I, v) e w key).toNat + ccF (I, v) e key n (w + 1)))))) h := hq
    refine B44_5 ⟨fun z => absurd z (show ¬ (6 : Int32) ≤ nI w from nI_ge (b := 6) (by omega) (by decide)), fun _ => ⟨⟨_, hR.rf.2.1⟩, _, k_isCh hR he hl, ?_⟩⟩
    rintro r h' ⟨rfl, rfl⟩
    refine ⟨_, rfl, fun z => B44_26 ?_, fun z => B44_26 ?_⟩
    · rw [b2i_z.mp z] at hq
      rw [nI_1]
      refine ih (w + 1) c (by omega) (by omega) ?_
      rw [show c + ccF (I, v) e key n (w + 1) = c + (false.toNat + ccF (I, v) e key n (w + 1)) from by show _ = c + (0 + _); omega]
      exact hq
    · rw [b2i_nz z] at hq
      rw [nI_1, nI_1]
      refine ih (w + 1) (c + 1) (by omega) (by omega) ?_
      rw [show c + 1 + ccF (I, v) e key n (w + 1) = c + (true.toNat + ccF (I, v) e key n (w + 1)) from by show _ = c + (1 + _); omega]
      exact hq
theorem k_cc {gc : Nat → Nat} {d : Nat} {h : AH} {A : Nat → Nat} {I : Nat → Int32} {xs ys : Nat → List Nat} {v : Mu} {F : Nat} {e : Nat} {key : Int32} (hR : RX gc h A I xs ys v F) (he : e < 5) (hl : (uB v 0).length ≤ 64) : WP gc (d + 5) 44 [.ref (A 0), .int (nI e), .int key] h (fun r h' => r = some (.int (nI (ccF (I, v) e key 6 0))) ∧ h' = h) :=
  M44 (cc_loop hR he hl 6 0 0 rfl (Nat.le_refl _) ⟨by rw [Nat.zero_add], rfl⟩)
/-! insert -/
theorem CpAt.toW {k j : Nat} {h : AH} {a : Nat} {r : Rec} (hc : CpAt k h a r) (hj : j < 14) : CpAt j h a (rW r) := by
  obtain ⟨m, D, h1, -, h3⟩ := hc
  exact ⟨m, D, h1, fun z => by omega, h3⟩
theorem ins_loop {gc : Nat → Nat} {d : Nat} {h : AH} {A : Nat → Nat} {I : Nat → Int32} {xs ys : Nat → List Nat} {v : Mu} {F : Nat} {q : PT} {e a : Nat} {r : Rec} (hR : RX gc h A I xs ys v F) (he : e < 6) (hl : (uC v (2 + e)).length ≤ 65) (ha : CpAt (2 + e) h a r) (hf : free ys a) (hq : ∀ h', RX gc h' A I (va_up xs (2 + e) (ins (xs (2 + e)) (ipos (rP r) (uC v (2 + e)) (uC v (2 + e)).length) a)) (va_up ys (2 + e) (ins (ys (2 + e)) (ipos (rP r) (uC v (2 + e)) (uC v (2 + e)).length) a)) (upC v (2 + e) (insR (uC v (2 + e)) r)) F → KL h h' → q none h') : ∀ n, n ≤ (uC v (2 + e)).length → ipos (rP r) (uC v (2 + e)) n = ipos (rP r) (uC v (2 + e)) (uC v (2 + e)).length → TT gc (d + 5) 51 q 8 [.ref (A (20 + e)), .ref a, .int (nI n)] [] h := by
  have hk := isC_q he
  have hx := hR.xL (k := 2 + e) (by omega)
  have hqu := hR.rf.quO he
  have fin : ∀ n, n ≤ (uC v (2 + e)).length → n = ipos (rP r) (uC v (2 + e)) (uC v (2 + e)).length → TT gc (d + 5) 51 q 41 [.ref (A (20 + e)), .ref a, .int (nI n)] [] h := fun n hn hz => by
    refine B51_41 ⟨_, _, hqu, rfl, hR.lst (lt_C hk), _, rx_insC hR hk hx hn (by rw [if_neg (by omega)]; omega) ha hf, ?_⟩
    rintro r' h' ⟨rfl, q1, q2⟩
    subst hz
    exact ⟨rfl, hq h' q1 q2⟩
  intro n
  induction n with
  | zero =>
    intro hn hz
    exact B51_8 ⟨fun _ => fin 0 hn hz, fun z => absurd (show nI 0 ≤ 0 by decide) z⟩
  | succ n ih =>
    intro hn hz
    have hg := rx_getC (d := d + 2) (j := n) hR hk hx (by omega)
    rw [← nI_pred n] at hg
    refine B51_8 ⟨fun z => absurd z (nI_nle (by omega) (by omega)), fun _ => ⟨_, _, hqu, rfl, hR.lst (lt_C hk), _, hg, ?_⟩⟩
    rintro r' h' ⟨a2, rfl, rfl, -, ha2⟩
    obtain ⟨m2, D2, w1, -, -⟩ := ha2
    obtain ⟨m, D, w2, w3, w4⟩ := ha
    have hi : ipos (rP r) (uC v (2 + e)) (n + 1) = if rP (uC v (2 + e))[n] ≤ rP r then n + 1 else ipos (rP r) (uC v (2 + e)) n := by
      rw [show ipos (rP r) (uC v (2 + e)) (n + 1) = (match (uC v (2 + e))[n]? with | none => ipos (rP r) (uC v (2 + e)) n | some y => if rP y ≤ rP r then n + 1 else ipos (rP r) (uC v (2 + e)) n) from rfl, List.getElem?_eq_getElem (by omega)]
    refine ⟨_, rfl, _, w1, _, _, w1, rfl, _, _, w2, rfl, fun z => fin (n + 1) hn ?_, fun z => ?_⟩
    · rw [← hz, hi, if_pos z]
    · rw [pk_m1]
      refine ih (by omega) ?_
      rw [← hz, hi, if_neg z]
theorem k_insQ {gc : Nat → Nat} {d : Nat} {h : AH} {A : Nat → Nat} {I : Nat → Int32} {xs ys : Nat → List Nat} {v : Mu} {F : Nat} {e a : Nat} {r : Rec} (hR : RX gc h A I xs ys v F) (he : e < 6) (hl : (uC v (2 + e)).length ≤ 65) (ha : CpAt (2 + e) h a r) (hf : free ys a) : WP gc (d + 6) 51 [.ref (A (20 + e)), .ref a] h (fun r' h' => r' = none ∧ RX gc h' A I (va_up xs (2 + e) (ins (xs (2 + e)) (ipos (rP r) (uC v (2 + e)) (uC v (2 + e)).length) a)) (va_up ys (2 + e) (ins (ys (2 + e)) (ipos (rP r) (uC v (2 + e)) (uC v (2 + e)).length) a)) (upC v (2 + e) (insR (uC v (2 + e)) r)) F ∧ KL h h') := by
  refine M51 ⟨_, _, hR.rf.quO he, rfl, hR.lst (lt_C (isC_q he)), _, rx_sizeC hR (isC_q he) (hR.xL (by omega)), ?_⟩
  rintro r' h' ⟨rfl, rfl⟩
  exact ⟨_, rfl, ins_loop hR he hl ha hf (fun h' q1 q2 => ⟨rfl, q1, q2⟩) _ (Nat.le_refl _) rfl⟩
/-! put -/
def KM (h h' : AH) : Prop := ∀ (b : Nat) (vs : List Value), at_ h b 7 vs → at_ h' b 7 vs
theorem KM.trans {h h' h'' : AH} (h1 : KM h h') (h2 : KM h' h'') : KM h h'' := fun b vs hb => h2 b vs (h1 b vs hb)
theorem KO.km {h h' : AH} (h1 : KO h h') : KM h h' := fun b vs hb => h1 b 7 vs (by omega) hb
theorem KL.km {h h' : AH} (h1 : KL h h') : KM h h' := h1.ko.km
theorem sub_le0 {a b : Nat} (hb : b < 2 ^ 30) (h : a ≤ b) : nI a - nI b ≤ 0 := by
  by_cases hz : a = b
  · subst hz
    rw [pk_sub (Nat.le_refl _), Nat.sub_self]
    decide
  · have := pk_sneg hb (show a < b by omega)
    exact Int32.le_of_lt this
theorem put_loop {gc : Nat → Nat} {d : Nat} {A : Nat → Nat} {I : Nat → Int32} {q : PT} {e F : Nat} {x1 : Int32} {a2 : Nat} (he : e < 6) : ∀ n (h : AH) (v : Mu), RC gc h A I v F → n ≤ (uC v (2 + e)).length → (uC v 1).length + n ≤ 449 → (∀ h', RC gc h' A I (shN n e v) F → KL h h' → q none h') → TT gc (d + 6) 49 q 48 [.ref (A 0), .int x1, .ref a2, .ref (A (20 + e)), .int (nI n)] [] h := by
  intro n
  induction n with
  | zero =>
    intro h v hR _ _ hq
    exact B49_48 ⟨fun _ => B49_78 (hq h hR KL.refl), fun z => absurd (show nI 0 ≤ 0 by decide) z⟩
  | succ n ih =>
    intro h v hR hn hl hq
    obtain ⟨xs, hX⟩ := hR
    have hF := hX.rf
    have hk := isC_q he
    cases hW : uC v (2 + e) with
    | nil => rw [hW] at hn; cases hn
    | cons r W =>
      refine B49_48 ⟨fun z => absurd z (nI_nle (by omega) (by omega)), fun _ => ⟨_, _, hF.2.1, rfl, _, _, hF.quO he, rfl, hX.lst (lt_C hk), _, rx_rmC (j := 0) hX hk rfl (by rw [hW]; exact Nat.succ_pos _), ?_⟩⟩
      rintro r' h1 ⟨a, rfl, y1, y2, y3, ha⟩
      have hfr := (hX.2.2.1.er hk y3).2
      have eh : (uC v (2 + e))[0]'(by rw [hW]; exact Nat.succ_pos _) = r := by simp only [hW, List.getElem_cons_zero]
      rw [eh] at ha
      have ee : (uC v (2 + e)).eraseIdx 0 = W := by rw [hW]; rfl
      rw [ee] at y1
      obtain ⟨ws, hw⟩ := ha.tag
      have e1 : uC (upC v (2 + e) W) 1 = uC v 1 := uC_n (by omega)
      refine ⟨_, rfl, _, hw, y1.lst (k := 1) (by decide), _, rx_addC (k := 1) (x := r) y1 isC_1 rfl (by rw [if_pos rfl, e1]; omega) ?_ (fun _ => hfr), ?_⟩
      · obtain ⟨m, D, w1, w2, w3⟩ := ha
        exact ⟨m, D, w1, fun z => by omega, w3⟩
      rintro r' h2 ⟨rfl, y4, y5⟩
      rw [e1] at y4
      refine ⟨_, rfl, ?_⟩
      rw [pk_m1]
      refine ih h2 _ ⟨_, y4⟩ ?_ ?_ (fun h' q1 q2 => hq h' ?_ ((y2.trans y5).trans q2))
      · rw [uC_n (by omega), uC_s]
        rw [hW] at hn
        exact Nat.le_of_succ_le_succ hn
      · rw [uC_s, List.length_append]
        show _ + 1 + n ≤ 449
        omega
      · rw [show shN (n + 1) e v = (match uC v (2 + e) with | [] => v | r :: W => shN n e (upC (upC v (2 + e) W) 1 (uC v 1 ++ [r]))) from rfl, hW]
        exact q1
theorem k_put {gc : Nat → Nat} {d : Nat} {h : AH} {A : Nat → Nat} {I : Nat → Int32} {v : Mu} {F : Nat} {e a : Nat} {m : Msg} (hR : RC gc h A I v (F + 1)) (he : e < 6) {l : Nat} (hlim : I (201 + 10 * e) = nI l) (hl1 : l ≤ 12) (hw : (uC v (2 + e)).length ≤ 60) (hl : (uC v 1).length + (uC v (2 + e)).length ≤ 440) (hm : MsgAt h a m) : WP gc (d + 7) 49 [.ref (A 0), .int (nI e), .ref a] h (fun r h' => r = none ∧ RC gc h' A (opPut (I, v) e m).1 (opPut (I, v) e m).2 F ∧ KC h h' ∧ KM h h') := by
  obtain ⟨xs, hX⟩ := hR
  have hF := hX.rf
  obtain ⟨t, vs, g1, g2, g3, g4⟩ := hF.quA he
  have hk := isC_q he
  refine M49 ⟨_, _, hF.2.1, rfl, t, vs, _, g1, g2, g3, g4, _, _, hF.2.1, rfl, _, hF.2.1, Nat.le_of_ble_eq_true rfl, trivial, ?_⟩
  rintro h1 rfl
  have hF1 := hF.set0 (I' := upd I 0 (I 0 + 1)) (fun j hj => pk_un (by omega))
  rw [show upd I 0 (I 0 + 1) 0 = I 0 + 1 from pk_us, show upd I 0 (I 0 + 1) 1 = I 1 from pk_un (by decide), show upd I 0 (I 0 + 1) 2 = I 2 from pk_un (by decide)] at hF1
  have hX1 := hX.wr hF.2.1 (by omega) hF1
  have kc1 := KC.set (e := (9, [.ref (A 1), .ref (A 2), .ref (A 3), .ref (A 40), .ref (A 41), .int (I 0 + 1), .int (I 1), .int (I 2)])) hF.2.1 (by decide)
  have ko1 := KO.set (e := (9, [.ref (A 1), .ref (A 2), .ref (A 3), .ref (A 40), .ref (A 41), .int (I 0 + 1), .int (I 1), .int (I 2)])) hF.2.1 (by decide)
  have hm1 := hm.ko ko1
  generalize hh1 : ah_set h (A 0) (9, [.ref (A 1), .ref (A 2), .ref (A 3), .ref (A 40), .ref (A 41), .int (I 0 + 1), .int (I 1), .int (I 2)]) = h1 at hX1 kc1 ko1 hm1
  rw [show ah_set h (A 0) (9, List.set [.ref (A 1), .ref (A 2), .ref (A 3), .ref (A 40), .ref (A 41), .int (I 0), .int (I 1), .int (I 2)] 5 (.int (I 0 + 1))) = h1 from hh1]
  obtain ⟨n1, n2, n3, n4, n5⟩ := hX1.new (t := 4) (vs := [.ref a, .int (nI e), .int (I 0 + 1), .int 0, .int 0, .int (-1)]) (Nat.le_of_ble_eq_true rfl)
  refine ⟨n2, Nat.le_trans (by decide) n3, ?_⟩
  rintro _ _ rfl rfl
  have hb1 := hX1.rf.2.1
  rw [show upd I 0 (I 0 + 1) 0 = I 0 + 1 from pk_us] at hb1
  refine ⟨_, _, at_old hX1.1.2.1 hb1 (by decide), rfl, _, k_newC, ?_⟩
  rintro r h2 ⟨rfl, rfl⟩
  have hcp : CpAt (2 + e) (ah_new h1 (4, [.ref a, .int (nI e), .int (I 0 + 1), .int 0, .int 0, .int (-1)])) h1.1 (mkR m e (I 0 + 1)) := ⟨a, -1, at_new, fun z => by omega, hm1.ko n5⟩
  refine ⟨rfl, ⟨_, n1.rf.quO he⟩, _, k_insQ n1 he (by omega) hcp hX1.freeN, ?_⟩
  rintro r h3 ⟨rfl, q1, q2⟩
  have hlen : (uC (upC v (2 + e) (insR (uC v (2 + e)) (mkR m e (I 0 + 1)))) (2 + e)).length = (uC v (2 + e)).length + 1 := by rw [uC_s, insR_len]
  have el : upd I 0 (I 0 + 1) (201 + 10 * e) = nI l := by rw [pk_un (by omega), hlim]
  refine ⟨rfl, _, _, q1.rf.quO he, rfl, q1.lst (lt_C hk), _, rx_sizeC q1 hk rfl, ?_⟩
  rintro r h4 ⟨rfl, rfl⟩
  refine ⟨_, rfl, _, _, q1.rf.quO he, rfl, ?_⟩
  have hlm : lim I e = l := by
    unfold lim
    rw [hlim, nI_clamp (by omega)]
  have hop : opPut (I, v) e m = (upd I 0 (I 0 + 1), shN ((uC v (2 + e)).length + 1 - l) e (upC v (2 + e) (insR (uC v (2 + e)) (mkR m e (I 0 + 1))))) := by
    unfold opPut putI
    dsimp only
    rw [hlm]
  rw [hop, el, hlen]
  by_cases hc : l ≤ (uC v (2 + e)).length + 1
  · rw [pk_sub hc]
    refine put_loop he _ h4 _ ⟨_, q1⟩ (by rw [hlen]; omega) (by rw [uC_n (by omega)]; omega) (fun h' w1 w2 => ⟨rfl, w1, ((kc1.trans n4).trans q2.kc).trans w2.kc, ((ko1.km.trans n5.km).trans q2.km).trans w2.km⟩)
  · rw [show (uC v (2 + e)).length + 1 - l = 0 by omega]
    refine B49_48 ⟨fun _ => B49_78 ⟨rfl, ⟨_, q1⟩, ((kc1.trans n4).trans q2.kc), ((ko1.km.trans n5.km).trans q2.km)⟩, fun z => absurd (sub_le0 (by omega) (by omega)) z⟩
/-! route -/
theorem rt_loop {gc : Nat → Nat} {d : Nat} {A : Nat → Nat} {q : PT} {e a : Nat} {m : Msg} (he : e < 5) : ∀ n w (h : AH) (I : Nat → Int32) (v : Mu) (F b : Nat), w + n = 6 → RC gc h A I v (F + n) → (uB v 0).length ≤ 64 → NOK I → LB v b → b + n ≤ 430 → MsgAt h a m → (∀ h', RC gc h' A (rtF e m n w (I, v)).1 (rtF e m n w (I, v)).2 F → KC h h' → KM h h' → q none h') → TT gc (d + 7) 48 q 2 [.ref (A 0), .int (nI e), .ref a, .int (nI w)] [] h := by
  intro n
  induction n with
  | zero =>
    intro w h I v F b hw hR hB hl hb hbn hm hq
    exact B48_2 ⟨fun _ => B48_33 (hq h hR KC.refl (fun _ _ z => z)), fun z => absurd (show (6 : Int32) ≤ nI w from nI_le (a := 6) (by omega) (by omega)) z⟩
  | succ n ih =>
    intro w h I v F b hw hR hB hl hb hbn hm hq
    obtain ⟨xs, hX⟩ := hR
    have hs : rtF e m (n + 1) w (I, v) = rtF e m n (w + 1) (if isCh (I, v) e w (mKey m) then opPut (I, v) w m else (I, v)) := rfl
    refine B48_2 ⟨fun z => absurd z (show ¬ (6 : Int32) ≤ nI w from nI_ge (b := 6) (by omega) (by decide)), fun _ => ⟨_, _, hm, rfl, ⟨_, hX.rf.2.1⟩, _, k_isCh hX he hB, ?_⟩⟩
    rintro r h' ⟨rfl, rfl⟩
    refine ⟨_, rfl, fun z => B48_27 ?_, fun z => ?_⟩
    · rw [show isCh (I, v) e w (mKey m) = false from b2i_z.mp z, if_neg (by decide)] at hs
      rw [nI_1]
      refine ih (w + 1) h' I v F (b + 1) (by omega) (RC.le ⟨xs, hX⟩ (by omega)) hB hl (hb.mono (by omega)) (by omega) hm (fun h2 q1 q2 q3 => hq h2 ?_ q2 q3)
      rw [hs]
      exact q1
    · rw [show isCh (I, v) e w (mKey m) = true from b2i_nz z, if_pos rfl] at hs
      obtain ⟨l, hl3, -, hl4⟩ := hl w (by omega)
      have hw60 := hb.w (q := w) (by omega)
      have hlw := hb.l (q := w) (by omega)
      refine ⟨⟨_, hX.rf.2.1⟩, _, k_put (F := F + n) ⟨xs, hX⟩ (by omega) hl3 hl4 hw60 (by omega) hm, ?_⟩
      rintro r h2 ⟨rfl, q1, q2, q3⟩
      refine ⟨rfl, B48_27 ?_⟩
      rw [nI_1]
      have hsm := Sm.put (s := (I, v)) (q := w) (m := m) (by omega)
      have hB2 : uB (opPut (I, v) w m).2 0 = uB v 0 := congrFun hsm.2.1 0
      refine ih (w + 1) h2 _ _ F (b + 1) (by omega) q1 (by rw [hB2]; exact hB) (hsm.nok hl) (hb.put (s := (I, v)) (by omega) (hl.lm (by omega))) (by omega) (q3 _ _ hm) (fun h3 w1 w2 w3 => hq h3 ?_ (q2.trans w2) (q3.trans w3))
      rw [hs]
      exact w1
theorem k_route {gc : Nat → Nat} {d : Nat} {h : AH} {A : Nat → Nat} {I : Nat → Int32} {v : Mu} {F : Nat} {e a b : Nat} {m : Msg} (hR : RC gc h A I v (F + 6)) (he : e < 5) (hB : (uB v 0).length ≤ 64) (hn : NOK I) (hb : LB v b) (hb2 : b ≤ 424) (hm : MsgAt h a m) : WP gc (d + 8) 48 [.ref (A 0), .int (nI e), .ref a] h (fun r h' => r = none ∧ RC gc h' A (opRt (I, v) e m).1 (opRt (I, v) e m).2 F ∧ KC h h' ∧ KM h h') :=
  M48 (rt_loop he 6 0 h I v F b rfl hR hB hn hb (by omega) hm (fun h' q1 q2 q3 => ⟨rfl, q1, q2, q3⟩))
