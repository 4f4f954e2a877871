/-! publish -/
def pubM (x3 x4 x5 : Int32) : Msg := (x4, x3, 0, decide (¬ x5 &&& 1 = 0))
def opPb (s : St) (x1 x2 x3 x4 x5 : Int32) : Int32 × St :=
  if wi x1 0 3 && (isEx s.1 x2 && (isKeyB x3 && wi x5 0 3)) then
    (if s.1 (301 + 10 * x1.toNatClampNeg) = 0 then
      (if ccF s x2.toNatClampNeg x3 6 0 = 0 ∧ ¬ x5 &&& 2 = 0 then (-4, s) else (nI (ccF s x2.toNatClampNeg x3 6 0), opRl (opRt s x2.toNatClampNeg (pubM x3 x4 x5))))
    else if (uD s.2 (18 + x1.toNatClampNeg)).length < 4 then (100, (s.1, upD s.2 (18 + x1.toNatClampNeg) (uD s.2 (18 + x1.toNatClampNeg) ++ [(x2, some (pubM x3 x4 x5), 0)]))) else (-2, s))
  else (-1, s)
theorem pub85 {gc : Nat → Nat} {d : Nat} {h : AH} {A : Nat → Nat} {I : Nat → Int32} {v : Mu} {F : Nat} {c e : Nat} {x3 x4 x5 : Int32} {q : PT} (hR : RC gc h A I v (F + 28)) (hc : c < 4) (he : e < 5) (hB : (uB v 0).length ≤ 64) (hn : NOK I) (hcq : CQ v) (hb : LB v 360)
    (hq1 : I (301 + 10 * c) = 0 → ∀ h', RC gc h' A I v F → KC h h' → ccF (I, v) e x3 6 0 = 0 → ¬ x5 &&& 2 = 0 → q (some (.int (-4))) h')
    (hq2 : I (301 + 10 * c) = 0 → ∀ h', RC gc h' A (opRl (opRt (I, v) e (pubM x3 x4 x5))).1 (opRl (opRt (I, v) e (pubM x3 x4 x5))).2 F → KC h h' → ¬ (ccF (I, v) e x3 6 0 = 0 ∧ ¬ x5 &&& 2 = 0) → q (some (.int (nI (ccF (I, v) e x3 6 0)))) h')
    (hd : ¬ I (301 + 10 * c) = 0 → (uD v (18 + c)).length < 4)
    (hq3 : ¬ I (301 + 10 * c) = 0 → ∀ h', RC gc h' A I (upD v (18 + c) (uD v (18 + c) ++ [(nI e, some (pubM x3 x4 x5), 0)])) F → KC h h' → q (some (.int 100)) h') :
    TT gc (d + 9) 39 q 65 [.ref (A 0), .int (nI c), .int (nI e), .int x3, .int x4, .int x5, .ref (A (30 + c)), .retAddr 0, .retAddr 0] [] h := by
  obtain ⟨xs, hX⟩ := hR
  have hX : RX gc h A I xs xs v (F + 27 + 1) := hX
  obtain ⟨n1, n2, n3, n4, n5⟩ := hX.new (t := 7) (vs := [.int x4, .int x3, .int 0, .int (b2i (decide (¬ x5 &&& 1 = 0)))]) (Nat.le_of_ble_eq_true rfl)
  have main : TT gc (d + 9) 39 q 85 [.ref (A 0), .int (nI c), .int (nI e), .int x3, .int x4, .int x5, .ref (A (30 + c)), .retAddr 0, .retAddr 0] [.int (b2i (decide (¬ x5 &&& 1 = 0))), .int 0, .int x3, .int x4, .ref h.1, .ref h.1] (ah_new h (7, dfl 7)) := by
    refine B39_85 ⟨_, k_newM (b2i_01 _), ?_⟩
    rintro r h3 ⟨rfl, hh3⟩
    rw [← hh3] at n1 n4 n5
    have hms : MsgAt h3 h.1 (pubM x3 x4 x5) := by
      rw [hh3]
      exact at_new
    have hF := n1.rf
    refine ⟨rfl, _, _, hF.chO hc, rfl, fun z => B39_121 ⟨⟨_, hF.2.1⟩, _, k_cc n1 he hB, ?_⟩, fun z => ?_⟩
    · rintro r h4 ⟨rfl, rfl⟩
      have hcc := cc_le (s := (I, v)) (e := e) (key := x3) 6 0
      have go : ¬ (ccF (I, v) e x3 6 0 = 0 ∧ ¬ x5 &&& 2 = 0) → TT gc (d + 9) 39 q 144 [.ref (A 0), .int (nI c), .int (nI e), .int x3, .int x4, .int x5, .ref (A (30 + c)), .ref h.1, .int (nI (ccF (I, v) e x3 6 0))] [] h4 := fun hz => by
        refine B39_144 ⟨⟨_, hF.2.1⟩, _, k_route (F := F + 21) (b := 360) ⟨xs, n1⟩ he hB hn hb (by omega) hms, ?_⟩
        rintro r h5 ⟨rfl, y1, y2, y3⟩
        have hsm := Sm.rt (e := e) (m := pubM x3 x4 x5) 6 0 (I, v) (by omega)
        have hB2 : uB (opRt (I, v) e (pubM x3 x4 x5)).2 0 = uB v 0 := congrFun hsm.2.1 0
        have hlb := LB.rt (e := e) (m := pubM x3 x4 x5) 6 0 (I, v) 360 (by omega) hn hb
        refine ⟨rfl, ⟨_, y1.rf.2.1⟩, _, k_rl (b := 366) y1 (by rw [hB2]; exact hB) (hsm.nok hn) (CQ.rt 6 0 _ (by omega) hcq) hlb (by omega), ?_⟩
        rintro r h6 ⟨rfl, y4, y5⟩
        exact ⟨rfl, hq2 z h6 y4 ((n4.trans y2).trans y5) hz⟩
      refine ⟨_, rfl, fun z2 => go (fun w => z2 (by rw [w.1]; rfl)), fun z2 => ⟨fun z3 => go (fun w => w.2 z3), fun z3 => ?_⟩⟩
      have hz0 := (nI_z (by omega)).mp z2
      exact hq1 z h4 (RC.le ⟨_, n1⟩ (by omega)) n4 hz0 z3
    · have n1 : RX gc h3 A I xs xs v (F + 26 + 1) := n1
      obtain ⟨o1, o2, o3, o4, o5⟩ := n1.new (t := 5) (vs := [.int (nI e), .ref h.1, .int 0]) (Nat.le_of_ble_eq_true rfl)
      refine ⟨_, _, hF.chO hc, rfl, o2, Nat.le_trans (by decide) o3, ?_⟩
      rintro _ _ rfl rfl
      refine ⟨_, k_newD, ?_⟩
      rintro r h5 ⟨rfl, hh5⟩
      rw [← hh5] at o1 o4 o5
      have hdd : DdAt h5 h3.1 (nI e, some (pubM x3 x4 x5), 0) := ⟨h.1, by rw [hh5]; exact at_new, hms.ko o5⟩
      have hdl := hd z
      refine ⟨rfl, o1.lst (lt_D (isD_c hc)), _, rx_addD o1 (isD_c hc) rfl (by rw [if_neg (by omega)]; omega) hdd (fun w => absurd w (by unfold isC; omega)), ?_⟩
      rintro r h6 ⟨rfl, y1, y2⟩
      exact ⟨_, rfl, hq3 z h6 (RC.le ⟨_, y1⟩ (by omega)) ((n4.trans o4).trans y2.kc)⟩
  refine B39_65 ⟨n2, Nat.le_trans (by decide) n3, ?_⟩
  rintro _ _ rfl rfl
  refine ⟨fun z => B39_84 ?_, fun z => ?_⟩
  · rw [decide_eq_false (fun w => w z)] at main
    exact main
  · rw [decide_eq_true z] at main
    exact main
theorem k_publish {gc : Nat → Nat} {d : Nat} {h : AH} {A : Nat → Nat} {I : Nat → Int32} {v : Mu} {F : Nat} {x1 x2 x3 x4 x5 : Int32} (hR : RC gc h A I v (F + 28)) (hB : (uB v 0).length ≤ 64) (hn : NOK I) (hcq : CQ v) (hb : LB v 360) (hD : ∀ c, c < 4 → (uD v (18 + c)).length ≤ 4) : WP gc (d + 10) 39 [.ref (A 0), .int x1, .int x2, .int x3, .int x4, .int x5] h (fun r h' => r = some (.int (opPb (I, v) x1 x2 x3 x4 x5).1) ∧ RC gc h' A (opPb (I, v) x1 x2 x3 x4 x5).2.1 (opPb (I, v) x1 x2 x3 x4 x5).2.2 F ∧ KC h h') := by
  have hF := hR.rf
  have bad : (wi x1 0 3 && (isEx I x2 && (isKeyB x3 && wi x5 0 3))) = false → (some (Value.int (-1)) = some (Value.int (opPb (I, v) x1 x2 x3 x4 x5).1) ∧ RC gc h A (opPb (I, v) x1 x2 x3 x4 x5).2.1 (opPb (I, v) x1 x2 x3 x4 x5).2.2 F ∧ KC h h) := fun hb => by
    unfold opPb
    rw [hb, if_neg (by decide)]
    exact ⟨rfl, hR.le (by omega), KC.refl⟩
  refine M39 ⟨_, k_isChannel, ?_⟩
  rintro r h' ⟨rfl, rfl⟩
  refine ⟨_, rfl, fun z => B39_32 (bad ?_), fun z1 => ⟨⟨_, hF.2.1⟩, _, k_isE hF, ?_⟩⟩
  · rw [show wi x1 0 3 = false from b2i_z.mp z, Bool.false_and]
  rintro r h' ⟨rfl, rfl⟩
  refine ⟨_, rfl, fun z => B39_32 (bad ?_), fun z2 => ⟨_, k_isKey, ?_⟩⟩
  · rw [b2i_z.mp z, Bool.false_and, Bool.and_false]
  rintro r h' ⟨rfl, rfl⟩
  refine ⟨_, rfl, fun z => B39_32 (bad ?_), fun z3 => ⟨_, k_isWithin, ?_⟩⟩
  · rw [b2i_z.mp z, Bool.false_and, Bool.and_false, Bool.and_false]
  rintro r h' ⟨rfl, rfl⟩
  refine ⟨_, rfl, fun z4 => B39_34 ?_, fun z => B39_32 (bad ?_)⟩
  rotate_left
  · rw [show wi x5 0 3 = false from b2i_z.mp z, Bool.and_false, Bool.and_false, Bool.and_false]
  have z1 : wi x1 0 3 = true := b2i_nz z1
  have z4 : wi x5 0 3 = true := b2i_nz z4
  have z2 := b2i_nz z2
  have z3 := b2i_nz z3
  obtain ⟨c, hc, rfl⟩ := wi_rng (n := 3) (by decide) z1
  obtain ⟨e, he, rfl⟩ := isEx_rng z2
  have ho : opPb (I, v) (nI c) (nI e) x3 x4 x5 = (if I (301 + 10 * c) = 0 then
      (if ccF (I, v) e x3 6 0 = 0 ∧ ¬ x5 &&& 2 = 0 then (-4, (I, v)) else (nI (ccF (I, v) e x3 6 0), opRl (opRt (I, v) e (pubM x3 x4 x5))))
    else if (uD v (18 + c)).length < 4 then (100, (I, upD v (18 + c) (uD v (18 + c) ++ [(nI e, some (pubM x3 x4 x5), 0)]))) else (-2, (I, v))) := by
    unfold opPb
    rw [z1, z2, z3, z4, nI_clamp (by omega), nI_clamp (by omega)]
    rfl
  have hF := hR.rf
  obtain ⟨t, vs, g1, g2, g3, g4⟩ := hF.chA hc
  have hdc := hD c hc
  refine ⟨_, _, hF.2.1, rfl, t, vs, _, g1, g2, g3, g4, _, _, hF.chO hc, rfl, fun z => ?_, fun z => ?_⟩
  · rw [if_pos z] at ho
    rw [ho]
    refine pub85 hR hc he hB hn hcq hb (fun _ h2 q1 q2 q3 q4 => ?_) (fun _ h2 q1 q2 q3 => ?_) (fun w => absurd z w) (fun w => absurd z w)
    · rw [if_pos ⟨q3, q4⟩]
      exact ⟨rfl, q1, q2⟩
    · rw [if_neg q3]
      exact ⟨rfl, q1, q2⟩
  · rw [if_neg z] at ho
    rw [ho]
    obtain ⟨xs, hX⟩ := hR
    refine ⟨_, _, hF.chO hc, rfl, hX.lst (lt_D (isD_c hc)), _, rx_sizeD hX (isD_c hc) rfl, ?_⟩
    rintro r h2 ⟨rfl, rfl⟩
    refine ⟨_, rfl, pk_lt (uD v (18 + c)).length 4 (fun hl => ?_) (fun hl => ?_)⟩
    · rw [if_pos hl]
      exact pub85 ⟨xs, hX⟩ hc he hB hn hcq hb (fun w => absurd w z) (fun w => absurd w z) (fun _ => hl) (fun _ h2 q1 q2 => ⟨rfl, q1, q2⟩)
    · rw [if_neg (by omega)]
      exact ⟨rfl, RC.le ⟨xs, hX⟩ (by omega), KC.refl⟩
