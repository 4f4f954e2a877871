/-! letters, publish -/
theorem k_hop {gc : Nat → Nat} {d : Nat} {h : AH} {A : Nat → Nat} {I : Nat → Int32} {xs ys : Nat → List Nat} {v : Mu} {F : Nat} {a : Nat} {m : Msg} (hR : RX gc h A I xs ys v (F + 1)) (hm : MsgAt h a m) : WP gc (d + 2) 56 [.ref a] h (fun r h' => ∃ b, r = some (.ref b) ∧ RX gc h' A I xs ys v F ∧ MsgAt h' b (hopM m) ∧ KC h h' ∧ KO h h') := by
  obtain ⟨n1, n2, n3, n4, n5⟩ := hR.new (t := 7) (vs := [.int m.1, .int m.2.1, .int (m.2.2.1 + 1), .int (b2i m.2.2.2)]) (Nat.le_of_ble_eq_true rfl)
  refine M56 ⟨n2, Nat.le_trans (by decide) n3, ?_⟩
  rintro _ _ rfl rfl
  have hm2 : at_ (ah_new h (7, dfl 7)) a 7 [.int m.1, .int m.2.1, .int m.2.2.1, .int (b2i m.2.2.2)] := at_old hR.1.2.1 hm (by decide)
  refine ⟨_, _, hm2, rfl, _, _, hm2, rfl, _, _, hm2, rfl, _, _, hm2, rfl, _, k_newM (b2i_01 _), ?_⟩
  rintro r h' ⟨rfl, rfl⟩
  exact ⟨rfl, _, rfl, n1, at_new, n4, n5⟩
theorem k_goOn {gc : Nat → Nat} {d : Nat} {h : AH} {A : Nat → Nat} {I : Nat → Int32} {xs ys : Nat → List Nat} {v : Mu} {F : Nat} {a k : Nat} {r : Rec} (hR : RX gc h A I xs ys v F) (ha : CpAt k h a r) (hq6 : ∃ q, q < 6 ∧ rQ r = nI q) : WP gc (d + 3) 55 [.ref (A 0), .ref a] h (fun r' h' => r' = some (.int (b2i (goOn I r))) ∧ h' = h) := by
  obtain ⟨q, hq6, hrq⟩ := hq6
  obtain ⟨m, D, w1, w2, w3⟩ := ha
  have hF := hR.rf
  rw [hrq] at w1
  obtain ⟨t, vs, g1, g2, g3, g4⟩ := hF.quA hq6
  have hd : dead I r = I (202 + 10 * q) := by
    unfold dead
    rw [hrq, nI_clamp (by omega)]
  unfold goOn
  rw [hd]
  refine M55 ⟨_, _, hF.2.1, rfl, _, _, w1, rfl, t, vs, _, g1, g2, g3, g4, _, _, hF.quO hq6, rfl, ⟨_, hF.2.1⟩, _, k_isE hF, ?_⟩
  rintro r' h' ⟨rfl, rfl⟩
  refine ⟨_, rfl, fun z => B55_34 (B55_35 ⟨Or.inl rfl, ?_, rfl⟩), fun z => ⟨_, _, w1, rfl, _, _, w3, rfl, fun z2 => B55_34 (B55_35 ⟨Or.inl rfl, ?_, rfl⟩), fun z2 => B55_35 ⟨Or.inr rfl, ?_, rfl⟩⟩⟩
  · rw [b2i_z.mp z]; rfl
  · rw [decide_eq_false (fun w => w z2), Bool.and_false]; rfl
  · rw [b2i_nz z, show decide (¬ 3 ≤ mHops (rM r)) = true from decide_eq_true z2]; rfl
theorem goOn_ex {I : Nat → Int32} {r : Rec} (h : goOn I r = true) : ∃ e, e < 5 ∧ dead I r = nI e := isEx_rng (Bool.and_eq_true _ _ ▸ h).1
theorem rt_L {e : Nat} {m : Msg} : ∀ n q (s : St), q + n ≤ 6 → (uC s.2 1).length ≤ (uC (rtF e m n q s).2 1).length := by
  intro n
  induction n with
  | zero => intro q s _; exact Nat.le_refl _
  | succ n ih =>
    intro q s hq6
    show _ ≤ (uC (rtF e m n (q + 1) (if isCh s e q (mKey m) then opPut s q m else s)).2 1).length
    refine Nat.le_trans ?_ (ih (q + 1) _ (by omega))
    split
    · unfold opPut
      dsimp only
      have hp : uC (putI s.2 q (mkR m q (s.1 0 + 1))) (2 + q) = insR (uC s.2 (2 + q)) (mkR m q (s.1 0 + 1)) := uC_s
      have hp1 : uC (putI s.2 q (mkR m q (s.1 0 + 1))) 1 = uC s.2 1 := uC_n (by omega)
      rw [shN_eq _ _ (by rw [hp, insR_len]; omega), uC_s, hp1, List.length_append]
      omega
    · exact Nat.le_refl _
theorem rl_loop {gc : Nat → Nat} {d : Nat} {A : Nat → Nat} {q : PT} : ∀ n i k v3 (h : AH) (I : Nat → Int32) (v : Mu) (F b : Nat), i + n = 450 → i ≤ (uC v 1).length → k ≤ 3 → RC gc h A I v (F + 7 * (3 - k)) → (uB v 0).length ≤ 64 → NOK I → CQ v → LB v b → b + 6 * (3 - k) ≤ 424 → (∀ h' (x2 : Int32) v3, RC gc h' A (rlF n i k (I, v)).2.1 (rlF n i k (I, v)).2.2 F → KC h h' → TT gc (d + 8) 54 q 92 [.ref (A 0), .int (nI (rlF n i k (I, v)).1), .int x2, v3] [] h') → TT gc (d + 8) 54 q 4 [.ref (A 0), .int (nI k), .int (nI i), v3] [] h := by
  intro n
  induction n with
  | zero =>
    intro i k v3 h I v F b hi hil _ _ _ _ _ hb hb2 _
    have := hb.2.2
    omega
  | succ n ih =>
    intro i k v3 h I v F b hi hil hk hR hB hn hcq hb hb2 hq
    obtain ⟨xs, hX⟩ := hR
    have hF := hX.rf
    have hL : (uC v 1).length ≤ 424 := by have := hb.2.2; omega
    have hs : rlF (n + 1) i k (I, v) = (match (uC v 1)[i]? with
      | none => (k, (I, v))
      | some r => if decide (k < 3) && goOn I r then rlF n (i + 1) (k + 1) (opRt (I, v) (dead I r).toNatClampNeg (hopM (rM r))) else rlF n (i + 1) k (upd I 2 (I 2 + 1), v)) := rfl
    refine B54_4 ⟨_, _, hF.2.1, rfl, hX.lst (k := 1) (by decide), _, rx_sizeC hX isC_1 rfl, ?_⟩
    rintro r h' ⟨rfl, rfl⟩
    by_cases hil2 : i < (uC v 1).length
    · rw [List.getElem?_eq_getElem hil2] at hs
      refine ⟨_, rfl, fun z => absurd z (nI_ge hil2 (by omega)), fun _ => ⟨fun z => absurd z (show ¬ nI 1000000 ≤ nI i from nI_ge (by omega) (by decide)), fun _ => ⟨_, _, hF.2.1, rfl, hX.lst (k := 1) (by decide), _, rx_getC hX isC_1 rfl hil2, ?_⟩⟩⟩
      rintro r h2 ⟨a, rfl, rfl, -, ha⟩
      have hmem := hcq.1 1 isC_1 _ (List.getElem_mem hil2)
      generalize (uC v 1)[i] = r at ha hs hmem
      dsimp only at hs
      obtain ⟨ws, hw⟩ := ha.tag
      have lost : (decide (k < 3) && goOn I r) = false → TT gc (d + 8) 54 q 76 [.ref (A 0), .int (nI k), .int (nI i), .ref a] [] h2 := fun hz => by
        rw [hz] at hs
        have hs : rlF (n + 1) i k (I, v) = rlF n (i + 1) k (upd I 2 (I 2 + 1), v) := hs
        refine B54_76 ⟨_, _, hF.2.1, rfl, _, hF.2.1, Nat.le_of_ble_eq_true rfl, trivial, ?_⟩
        rintro h4 rfl
        have hF1 := hF.set0 (I' := upd I 2 (I 2 + 1)) (fun j hj => pk_un (by omega))
        rw [show upd I 2 (I 2 + 1) 2 = I 2 + 1 from pk_us, show upd I 2 (I 2 + 1) 1 = I 1 from pk_un (by decide), show upd I 2 (I 2 + 1) 0 = I 0 from pk_un (by decide)] at hF1
        have hX1 := hX.wr hF.2.1 (by omega) hF1
        refine B54_86 ?_
        rw [nI_1]
        refine ih (i + 1) k _ _ _ v F b (by omega) (by omega) hk ⟨xs, hX1⟩ hB (fun q hq6 => ?_) hcq hb hb2 (fun h' x2 v3 q1 q2 => ?_)
        · rw [pk_un (by omega)]
          exact hn q hq6
        · have := hq h' x2 v3 (by rw [hs]; exact q1) ((KC.set hF.2.1 (by decide)).trans q2)
          rw [hs] at this
          exact this
      refine ⟨_, rfl, _, hw, fun z => lost ?_, fun z => ⟨⟨_, hF.2.1⟩, _, k_goOn hX ha hmem, ?_⟩⟩
      · have : ¬ k < 3 := fun w => absurd z (show ¬ (3 : Int32) ≤ nI k from nI_ge (b := 3) w (by decide))
        rw [decide_eq_false this, Bool.false_and]
      · have hk3 : k < 3 := by
          apply Nat.lt_of_not_le
          intro w
          exact z (show (3 : Int32) ≤ nI k from nI_le (a := 3) w (by omega))
        rintro r' h3 ⟨rfl, rfl⟩
        refine ⟨_, rfl, fun z2 => lost ?_, fun z2 => ?_⟩
        · rw [b2i_z.mp z2, Bool.and_false]
        · have hg := b2i_nz z2
          rw [hg, decide_eq_true hk3] at hs
          have hs : rlF (n + 1) i k (I, v) = rlF n (i + 1) (k + 1) (opRt (I, v) (dead I r).toNatClampNeg (hopM (rM r))) := hs
          obtain ⟨e, he, hde⟩ := goOn_ex hg
          rw [hde, nI_clamp (by omega)] at hs
          obtain ⟨w, hw6, hrq⟩ := hmem
          obtain ⟨m, D, w1, w2, w3⟩ := ha
          rw [hrq] at w1
          obtain ⟨t, vs, g1, g2, g3, g4⟩ := hF.quA hw6
          have hd : I (202 + 10 * w) = nI e := by
            rw [← hde]
            unfold dead
            rw [hrq, nI_clamp (by omega)]
          have hquo := hF.quO hw6
          rw [hd] at hquo
          have hX' : RX gc h3 A I xs xs v (F + 7 * (3 - (k + 1)) + 6 + 1) := by
            rw [show F + 7 * (3 - (k + 1)) + 6 + 1 = F + 7 * (3 - k) by omega]
            exact hX
          refine ⟨_, _, hF.2.1, rfl, _, _, w1, rfl, t, vs, _, g1, g2, g3, g4, _, _, hquo, rfl, _, _, w1, rfl, ⟨_, w3⟩, _, k_hop hX' w3, ?_⟩
          rintro r' h4 ⟨b4, rfl, y1, y2, y3, y4⟩
          refine ⟨_, rfl, ⟨_, y1.rf.2.1⟩, _, k_route (b := b) ⟨_, y1⟩ he hB hn hb (by omega) y2, ?_⟩
          rintro r' h5 ⟨rfl, y5, y6, y7⟩
          refine ⟨rfl, B54_86 ?_⟩
          rw [nI_1, nI_1]
          have hsm := Sm.rt (e := e) (m := hopM (rM r)) 6 0 (I, v) (by omega)
          have hB2 : uB (opRt (I, v) e (hopM (rM r))).2 0 = uB v 0 := congrFun hsm.2.1 0
          have hlb := LB.rt (e := e) (m := hopM (rM r)) 6 0 (I, v) b (by omega) hn hb
          refine ih (i + 1) (k + 1) _ _ _ _ F (b + 6) (by omega) ?_ (by omega) y5 (by rw [hB2]; exact hB) (hsm.nok hn) (CQ.rt 6 0 _ (by omega) hcq) hlb (by omega) (fun h' x2 v3 q1 q2 => ?_)
          · exact Nat.le_trans hil2 (rt_L 6 0 (I, v) (by omega))
          · have := hq h' x2 v3 (by rw [hs]; exact q1) ((y3.trans y6).trans q2)
            rw [hs] at this
            exact this
    · rw [List.getElem?_eq_none (by omega)] at hs
      have hs : rlF (n + 1) i k (I, v) = (k, (I, v)) := hs
      refine ⟨_, rfl, fun _ => ?_, fun z => absurd (nI_le (by omega) (by omega)) z⟩
      have := hq h' (nI i) v3 (by rw [hs]; exact RC.le ⟨xs, hX⟩ (by omega)) KC.refl
      rw [hs] at this
      exact this
theorem k_rl {gc : Nat → Nat} {d : Nat} {h : AH} {A : Nat → Nat} {I : Nat → Int32} {v : Mu} {F : Nat} {b : Nat} (hR : RC gc h A I v (F + 21)) (hB : (uB v 0).length ≤ 64) (hn : NOK I) (hcq : CQ v) (hb : LB v b) (hb2 : b ≤ 406) : WP gc (d + 9) 54 [.ref (A 0)] h (fun r h' => r = none ∧ RC gc h' A (opRl (I, v)).1 (opRl (I, v)).2 F ∧ KC h h') := by
  refine M54 (rl_loop 450 0 0 _ h I v F b rfl (Nat.zero_le _) (by decide) hR hB hn hcq hb (by omega) (fun h' x2 v3 q1 q2 => ?_))
  have ho : opRl (I, v) = (upd (rlF 450 0 0 (I, v)).2.1 1 ((rlF 450 0 0 (I, v)).2.1 1 + nI (rlF 450 0 0 (I, v)).1), upC (rlF 450 0 0 (I, v)).2.2 1 []) := rfl
  rw [ho]
  generalize rlF 450 0 0 (I, v) = t at q1
  obtain ⟨k, J, u⟩ := t
  obtain ⟨xs, hX⟩ := q1
  have hX : RX gc h' A J xs xs u F := hX
  have hF := hX.rf
  refine B54_92 ⟨_, _, hF.2.1, rfl, _, hF.2.1, Nat.le_of_ble_eq_true rfl, trivial, ?_⟩
  rintro h4 rfl
  have hF1 := hF.set0 (I' := upd J 1 (J 1 + nI k)) (fun j hj => pk_un (by omega))
  rw [show upd J 1 (J 1 + nI k) 1 = J 1 + nI k from pk_us, show upd J 1 (J 1 + nI k) 2 = J 2 from pk_un (by decide), show upd J 1 (J 1 + nI k) 0 = J 0 from pk_un (by decide)] at hF1
  have hX1 := hX.wr hF.2.1 (by omega) hF1
  refine ⟨_, _, at_s, rfl, hX1.lst (k := 1) (by decide), _, rx_clrC hX1 isC_1, ?_⟩
  rintro r h5 ⟨rfl, y1, y2⟩
  exact ⟨rfl, rfl, ⟨_, y1⟩, (q2.trans (KC.set hF.2.1 (by decide))).trans y2.kc⟩
