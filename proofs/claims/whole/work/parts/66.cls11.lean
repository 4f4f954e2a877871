/-! settle, rollback, commit -/
theorem LB.mapH {v : Mu} {b c : Nat} {f : Rec → Rec} (h : LB v b) (hc : c < 4) (hf : ∀ r, rQ (f r) = rQ r) : LB (upC v (14 + c) ((uC v (14 + c)).map f)) b := by
  have ew : ∀ k, k < 8 → uC (upC v (14 + c) ((uC v (14 + c)).map f)) k = uC v k := fun k hk => uC_n (by omega)
  have e1 : ∀ p, hq (upC v (14 + c) ((uC v (14 + c)).map f)) p = hq v p := fun p => by
    have h1 := sum_up (f := v.2.1) (g := fun l => l.countP (pq p)) (o := 14) (i := c) (n := 4) (l := (uC v (14 + c)).map f) hc
    have h1 : hq (upC v (14 + c) ((uC v (14 + c)).map f)) p + (uC v (14 + c)).countP (pq p) = hq v p + ((uC v (14 + c)).map f).countP (pq p) := h1
    have h2 : ((uC v (14 + c)).map f).countP (pq p) = (uC v (14 + c)).countP (pq p) := by
      rw [List.countP_map]
      congr 1
      funext r
      show pq p (f r) = pq p r
      unfold pq
      rw [hf]
    omega
  have e2 : sh (upC v (14 + c) ((uC v (14 + c)).map f)) = sh v := by
    have h1 := sum_up (f := v.2.1) (g := List.length) (o := 14) (i := c) (n := 4) (l := (uC v (14 + c)).map f) hc
    have h1 : sh (upC v (14 + c) ((uC v (14 + c)).map f)) + (uC v (14 + c)).length = sh v + ((uC v (14 + c)).map f).length := h1
    rw [List.length_map] at h1
    omega
  have e3 : sw (upC v (14 + c) ((uC v (14 + c)).map f)) = sw v := sumTo_cg 6 (fun q hq6 => by rw [ew (2 + q) (by omega)])
  refine ⟨fun i hi => ?_, fun q hq6 => ?_, ?_⟩
  · by_cases hz : 14 + i = 14 + c
    · rw [hz, uC_s, List.length_map]
      exact h.1 c hc
    · rw [uC_n hz]
      exact h.1 i hi
  · rw [ew (2 + q) (by omega), e1]
    exact h.2.1 q hq6
  · rw [ew 1 (by omega), e2, e3]
    exact h.2.2
theorem CQ.mapH {v : Mu} {c : Nat} {f : Rec → Rec} (h : CQ v) (hc : c < 4) (hf : ∀ r, rQ (f r) = rQ r) : CQ (upC v (14 + c) ((uC v (14 + c)).map f)) :=
  h.up (fun x hx => by
    obtain ⟨y, hy, rfl⟩ := List.mem_map.mp hx
    rw [hf]
    exact h.1 (14 + c) (by unfold isC; omega) y hy) (fun p hp e => by omega)
theorem sm_keep {c b : Nat} {P : Rec → Bool} {how : Int32} (hc : c < 4) : ∀ n j (v : Mu), CQ v → LB v b → CQ (smF c P how n j v) ∧ LB (smF c P how n j v) b ∧ Sv v (smF c P how n j v) := by
  intro n
  induction n with
  | zero => intro j v h1 h2; exact ⟨h1, h2, Sv.refl v⟩
  | succ n ih =>
    intro j v h1 h2
    unfold smF
    split
    · exact ⟨h1, h2, Sv.refl v⟩
    · rename_i r hr
      split
      · obtain ⟨g1, g2, g3⟩ := ih j _ (h1.stlk (how := how) hc hr) (h2.stlk h1 hc hr)
        exact ⟨g1, g2, (Sv.up.trans Sv.stlk).trans g3⟩
      · exact ih (j + 1) v h1 h2
def stC (x1 tg : Int32) (wh : Bool) (how : Int32) : Bool := wi x1 0 3 && (decide (¬ tg < 0) && ((decide (¬ tg = 0) || wh) && wi how 0 2))
def opSt (s : St) (x1 tg : Int32) (wh : Bool) (how : Int32) : Int32 × St :=
  if stC x1 tg wh how then
    (fun c : Nat => if (uC s.2 (14 + c)).countP (meant tg wh) = 0 then (-1, s)
      else if s.1 (301 + 10 * c) = 0 then (nI ((uC s.2 (14 + c)).countP (meant tg wh)), opRl (s.1, smF c (isDd (nI (uD s.2 (18 + c)).length)) how (uC s.2 (14 + c)).length 0 (upC s.2 (14 + c) ((uC s.2 (14 + c)).map (mrk tg wh (nI (uD s.2 (18 + c)).length))))))
      else if (uD s.2 (18 + c)).length < 4 then (100, (s.1, upD (upC s.2 (14 + c) ((uC s.2 (14 + c)).map (mrk tg wh (nI (uD s.2 (18 + c)).length)))) (18 + c) (uD s.2 (18 + c) ++ [(-1, none, how)])))
      else (-2, s)) x1.toNatClampNeg
  else (-1, s)
theorem mrk_Q {tg : Int32} {wh : Bool} {D : Int32} (r : Rec) : rQ (mrk tg wh D r) = rQ r := by
  unfold mrk
  split <;> rfl
theorem k_settle {gc : Nat → Nat} {d : Nat} {h : AH} {A : Nat → Nat} {I : Nat → Int32} {v : Mu} {F : Nat} {x1 tg how : Int32} {wh : Bool} (hR : RC gc h A I v (F + 21)) (hB : (uB v 0).length ≤ 64) (hn : NOK I) (hcq : CQ v) (hb : LB v 360) (hD : ∀ c, c < 4 → (uD v (18 + c)).length ≤ 4) : WP gc (d + 10) 66 [.ref (A 0), .int x1, .int tg, .int (b2i wh), .int how] h (fun r h' => r = some (.int (opSt (I, v) x1 tg wh how).1) ∧ RC gc h' A (opSt (I, v) x1 tg wh how).2.1 (opSt (I, v) x1 tg wh how).2.2 F ∧ KC h h') := by
  have hF := hR.rf
  have bad : stC x1 tg wh how = false → (some (Value.int (-1)) = some (Value.int (opSt (I, v) x1 tg wh how).1) ∧ RC gc h A (opSt (I, v) x1 tg wh how).2.1 (opSt (I, v) x1 tg wh how).2.2 F ∧ KC h h) := fun hb => by
    unfold opSt
    rw [hb, if_neg (by decide)]
    exact ⟨rfl, hR.le (by omega), KC.refl⟩
  have b29 : stC x1 tg wh how = false → TT gc (d + 9) 66 (fun r h' => r = some (.int (opSt (I, v) x1 tg wh how).1) ∧ RC gc h' A (opSt (I, v) x1 tg wh how).2.1 (opSt (I, v) x1 tg wh how).2.2 F ∧ KC h h') 29 [.ref (A 0), .int x1, .int tg, .int (b2i wh), .int how, .retAddr 0, .retAddr 0, .retAddr 0] [] h := fun z => B66_29 (bad z)
  have b19 : wi x1 0 3 = true → ¬ tg < 0 → (decide (¬ tg = 0) || wh) = true → TT gc (d + 9) 66 (fun r h' => r = some (.int (opSt (I, v) x1 tg wh how).1) ∧ RC gc h' A (opSt (I, v) x1 tg wh how).2.1 (opSt (I, v) x1 tg wh how).2.2 F ∧ KC h h') 19 [.ref (A 0), .int x1, .int tg, .int (b2i wh), .int how, .retAddr 0, .retAddr 0, .retAddr 0] [] h := fun z1 z2 z3 => by
    refine B66_19 ⟨_, k_isWithin, ?_⟩
    rintro r h' ⟨rfl, rfl⟩
    refine ⟨_, rfl, fun z4 => B66_31 ?_, fun z => b29 ?_⟩
    rotate_left
    · unfold stC
      rw [show wi how 0 2 = false from b2i_z.mp z, Bool.and_false, Bool.and_false, Bool.and_false]
    have z4 : wi how 0 2 = true := b2i_nz z4
    have hst : stC x1 tg wh how = true := by
      unfold stC
      rw [z1, z3, z4, decide_eq_true z2]
      rfl
    obtain ⟨c, hc, rfl⟩ := wi_rng (n := 3) (by decide) z1
    obtain ⟨xs, hX⟩ := hR
    have hk := isC_c hc
    have hH := hb.1 c hc
    have hdc := hD c hc
    have ho : opSt (I, v) (nI c) tg wh how = (if (uC v (14 + c)).countP (meant tg wh) = 0 then (-1, (I, v))
      else if I (301 + 10 * c) = 0 then (nI ((uC v (14 + c)).countP (meant tg wh)), opRl (I, smF c (isDd (nI (uD v (18 + c)).length)) how (uC v (14 + c)).length 0 (upC v (14 + c) ((uC v (14 + c)).map (mrk tg wh (nI (uD v (18 + c)).length))))))
      else if (uD v (18 + c)).length < 4 then (100, (I, upD (upC v (14 + c) ((uC v (14 + c)).map (mrk tg wh (nI (uD v (18 + c)).length)))) (18 + c) (uD v (18 + c) ++ [(-1, none, how)])))
      else (-2, (I, v))) := by
      unfold opSt
      rw [hst, if_pos rfl, nI_clamp (by omega)]
    obtain ⟨t, vs, g1, g2, g3, g4⟩ := hX.rf.chA hc
    have hch := hX.rf.chO hc
    refine ⟨_, _, hX.rf.2.1, rfl, t, vs, _, g1, g2, g3, g4, ⟨_, hch⟩, _, k_cset hX hc (by omega), ?_⟩
    rintro r h2 ⟨rfl, rfl⟩
    have hcn : (uC v (14 + c)).countP (meant tg wh) ≤ (uC v (14 + c)).length := List.countP_le_length
    refine ⟨_, rfl, fun zn => B66_55 ?_, fun zn => ?_⟩
    rotate_left
    · rw [if_pos ((nI_z (by omega)).mp zn)] at ho
      rw [ho]
      exact ⟨rfl, RC.le ⟨xs, hX⟩ (by omega), KC.refl⟩
    rw [if_neg (fun w => zn (by rw [w]; rfl))] at ho
    rw [ho]
    have b78 : (¬ I (301 + 10 * c) = 0 → (uD v (18 + c)).length < 4) → TT gc (d + 9) 66 (fun r h' => r = some (.int (if I (301 + 10 * c) = 0 then (nI ((uC v (14 + c)).countP (meant tg wh)), opRl (I, smF c (isDd (nI (uD v (18 + c)).length)) how (uC v (14 + c)).length 0 (upC v (14 + c) ((uC v (14 + c)).map (mrk tg wh (nI (uD v (18 + c)).length))))))
      else if (uD v (18 + c)).length < 4 then (100, (I, upD (upC v (14 + c) ((uC v (14 + c)).map (mrk tg wh (nI (uD v (18 + c)).length)))) (18 + c) (uD v (18 + c) ++ [(-1, none, how)])))
      else (-2, (I, v)) : Int32 × St).1) ∧ RC gc h' A (if I (301 + 10 * c) = 0 then (nI ((uC v (14 + c)).countP (meant tg wh)), opRl (I, smF c (isDd (nI (uD v (18 + c)).length)) how (uC v (14 + c)).length 0 (upC v (14 + c) ((uC v (14 + c)).map (mrk tg wh (nI (uD v (18 + c)).length))))))
      else if (uD v (18 + c)).length < 4 then (100, (I, upD (upC v (14 + c) ((uC v (14 + c)).map (mrk tg wh (nI (uD v (18 + c)).length)))) (18 + c) (uD v (18 + c) ++ [(-1, none, how)])))
      else (-2, (I, v)) : Int32 × St).2.1 (if I (301 + 10 * c) = 0 then (nI ((uC v (14 + c)).countP (meant tg wh)), opRl (I, smF c (isDd (nI (uD v (18 + c)).length)) how (uC v (14 + c)).length 0 (upC v (14 + c) ((uC v (14 + c)).map (mrk tg wh (nI (uD v (18 + c)).length))))))
      else if (uD v (18 + c)).length < 4 then (100, (I, upD (upC v (14 + c) ((uC v (14 + c)).map (mrk tg wh (nI (uD v (18 + c)).length)))) (18 + c) (uD v (18 + c) ++ [(-1, none, how)])))
      else (-2, (I, v)) : Int32 × St).2.2 F ∧ KC h2 h') 78 [.ref (A 0), .int (nI c), .int tg, .int (b2i wh), .int how, .ref (A (30 + c)), .int (nI ((uC v (14 + c)).countP (meant tg wh))), .retAddr 0] [] h2 := fun hdd => by
      refine B66_78 ⟨_, _, hch, rfl, hX.lst (lt_D (isD_c hc)), _, rx_sizeD hX (isD_c hc) rfl, ?_⟩
      rintro r h3 ⟨rfl, rfl⟩
      refine ⟨_, rfl, ⟨_, hch⟩, _, k_mark ⟨xs, hX⟩ hc (by omega), ?_⟩
      rintro r h4 ⟨rfl, ⟨xs4, y1⟩, y2⟩
      refine ⟨rfl, _, _, y1.rf.chO hc, rfl, fun z => B66_128 ?_, fun z => ?_⟩
      · rw [if_pos z]
        have hl1 := hb.mapH (f := mrk tg wh (nI (uD v (18 + c)).length)) hc mrk_Q
        have hc1 := hcq.mapH (f := mrk tg wh (nI (uD v (18 + c)).length)) hc mrk_Q
        have hlen : (uC (upC v (14 + c) ((uC v (14 + c)).map (mrk tg wh (nI (uD v (18 + c)).length)))) (14 + c)).length = (uC v (14 + c)).length := by rw [uC_s, List.length_map]
        have hks := k_sm (d := d) (c := c) (D := nI (uD v (18 + c)).length) (how := how) ⟨xs4, y1⟩ hc (b := 360) (by omega) hc1 hl1
        rw [hlen] at hks
        obtain ⟨e1, e2, e3⟩ := sm_keep (c := c) (b := 360) (P := isDd (nI (uD v (18 + c)).length)) (how := how) hc (uC v (14 + c)).length 0 _ hc1 hl1
        refine ⟨⟨_, y1.rf.2.1⟩, _, hks, ?_⟩
        rintro r h5 ⟨rfl, y3, y4⟩
        have hB2 : (uB (smF c (isDd (nI (uD v (18 + c)).length)) how (uC v (14 + c)).length 0 (upC v (14 + c) ((uC v (14 + c)).map (mrk tg wh (nI (uD v (18 + c)).length))))) 0).length ≤ 64 := by
          have : uB (smF c (isDd (nI (uD v (18 + c)).length)) how (uC v (14 + c)).length 0 (upC v (14 + c) ((uC v (14 + c)).map (mrk tg wh (nI (uD v (18 + c)).length))))) 0 = uB v 0 := congrFun e3.1 0
          rw [this]
          exact hB
        refine ⟨rfl, ⟨_, y3.rf.2.1⟩, _, k_rl (b := 360) y3 hB2 hn e1 e2 (by omega), ?_⟩
        rintro r h6 ⟨rfl, y5, y6⟩
        exact ⟨rfl, rfl, y5, (y2.trans y4).trans y6⟩
      · rw [if_neg z, if_pos (hdd z)]
        have y1 : RX gc h4 A I xs4 xs4 (upC v (14 + c) ((uC v (14 + c)).map (mrk tg wh (nI (uD v (18 + c)).length)))) (F + 20 + 1) := y1
        obtain ⟨o1, o2, o3, o4, o5⟩ := y1.new (t := 5) (vs := [.int (-1), .null, .int how]) (Nat.le_of_ble_eq_true rfl)
        refine ⟨_, _, y1.rf.chO hc, rfl, o2, Nat.le_trans (by decide) o3, ?_⟩
        rintro _ _ rfl rfl
        refine ⟨_, k_newDn, ?_⟩
        rintro r h5 ⟨rfl, rfl⟩
        have hdd2 : DdAt (ah_new h4 (5, [.int (-1), .null, .int how])) h4.1 (-1, none, how) := at_new
        refine ⟨rfl, o1.lst (lt_D (isD_c hc)), _, rx_addD o1 (isD_c hc) rfl (by rw [if_neg (by omega)]; exact Nat.le_trans hdc (by decide)) hdd2 (fun w => absurd w (by unfold isC; omega)), ?_⟩
        rintro r h6 ⟨rfl, y7, y8⟩
        exact ⟨_, rfl, rfl, RC.le ⟨_, y7⟩ (by omega), (y2.trans o4).trans y8.kc⟩
    refine ⟨_, _, hch, rfl, fun z => b78 (fun w => absurd z w), fun z => ⟨_, _, hch, rfl, hX.lst (lt_D (isD_c hc)), _, rx_sizeD hX (isD_c hc) rfl, ?_⟩⟩
    rintro r h3 ⟨rfl, rfl⟩
    refine ⟨_, rfl, pk_lt (uD v (18 + c)).length 4 (fun hl => b78 (fun _ => hl)) (fun hl => ?_)⟩
    rw [if_neg z, if_neg (by omega)]
    exact ⟨rfl, RC.le ⟨xs, hX⟩ (by omega), KC.refl⟩
  refine M66 ⟨_, k_isChannel, ?_⟩
  rintro r h' ⟨rfl, rfl⟩
  refine ⟨_, rfl, fun z => b29 ?_, fun z1 => ⟨fun z => b29 ?_, fun z2 => ⟨fun z3 => b19 (b2i_nz z1) z2 ?_, fun z3 => ⟨fun z => b29 ?_, fun z4 => b19 (b2i_nz z1) z2 ?_⟩⟩⟩⟩
  · unfold stC
    rw [show wi x1 0 3 = false from b2i_z.mp z, Bool.false_and]
  · unfold stC
    rw [show decide (¬ tg < 0) = false from decide_eq_false (fun w => w z), Bool.false_and, Bool.and_false]
  · rw [decide_eq_true z3, Bool.true_or]
  · unfold stC
    rw [b2i_z.mp z, show decide (¬ tg = 0) = false from decide_eq_false (fun w => w z3), Bool.false_or, Bool.false_and, Bool.and_false, Bool.and_false]
  · rw [b2i_nz z4, Bool.or_true]
