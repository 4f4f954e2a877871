/-! what is forgotten: queues, exchanges; crash -/
theorem RF.exO {gc : Nat → Nat} {h : AH} {A : Nat → Nat} {I : Nat → Int32} (hF : RF gc h A I) {e : Nat} (he : e < 5) : at_ h (A (10 + e)) 6 [.int (I (100 + 10 * e)), .int (I (101 + 10 * e)), .int (I (102 + 10 * e))] := hF.2.2.2.2.2.1 e he
theorem RX.wrE {gc : Nat → Nat} {h : AH} {A : Nat → Nat} {I : Nat → Int32} {xs ys : Nat → List Nat} {v : Mu} {F : Nat} {U : Nat → Int32} {e : Nat} {n0 n1 n2 : Int32} (hR : RX gc h A I xs ys v F) (he : e < 5) (hI : ∀ j, ¬ (100 + 10 * e ≤ j ∧ j ≤ 102 + 10 * e) → U j = I j) (e0 : U (100 + 10 * e) = n0) (e1 : U (101 + 10 * e) = n1) (e2 : U (102 + 10 * e) = n2) : RX gc (ah_set h (A (10 + e)) (6, [.int n0, .int n1, .int n2])) A U xs ys v F ∧ KC h (ah_set h (A (10 + e)) (6, [.int n0, .int n1, .int n2])) := by
  subst e0 e1 e2
  exact ⟨hR.wr (hR.rf.exO he) (by omega) (hR.rf.setE hR.1.1 he hI), KC.set (hR.rf.exO he) (by decide)⟩
theorem RX.wrQ {gc : Nat → Nat} {h : AH} {A : Nat → Nat} {I : Nat → Int32} {xs ys : Nat → List Nat} {v : Mu} {F : Nat} {U : Nat → Int32} {e : Nat} {n0 n1 n2 n3 : Int32} (hR : RX gc h A I xs ys v F) (he : e < 6) (hI : ∀ j, ¬ (200 + 10 * e ≤ j ∧ j ≤ 203 + 10 * e) → U j = I j) (e0 : U (200 + 10 * e) = n0) (e1 : U (201 + 10 * e) = n1) (e2 : U (202 + 10 * e) = n2) (e3 : U (203 + 10 * e) = n3) : RX gc (ah_set h (A (20 + e)) (8, [.int n0, .int n1, .int n2, .int n3, .ref (A (40 + (2 + e))), .ref (A (40 + (8 + e)))])) A U xs ys v F ∧ KC h (ah_set h (A (20 + e)) (8, [.int n0, .int n1, .int n2, .int n3, .ref (A (40 + (2 + e))), .ref (A (40 + (8 + e)))])) := by
  subst e0 e1 e2 e3
  have hq := hR.rf.2.2.2.2.2.2.1 e he
  rw [show 40 + (2 + e) = 42 + e by omega, show 40 + (8 + e) = 48 + e by omega]
  exact ⟨hR.wr hq (by omega) (hR.rf.setQ hR.1.1 he hI), KC.set hq (by decide)⟩
theorem k_qreset {gc : Nat → Nat} {d : Nat} {h : AH} {A : Nat → Nat} {I : Nat → Int32} {v : Mu} {F : Nat} {w : Nat} (hR : RC gc h A I v F) (hw : w < 6) : WP gc (d + 2) 37 [.ref (A (20 + w))] h (fun r h' => r = none ∧ RC gc h' A (upd I (200 + 10 * w) 0) (upR (upC v (2 + w) []) (8 + w) []) F ∧ KC h h') := by
  obtain ⟨xs, hX⟩ := hR
  refine M37 ⟨_, hX.rf.quO hw, Nat.le_of_ble_eq_true rfl, Or.inl rfl, ?_⟩
  rintro h2 rfl
  obtain ⟨y1, y2⟩ := hX.wrQ (U := upd I (200 + 10 * w) 0) hw (fun j hj => pk_un (by omega)) pk_us (pk_un (by omega)) (pk_un (by omega)) (pk_un (by omega))
  refine ⟨_, _, at_s, rfl, y1.lst (lt_C (isC_q hw)), _, rx_clrC y1 (isC_q hw), ?_⟩
  rintro r h5 ⟨rfl, y4, y5⟩
  refine ⟨rfl, _, _, y4.rf.quO hw, rfl, y4.lst (lt_R (isR_q hw)), _, rx_clrR y4 (isR_q hw), ?_⟩
  rintro r h6 ⟨rfl, y6, y7⟩
  exact ⟨rfl, rfl, ⟨_, y6⟩, (y2.trans y5.kc).trans y7.kc⟩
def lgA (w : Nat) : Nat → Nat → Mu → Mu
  | 0, _, v => v
  | n + 1, c, v => lgA w n (c + 1) (upC v (14 + c) ((uC v (14 + c)).filter (fun y => !pq w y)))
def lgN (w : Nat) : Nat → Nat → Mu → Nat → Nat
  | 0, _, _, g => g
  | n + 1, c, v, g => lgN w n (c + 1) (upC v (14 + c) ((uC v (14 + c)).filter (fun y => !pq w y))) (g + (uC v (14 + c)).countP (pq w))
theorem lf_loop {gc : Nat → Nat} {d : Nat} {A : Nat → Nat} {I : Nat → Int32} {q : PT} {F w : Nat} (h0 : AH) : ∀ n c g (h : AH) (v : Mu), c + n = 4 → RC gc h A I v F → (∀ c, c < 4 → (uC v (14 + c)).length ≤ 64) → KC h0 h → (∀ h' x3, RC gc h' A I (lgA w n c v) F → KC h0 h' → TT gc (d + 4) 35 q 86 [.ref (A 0), .int (nI w), .int (nI (lgN w n c v g)), .int x3] [] h') → TT gc (d + 4) 35 q 62 [.ref (A 0), .int (nI w), .int (nI g), .int (nI c)] [] h := by
  intro n
  induction n with
  | zero =>
    intro c g h v hc hR hl hkc hq
    exact B35_62 ⟨fun _ => hq h _ hR hkc, fun z => absurd (show (4 : Int32) ≤ nI c from nI_le (a := 4) (by omega) (by omega)) z⟩
  | succ n ih =>
    intro c g h v hc hR hl hkc hq
    have hc4 : c < 4 := by omega
    obtain ⟨t, vs, g1, g2, g3, g4⟩ := hR.rf.chA hc4
    refine B35_62 ⟨fun z => absurd z (show ¬ (4 : Int32) ≤ nI c from nI_ge (b := 4) (by omega) (by decide)), fun _ => ⟨_, _, hR.rf.2.1, rfl, t, vs, _, g1, g2, g3, g4, ⟨_, hR.rf.chO hc4⟩, _, k_lg hR hc4 (hl c hc4), ?_⟩⟩
    rintro r h2 ⟨rfl, q1, q2⟩
    refine ⟨_, rfl, ?_⟩
    rw [nI_1, nI_add]
    refine ih (c + 1) _ h2 _ (by omega) q1 (fun c' hc' => ?_) (hkc.trans q2) hq
    by_cases hz : 14 + c' = 14 + c
    · rw [hz, uC_s]
      exact Nat.le_trans (List.length_filter_le _ _) (hl c hc4)
    · rw [uC_n hz]
      exact hl c' hc'
def fgQ (w : Nat) (s : St) : Nat × St := (lgN w 4 0 (upB s.2 0 ((uB s.2 0).filter (fun y => !bQ (nI w) y))) (uC s.2 (2 + w)).length, upd s.1 (200 + 10 * w) 0, upR (upC (lgA w 4 0 (upB s.2 0 ((uB s.2 0).filter (fun y => !bQ (nI w) y)))) (2 + w) []) (8 + w) [])
theorem k_fgQ {gc : Nat → Nat} {d : Nat} {h : AH} {A : Nat → Nat} {I : Nat → Int32} {v : Mu} {F : Nat} {w : Nat} (hR : RC gc h A I v F) (hw : w < 6) (hlB : (uB v 0).length ≤ 64) (hl : ∀ c, c < 4 → (uC v (14 + c)).length ≤ 64) : WP gc (d + 5) 35 [.ref (A 0), .int (nI w)] h (fun r h' => r = some (.int (nI (fgQ w (I, v)).1)) ∧ RC gc h' A (fgQ w (I, v)).2.1 (fgQ w (I, v)).2.2 F ∧ KC h h') := by
  obtain ⟨xs, hX⟩ := hR
  have hb : isB 0 := rfl
  refine M35 ⟨_, _, hX.rf.2.1, rfl, hX.lst (k := 0) (by decide), _, rx_sizeB hX hb rfl, ?_⟩
  rintro r h' ⟨rfl, rfl⟩
  refine ⟨_, rfl, fq_loop (d := d + 1) (I := I) (F := F) hlB h' (uB v 0).length h' (Nat.le_refl _) ?_ KC.refl (fun h2 x2 q1 q2 => ?_)⟩
  · rw [flF_n, upB_id]
    exact ⟨xs, hX⟩
  · obtain ⟨xs2, hX2⟩ := q1
    obtain ⟨t, vs, g1, g2, g3, g4⟩ := hX2.rf.quA hw
    refine B35_47 ⟨_, _, hX2.rf.2.1, rfl, t, vs, _, g1, g2, g3, g4, _, _, hX2.rf.quO hw, rfl, hX2.lst (lt_C (isC_q hw)), _, rx_sizeC hX2 (isC_q hw) rfl, ?_⟩
    rintro r h3 ⟨rfl, rfl⟩
    refine ⟨_, rfl, lf_loop h' 4 0 _ h3 _ rfl ⟨_, hX2⟩ hl q2 (fun h4 x3 u1 u2 => ?_)⟩
    obtain ⟨t, vs, g1, g2, g3, g4⟩ := u1.rf.quA hw
    refine B35_86 ⟨_, _, u1.rf.2.1, rfl, t, vs, _, g1, g2, g3, g4, ⟨_, u1.rf.quO hw⟩, _, k_qreset u1 hw, ?_⟩
    rintro r h5 ⟨rfl, w1, w2⟩
    exact ⟨rfl, rfl, w1, u2.trans w2⟩
def opDr (s : St) (x : Int32) : Int32 × St := if isQu s.1 x then (nI (fgQ x.toNatClampNeg s).1, (fgQ x.toNatClampNeg s).2) else (-1, s)
theorem k_drop {gc : Nat → Nat} {d : Nat} {h : AH} {A : Nat → Nat} {I : Nat → Int32} {v : Mu} {F : Nat} {x : Int32} (hR : RC gc h A I v F) (hlB : (uB v 0).length ≤ 64) (hl : ∀ c, c < 4 → (uC v (14 + c)).length ≤ 64) : WP gc (d + 6) 34 [.ref (A 0), .int x] h (fun r h' => r = some (.int (opDr (I, v) x).1) ∧ RC gc h' A (opDr (I, v) x).2.1 (opDr (I, v) x).2.2 F ∧ KC h h') := by
  refine M34 ⟨⟨_, hR.rf.2.1⟩, _, k_isQ hR.rf, ?_⟩
  rintro r h' ⟨rfl, rfl⟩
  refine ⟨_, rfl, fun z => B34_10 ?_, fun z => ?_⟩
  · have z : isQu I x = true := b2i_nz z
    obtain ⟨w, hw, rfl⟩ := isQu_rng z
    have ho : opDr (I, v) (nI w) = (nI (fgQ w (I, v)).1, (fgQ w (I, v)).2) := by
      unfold opDr
      rw [z, if_pos rfl, nI_clamp (by omega)]
    rw [ho]
    refine ⟨⟨_, hR.rf.2.1⟩, _, k_fgQ hR hw hlB hl, ?_⟩
    rintro r h2 ⟨rfl, q1, q2⟩
    exact ⟨_, rfl, rfl, q1, q2⟩
  · unfold opDr
    rw [show isQu I x = false from b2i_z.mp z, if_neg (by decide)]
    exact ⟨rfl, hR, KC.refl⟩
def fgE (e : Nat) (s : St) : St := (upd s.1 (100 + 10 * e) 0, upB s.2 0 ((uB s.2 0).filter (fun y => !bE (nI e) y)))
theorem k_fgE {gc : Nat → Nat} {d : Nat} {h : AH} {A : Nat → Nat} {I : Nat → Int32} {v : Mu} {F : Nat} {e : Nat} (hR : RC gc h A I v F) (he : e < 5) (hlB : (uB v 0).length ≤ 64) : WP gc (d + 4) 83 [.ref (A 0), .int (nI e)] h (fun r h' => r = none ∧ RC gc h' A (fgE e (I, v)).1 (fgE e (I, v)).2 F ∧ KC h h') := by
  obtain ⟨xs, hX⟩ := hR
  have hb : isB 0 := rfl
  obtain ⟨t, vs, g1, g2, g3, g4⟩ := hX.rf.exA he
  refine M83 ⟨_, _, hX.rf.2.1, rfl, t, vs, _, g1, g2, g3, g4, _, hX.rf.exO he, Nat.le_of_ble_eq_true rfl, Or.inl rfl, ?_⟩
  rintro h2 rfl
  obtain ⟨y1, y2⟩ := hX.wrE (U := upd I (100 + 10 * e) 0) he (fun j hj => pk_un (by omega)) pk_us (pk_un (by omega)) (pk_un (by omega))
  refine ⟨_, _, y1.rf.2.1, rfl, y1.lst (k := 0) (by decide), _, rx_sizeB y1 hb rfl, ?_⟩
  rintro r h' ⟨rfl, rfl⟩
  refine ⟨_, rfl, fe_loop (I := upd I (100 + 10 * e) 0) (F := F) hlB h (uB v 0).length _ (Nat.le_refl _) ?_ y2 (fun h2 q1 q2 => ⟨rfl, q1, q2⟩)⟩
  rw [flF_n, upB_id]
  exact ⟨xs, y1⟩
/-! crash -/
theorem cl_keep {c b : Nat} (hc : c < 4) : ∀ n (v : Mu), CQ v → LB v b → CQ (clF c n v) ∧ LB (clF c n v) b ∧ uC (clF c n v) (14 + c) = (uC v (14 + c)).drop n := by
  intro n
  induction n with
  | zero => intro v h1 h2; exact ⟨h1, h2, rfl⟩
  | succ n ih =>
    intro v h1 h2
    have hs : clF c (n + 1) v = (match uC v (14 + c) with
      | [] => v
      | r :: l => clF c n (bk (upC v (14 + c) l) r)) := rfl
    cases hu : uC v (14 + c) with
    | nil =>
      rw [hu] at hs
      dsimp only at hs
      rw [hs, hu]
      exact ⟨h1, h2, rfl⟩
    | cons r l =>
      rw [hu] at hs
      dsimp only at hs
      rw [hs]
      obtain ⟨w, hw6, hwr⟩ := h1.1 (14 + c) (isC_c hc) r (by rw [hu]; exact List.mem_cons_self)
      have hj : (uC v (14 + c))[0]? = some r := by rw [hu]; rfl
      have hle : (uC v (14 + c)).eraseIdx 0 = l := by rw [hu]; rfl
      have hbk := h2.bkk hc hj hw6 hwr
      have hcb := (h1.er (j := 0) hc).bkk hw6 hwr
      rw [hle] at hbk hcb
      obtain ⟨g1, g2, g3⟩ := ih _ hcb hbk
      refine ⟨g1, g2, ?_⟩
      rw [g3]
      have : uC (bk (upC v (14 + c) l) r) (14 + c) = l := by
        unfold bk
        rw [hwr, nI_clamp (by omega), uC_n (by omega), uC_s]
      rw [this]
      rfl
theorem rmA_eq {x : Int32} : ∀ n q (v : Mu), (rmA x n q v).1 = v.1 ∧ (rmA x n q v).2.1 = v.2.1 ∧ (rmA x n q v).2.2.2 = v.2.2.2 := by
  intro n
  induction n with
  | zero => intro q v; exact ⟨rfl, rfl, rfl⟩
  | succ n ih => intro q v; exact ih (q + 1) _
theorem rmA_at {x : Int32} : ∀ n q (v : Mu) p, uR (rmA x n q v) (8 + p) = if q ≤ p ∧ p < q + n then rmN x (uR v (8 + p)) else uR v (8 + p) := by
  intro n
  induction n with
  | zero => intro q v p; rw [if_neg (by omega)]; rfl
  | succ n ih =>
    intro q v p
    show uR (rmA x n (q + 1) _) (8 + p) = _
    rw [ih]
    by_cases hz : p = q
    · subst hz
      rw [if_neg (by omega), if_pos (by omega), uR_s]
    · rw [uR_n (by omega)]
      by_cases h1 : q + 1 ≤ p ∧ p < q + 1 + n
      · rw [if_pos h1, if_pos (by omega)]
      · rw [if_neg h1, if_neg (by omega)]
theorem LB.cg {v w : Mu} {b : Nat} (h : w.2.1 = v.2.1) (hb : LB v b) : LB w b := by
  have e : ∀ k, uC w k = uC v k := fun k => congrFun h k
  refine ⟨fun c hc => by rw [e]; exact hb.1 c hc, fun q hq6 => ?_, ?_⟩
  · rw [e, show hq w q = hq v q from sumTo_cg 4 (fun c _ => by rw [e])]
    exact hb.2.1 q hq6
  · rw [e, show sw w = sw v from sumTo_cg 6 (fun c _ => by rw [e]), show sh w = sh v from sumTo_cg 4 (fun c _ => by rw [e])]
    exact hb.2.2
theorem CQ.cg {v w : Mu} (h : w.2.1 = v.2.1) (hb : CQ v) : CQ w := by
  have e : ∀ k, uC w k = uC v k := fun k => congrFun h k
  exact ⟨fun k hk r hr => hb.1 k hk r (by rw [← e]; exact hr), fun q hq6 r hr => hb.2 q hq6 r (by rw [← e]; exact hr)⟩
theorem cc_C {c b : Nat} {I : Nat → Int32} {v : Mu} (hc : c < 4) (hcq : CQ v) (hb : LB v b) : (opCc c (I, v)).2.2.1 = (clF c (uC v (14 + c)).length v).2.1 := by
  obtain ⟨g1, g2, g3⟩ := cl_keep hc (uC v (14 + c)).length v hcq hb
  show va_up (rmA (nI c) 6 0 (clF c (uC v (14 + c)).length v)).2.1 (14 + c) [] = _
  rw [(rmA_eq 6 0 _).2.1]
  rw [List.drop_length] at g3
  have := @upC_id (clF c (uC v (14 + c)).length v) (14 + c)
  rw [g3] at this
  exact congrArg (fun w : Mu => w.2.1) this
def RB (v : Mu) : Prop := ∀ q, q < 6 → (uR v (8 + q)).length ≤ 64
theorem cc_keep {c b : Nat} {I : Nat → Int32} {v : Mu} (hc : c < 4) (hcq : CQ v) (hb : LB v b) (hl : RB v) : CQ (opCc c (I, v)).2 ∧ LB (opCc c (I, v)).2 b ∧ RB (opCc c (I, v)).2 ∧ uB (opCc c (I, v)).2 0 = uB v 0 := by
  obtain ⟨g1, g2, g3⟩ := cl_keep hc (uC v (14 + c)).length v hcq hb
  have hsv := Sv.clFk (c := c) (uC v (14 + c)).length v
  refine ⟨CQ.cg (cc_C hc hcq hb) g1, LB.cg (cc_C hc hcq hb) g2, fun q hq6 => ?_, ?_⟩
  · show (uR (rmA (nI c) 6 0 (clF c (uC v (14 + c)).length v)) (8 + q)).length ≤ 64
    rw [rmA_at, if_pos (by omega)]
    refine Nat.le_trans rmN_len ?_
    rw [show uR (clF c (uC v (14 + c)).length v) (8 + q) = uR v (8 + q) from congrFun (congrArg Prod.fst hsv.2) _]
    exact hl q hq6
  · show (rmA (nI c) 6 0 (clF c (uC v (14 + c)).length v)).1 0 = _
    rw [(rmA_eq 6 0 _).1, hsv.1]
    rfl
def ccA : Nat → Nat → St → St
  | 0, _, s => s
  | n + 1, c, s => ccA n (c + 1) (opCc c s)
theorem crC_loop {gc : Nat → Nat} {d : Nat} {A : Nat → Nat} {q : PT} {F b : Nat} (h0 : AH) : ∀ n c (h : AH) (I : Nat → Int32) (v : Mu), c + n = 4 → RC gc h A I v F → CQ v → LB v b → RB v → KC h0 h → (∀ h' x1, RC gc h' A (ccA n c (I, v)).1 (ccA n c (I, v)).2 F → KC h0 h' → TT gc (d + 8) 82 q 18 [.ref (A 0), .int x1, .retAddr 0] [] h') → TT gc (d + 8) 82 q 2 [.ref (A 0), .int (nI c), .retAddr 0] [] h := by
  intro n
  induction n with
  | zero =>
    intro c h I v hc hR hcq hb hl hkc hq
    exact B82_2 ⟨fun _ => hq h _ hR hkc, fun z => absurd (show (4 : Int32) ≤ nI c from nI_le (a := 4) (by omega) (by omega)) z⟩
  | succ n ih =>
    intro c h I v hc hR hcq hb hl hkc hq
    have hc4 : c < 4 := by omega
    refine B82_2 ⟨fun z => absurd z (show ¬ (4 : Int32) ≤ nI c from nI_ge (b := 4) (by omega) (by decide)), fun _ => ⟨⟨_, hR.rf.2.1⟩, _, k_cc0 hR hc4 hcq hb hl, ?_⟩⟩
    rintro r h2 ⟨rfl, q1, q2⟩
    refine ⟨rfl, ?_⟩
    rw [nI_1]
    obtain ⟨w1, w2, w3, -⟩ := cc_keep (I := I) hc4 hcq hb hl
    exact ih (c + 1) h2 _ _ (by omega) q1 w1 w2 w3 (hkc.trans q2) hq
theorem ccA_keep {b : Nat} : ∀ n c (I : Nat → Int32) (v : Mu), c + n = 4 → CQ v → LB v b → RB v → CQ (ccA n c (I, v)).2 ∧ LB (ccA n c (I, v)).2 b ∧ RB (ccA n c (I, v)).2 ∧ uB (ccA n c (I, v)).2 0 = uB v 0 := by
  intro n
  induction n with
  | zero => intro c I v _ h1 h2 h3; exact ⟨h1, h2, h3, rfl⟩
  | succ n ih =>
    intro c I v hc h1 h2 h3
    obtain ⟨w1, w2, w3, w4⟩ := cc_keep (I := I) (show c < 4 by omega) h1 h2 h3
    obtain ⟨u1, u2, u3, u4⟩ := ih (c + 1) _ _ (by omega) w1 w2 w3
    exact ⟨u1, u2, u3, u4.trans w4⟩
def feA : Nat → Nat → St → St
  | 0, _, s => s
  | n + 1, e, s => feA n (e + 1) (if s.1 (102 + 10 * e) = 0 then fgE e s else s)
theorem fe_len {e : Nat} {s : St} (h : (uB s.2 0).length ≤ 64) : (uB (fgE e s).2 0).length ≤ 64 := by
  show (uB (upB s.2 0 _) 0).length ≤ 64
  rw [uB_s]
  exact Nat.le_trans (List.length_filter_le _ _) h
theorem crE_loop {gc : Nat → Nat} {d : Nat} {A : Nat → Nat} {q : PT} {F : Nat} (h0 : AH) : ∀ n e (h : AH) (I : Nat → Int32) (v : Mu), e + n = 5 → RC gc h A I v F → (uB v 0).length ≤ 64 → KC h0 h → (∀ h' x1, RC gc h' A (feA n e (I, v)).1 (feA n e (I, v)).2 F → KC h0 h' → TT gc (d + 4) 82 q 48 [.ref (A 0), .int x1, .retAddr 0] [] h') → TT gc (d + 4) 82 q 20 [.ref (A 0), .int (nI e), .retAddr 0] [] h := by
  intro n
  induction n with
  | zero =>
    intro e h I v he hR hl hkc hq
    exact B82_20 ⟨fun _ => hq h _ hR hkc, fun z => absurd (show (5 : Int32) ≤ nI e from nI_le (a := 5) (by omega) (by omega)) z⟩
  | succ n ih =>
    intro e h I v he hR hl hkc hq
    have he5 : e < 5 := by omega
    obtain ⟨t, vs, g1, g2, g3, g4⟩ := hR.rf.exA he5
    have hs : feA (n + 1) e (I, v) = feA n (e + 1) (if I (102 + 10 * e) = 0 then fgE e (I, v) else (I, v)) := rfl
    refine B82_20 ⟨fun z => absurd z (show ¬ (5 : Int32) ≤ nI e from nI_ge (b := 5) (by omega) (by decide)), fun _ => ⟨_, _, hR.rf.2.1, rfl, t, vs, _, g1, g2, g3, g4, _, _, hR.rf.exO he5, rfl, fun z => B82_42 ?_, fun z => ⟨⟨_, hR.rf.2.1⟩, _, k_fgE hR he5 hl, ?_⟩⟩⟩
    · rw [if_neg z] at hs
      rw [hs] at hq
      rw [nI_1]
      exact ih (e + 1) h _ _ (by omega) hR hl hkc hq
    · rintro r h2 ⟨rfl, q1, q2⟩
      refine ⟨rfl, B82_42 ?_⟩
      rw [if_pos z] at hs
      rw [hs] at hq
      rw [nI_1]
      exact ih (e + 1) h2 _ _ (by omega) q1 (fe_len (s := (I, v)) hl) (hkc.trans q2) hq
/-- the lists are short -/
def SB (v : Mu) : Prop := (uB v 0).length ≤ 64 ∧ (∀ c, c < 4 → (uC v (14 + c)).length ≤ 64) ∧ ∀ q, q < 6 → (uC v (2 + q)).length ≤ 64
theorem SB.b {v : Mu} {l : List Bnd} (h : SB v) (hl : l.length ≤ 64) : SB (upB v 0 l) := ⟨by rw [uB_s]; exact hl, h.2.1, h.2.2⟩
theorem SB.c {v : Mu} {k : Nat} {l : List Rec} (h : SB v) (hl : l.length ≤ 64) : SB (upC v k l) := by
  refine ⟨h.1, fun c hc => ?_, fun q hq6 => ?_⟩
  · by_cases hz : 14 + c = k
    · subst hz; rw [uC_s]; exact hl
    · rw [uC_n hz]; exact h.2.1 c hc
  · by_cases hz : 2 + q = k
    · subst hz; rw [uC_s]; exact hl
    · rw [uC_n hz]; exact h.2.2 q hq6
theorem SB.r {v : Mu} {k : Nat} {l : List Con} (h : SB v) : SB (upR v k l) := ⟨h.1, h.2.1, h.2.2⟩
theorem SB.lgA {w : Nat} : ∀ n c (v : Mu), c + n ≤ 4 → SB v → SB (lgA w n c v) := by
  intro n
  induction n with
  | zero => intro c v _ h; exact h
  | succ n ih =>
    intro c v hc h
    exact ih (c + 1) _ (by omega) (h.c (Nat.le_trans (List.length_filter_le _ _) (h.2.1 c (by omega))))
theorem SB.fgQ {w : Nat} {s : St} (h : SB s.2) : SB (fgQ w s).2.2 :=
  ((SB.lgA 4 0 _ (by omega) (h.b (Nat.le_trans (List.length_filter_le _ _) h.1))).c (Nat.zero_le _)).r
def kpQ (w : Nat) (v : Mu) : Mu := upC v (2 + w) ((uC v (2 + w)).filter (fun y => !!mPers (rM y)))
def cqS (q : Nat) (s : St) : St := if s.1 (203 + 10 * q) = 0 then (fgQ q s).2 else s
def cqA : Nat → Nat → St → Nat → Nat × St
  | 0, _, s, g => (g, s)
  | n + 1, q, s, g => cqA n (q + 1) ((cqS q s).1, kpQ q (cqS q s).2) (g + (uC (kpQ q (cqS q s).2) (2 + q)).length)
theorem crQ_loop {gc : Nat → Nat} {d : Nat} {A : Nat → Nat} {q : PT} {F : Nat} (h0 : AH) : ∀ n w g (h : AH) (I : Nat → Int32) (v : Mu), w + n = 6 → RC gc h A I v F → SB v → KC h0 h → (∀ h', RC gc h' A (cqA n w (I, v) g).2.1 (cqA n w (I, v) g).2.2 F → KC h0 h' → q (some (.int (nI (cqA n w (I, v) g).1))) h') → TT gc (d + 5) 82 q 52 [.ref (A 0), .int (nI g), .int (nI w)] [] h := by
  intro n
  induction n with
  | zero =>
    intro w g h I v hw hR hl hkc hq
    exact B82_52 ⟨fun _ => B82_106 (hq h hR hkc), fun z => absurd (show (6 : Int32) ≤ nI w from nI_le (a := 6) (by omega) (by omega)) z⟩
  | succ n ih =>
    intro w g h I v hw hR hl hkc hq
    have hw6 : w < 6 := by omega
    obtain ⟨t, vs, g1, g2, g3, g4⟩ := hR.rf.quA hw6
    have hs : cqA (n + 1) w (I, v) g = cqA n (w + 1) ((cqS w (I, v)).1, kpQ w (cqS w (I, v)).2) (g + (uC (kpQ w (cqS w (I, v)).2) (2 + w)).length) := rfl
    rw [hs] at hq
    have key : ∀ h2, RC gc h2 A (cqS w (I, v)).1 (cqS w (I, v)).2 F → SB (cqS w (I, v)).2 → KC h0 h2 → TT gc (d + 5) 82 q 76 [.ref (A 0), .int (nI g), .int (nI w)] [] h2 := by
      intro h2 r1 r2 r3
      obtain ⟨t, vs, g1, g2, g3, g4⟩ := r1.rf.quA hw6
      refine B82_76 ⟨_, _, r1.rf.2.1, rfl, t, vs, _, g1, g2, g3, g4, ⟨_, r1.rf.quO hw6⟩, _, k_kp r1 hw6 (r2.2.2 w hw6), ?_⟩
      rintro r h3 ⟨rfl, ⟨xs, q1⟩, q2⟩
      obtain ⟨t, vs, g1, g2, g3, g4⟩ := q1.rf.quA hw6
      refine ⟨rfl, _, _, q1.rf.2.1, rfl, t, vs, _, g1, g2, g3, g4, _, _, q1.rf.quO hw6, rfl, q1.lst (lt_C (isC_q hw6)), _, rx_sizeC q1 (isC_q hw6) rfl, ?_⟩
      rintro r h4 ⟨rfl, rfl⟩
      refine ⟨_, rfl, ?_⟩
      rw [nI_1, nI_add]
      exact ih (w + 1) _ h4 _ _ (by omega) ⟨xs, q1⟩ (r2.c (Nat.le_trans (List.length_filter_le _ _) (r2.2.2 w hw6))) (r3.trans q2) hq
    refine B82_52 ⟨fun z => absurd z (show ¬ (6 : Int32) ≤ nI w from nI_ge (b := 6) (by omega) (by decide)), fun _ => ⟨_, _, hR.rf.2.1, rfl, t, vs, _, g1, g2, g3, g4, _, _, hR.rf.quO hw6, rfl, fun z => ?_, fun z => ⟨⟨_, hR.rf.2.1⟩, _, k_fgQ hR hw6 hl.1 hl.2.1, ?_⟩⟩⟩
    · have e : cqS w (I, v) = (I, v) := if_neg z
      refine key h ?_ ?_ hkc
      · rw [e]; exact hR
      · rw [e]; exact hl
    · rintro r h2 ⟨rfl, q1, q2⟩
      have e : cqS w (I, v) = (fgQ w (I, v)).2 := if_pos z
      refine ⟨_, rfl, key h2 ?_ ?_ (hkc.trans q2)⟩
      · rw [e]; exact q1
      · rw [e]; exact SB.fgQ (s := (I, v)) hl
def opCr (s : St) : Int32 × St := (nI (cqA 6 0 (feA 5 0 (ccA 4 0 s)) 0).1, (cqA 6 0 (feA 5 0 (ccA 4 0 s)) 0).2)
theorem feA_C : ∀ n e (s : St), (feA n e s).2.2 = s.2.2 ∧ (uB (feA n e s).2 0).length ≤ (uB s.2 0).length := by
  intro n
  induction n with
  | zero => intro e s; exact ⟨rfl, Nat.le_refl _⟩
  | succ n ih =>
    intro e s
    obtain ⟨h1, h2⟩ := ih (e + 1) (if s.1 (102 + 10 * e) = 0 then fgE e s else s)
    refine ⟨h1.trans ?_, Nat.le_trans h2 ?_⟩
    · split <;> rfl
    · split
      · show (uB (upB s.2 0 _) 0).length ≤ _
        rw [uB_s]
        exact List.length_filter_le _ _
      · exact Nat.le_refl _
theorem k_crash {gc : Nat → Nat} {d : Nat} {h : AH} {A : Nat → Nat} {I : Nat → Int32} {v : Mu} {F : Nat} {b : Nat} (hR : RC gc h A I v F) (hcq : CQ v) (hb : LB v b) (hl : RB v) (hlB : (uB v 0).length ≤ 64) : WP gc (d + 9) 82 [.ref (A 0)] h (fun r h' => r = some (.int (opCr (I, v)).1) ∧ RC gc h' A (opCr (I, v)).2.1 (opCr (I, v)).2.2 F ∧ KC h h') := by
  obtain ⟨w1, w2, w3, w4⟩ := ccA_keep 4 0 I v rfl hcq hb hl
  have ho : opCr (I, v) = (nI (cqA 6 0 (feA 5 0 (ccA 4 0 (I, v))) 0).1, (cqA 6 0 (feA 5 0 (ccA 4 0 (I, v))) 0).2) := rfl
  rw [ho]
  generalize hs1 : ccA 4 0 (I, v) = s1 at w1 w2 w3 w4
  have hfe := feA_C 5 0 s1
  generalize hs2 : feA 5 0 s1 = s2 at hfe
  generalize hs3 : cqA 6 0 s2 0 = s3
  refine M82 (crC_loop h 4 0 h I v rfl hR hcq hb hl KC.refl (fun h2 x1 q1 q2 => B82_18 ?_))
  rw [hs1] at q1
  refine crE_loop (d := d + 4) h 5 0 h2 s1.1 s1.2 rfl q1 (by rw [w4]; exact hlB) q2 (fun h3 x2 u1 u2 => B82_48 ?_)
  rw [show (s1.1, s1.2) = s1 from rfl, hs2] at u1
  refine crQ_loop (d := d + 3) h 6 0 0 h3 s2.1 s2.2 rfl u1 ?_ u2 (fun h4 p1 p2 => ?_)
  rotate_left
  · rw [show (s2.1, s2.2) = s2 from rfl, hs3] at p1 ⊢
    exact ⟨rfl, p1, p2⟩
  refine ⟨Nat.le_trans hfe.2 (by rw [w4]; exact hlB), fun c hc => ?_, fun q hq6 => ?_⟩
  · rw [show uC s2.2 (14 + c) = uC s1.2 (14 + c) from congrFun (congrArg Prod.fst hfe.1) _]
    exact Nat.le_trans (w2.1 c hc) (by decide)
  · rw [show uC s2.2 (2 + q) = uC s1.2 (2 + q) from congrFun (congrArg Prod.fst hfe.1) _]
    exact Nat.le_trans (w2.w hq6) (by decide)
