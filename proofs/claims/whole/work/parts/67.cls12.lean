/-! forget, rollback, commit -/
def un (r : Rec) : Rec := rSetD r (-1)
theorem un_loop {gc : Nat → Nat} {d : Nat} {A : Nat → Nat} {I : Nat → Int32} {v : Mu} {F c : Nat} {q : PT} (hc : c < 4) (hl : (uC v (14 + c)).length ≤ 64) (h0 : AH) (hq : ∀ h', RC gc h' A I (upC v (14 + c) ((uC v (14 + c)).map un)) F → KC h0 h' → q none h') : ∀ n i (h : AH), i + n = (uC v (14 + c)).length → RC gc h A I (upC v (14 + c) (mpF un (uC v (14 + c)) i)) F → KC h0 h → TT gc (d + 3) 77 q 9 [.ref (A (30 + c)), .int (nI i)] [] h := by
  have hk := isC_c hc
  intro n
  induction n with
  | zero =>
    rintro i h hi ⟨xs, hX⟩ hkc
    have hch := hX.rf.chO hc
    refine B77_9 ⟨_, _, hch, rfl, hX.lst (lt_C hk), _, rx_sizeC hX hk rfl, ?_⟩
    rintro r h' ⟨rfl, rfl⟩
    rw [uC_s, mpF_len]
    refine ⟨_, rfl, fun _ => B77_41 (hq h' ⟨xs, ?_⟩ hkc), fun z => absurd (nI_le (by omega) (by omega)) z⟩
    rw [← mpF_n, show (uC v (14 + c)).length = i by omega]
    exact hX
  | succ n ih =>
    rintro i h hi ⟨xs, hX⟩ hkc
    have hch := hX.rf.chO hc
    have hil : i < (uC v (14 + c)).length := by omega
    refine B77_9 ⟨_, _, hch, rfl, hX.lst (lt_C hk), _, rx_sizeC hX hk rfl, ?_⟩
    rintro r h' ⟨rfl, rfl⟩
    have hlen : (uC (upC v (14 + c) (mpF un (uC v (14 + c)) i)) (14 + c)).length = (uC v (14 + c)).length := by rw [uC_s, mpF_len]
    have hg : (uC (upC v (14 + c) (mpF un (uC v (14 + c)) i)) (14 + c))[i]'(by rw [hlen]; exact hil) = (uC v (14 + c))[i] := (List.getElem_eq_iff _).mpr (by rw [uC_s]; exact mpF_get hil)
    rw [hlen]
    refine ⟨_, rfl, fun z => absurd z (nI_ge hil (by omega)), fun _ => ⟨_, _, hch, rfl, hX.lst (lt_C hk), _, rx_getC hX hk rfl (by rw [hlen]; exact hil), ?_⟩⟩
    rintro r h2 ⟨a, rfl, rfl, haj, ha⟩
    rw [hg] at ha
    obtain ⟨m, D0, w1, w2, w3⟩ := ha
    have w2 := w2 (by omega)
    subst w2
    refine ⟨_, rfl, _, w1, _, w1, Nat.le_of_ble_eq_true rfl, trivial, ?_⟩
    rintro h5 rfl
    obtain ⟨y1, y2⟩ := hX.wrH hk haj w1 (cpD (D' := -1) (k := 14 + c) w3 w1)
    rw [uC_s, upC_upC, show rSetD (uC v (14 + c))[i] (-1) = un (uC v (14 + c))[i] from rfl, mpF_set hil] at y1
    rw [nI_1]
    exact ih (i + 1) _ (by omega) ⟨xs, y1⟩ (hkc.trans y2)
def fgt (c : Nat) (v : Mu) : Mu := upC (upD v (18 + c) []) (14 + c) ((uC v (14 + c)).map un)
theorem k_fgt {gc : Nat → Nat} {d : Nat} {h : AH} {A : Nat → Nat} {I : Nat → Int32} {v : Mu} {F : Nat} {c : Nat} (hR : RC gc h A I v F) (hc : c < 4) (hl : (uC v (14 + c)).length ≤ 64) : WP gc (d + 4) 77 [.ref (A (30 + c))] h (fun r h' => r = none ∧ RC gc h' A I (fgt c v) F ∧ KC h h') := by
  obtain ⟨xs, hX⟩ := hR
  have hch := hX.rf.chO hc
  refine M77 ⟨_, _, hch, rfl, hX.lst (lt_D (isD_c hc)), _, rx_clrD hX (isD_c hc), ?_⟩
  rintro r h1 ⟨rfl, y1, y2⟩
  refine ⟨rfl, un_loop (v := upD v (18 + c) []) hc hl h1 (fun h' q1 q2 => ⟨rfl, q1, y2.kc.trans q2⟩) _ 0 h1 (Nat.zero_add _) ?_ KC.refl⟩
  rw [mpF_0, upC_id]
  exact ⟨_, y1⟩
def opRb (s : St) (x : Int32) : Int32 × St :=
  if wi x 0 3 then (if s.1 (301 + 10 * x.toNatClampNeg) = 0 then (-3, s) else (nI (uD s.2 (18 + x.toNatClampNeg)).length, (s.1, fgt x.toNatClampNeg s.2))) else (-1, s)
theorem k_rollback {gc : Nat → Nat} {d : Nat} {h : AH} {A : Nat → Nat} {I : Nat → Int32} {v : Mu} {F : Nat} {x : Int32} (hR : RC gc h A I v F) (hb : LB v 360) : WP gc (d + 5) 78 [.ref (A 0), .int x] h (fun r h' => r = some (.int (opRb (I, v) x).1) ∧ RC gc h' A (opRb (I, v) x).2.1 (opRb (I, v) x).2.2 F ∧ KC h h') := by
  obtain ⟨xs, hX⟩ := hR
  have hF := hX.rf
  refine M78 ⟨_, k_isChannel, ?_⟩
  rintro r h' ⟨rfl, rfl⟩
  refine ⟨_, rfl, fun z => B78_9 ?_, fun z => ?_⟩
  rotate_left
  · unfold opRb
    rw [show wi x 0 3 = false from b2i_z.mp z, if_neg (by decide)]
    exact ⟨rfl, ⟨xs, hX⟩, KC.refl⟩
  have z : wi x 0 3 = true := b2i_nz z
  obtain ⟨c, hc, rfl⟩ := wi_rng (n := 3) (by decide) z
  have ho : opRb (I, v) (nI c) = (if I (301 + 10 * c) = 0 then (-3, (I, v)) else (nI (uD v (18 + c)).length, (I, fgt c v))) := by
    unfold opRb
    rw [z, if_pos rfl, nI_clamp (by omega)]
  rw [ho]
  have hH := hb.1 c hc
  obtain ⟨t, vs, g1, g2, g3, g4⟩ := hF.chA hc
  have hch := hF.chO hc
  refine ⟨_, _, hF.2.1, rfl, t, vs, _, g1, g2, g3, g4, _, _, hch, rfl, fun z2 => B78_24 ⟨_, _, hF.2.1, rfl, t, vs, _, g1, g2, g3, g4, _, _, hch, rfl, hX.lst (lt_D (isD_c hc)), _, rx_sizeD hX (isD_c hc) rfl, ?_⟩, fun z2 => ?_⟩
  · rintro r h2 ⟨rfl, rfl⟩
    refine ⟨_, rfl, _, _, hF.2.1, rfl, t, vs, _, g1, g2, g3, g4, ⟨_, hch⟩, _, k_fgt ⟨xs, hX⟩ hc (by omega), ?_⟩
    rintro r h3 ⟨rfl, q1, q2⟩
    rw [if_neg z2]
    exact ⟨rfl, rfl, q1, q2⟩
  · rw [if_pos z2]
    exact ⟨rfl, ⟨xs, hX⟩, KC.refl⟩
/-- one deed -/
def opDd (c k : Nat) (s : St) : St := match (uD s.2 (18 + c))[k]? with
  | none => s
  | some dd => match dd.2.1 with
    | none => (s.1, smF c (isDd (nI k)) dd.2.2 (uC s.2 (14 + c)).length 0 s.2)
    | some m => if isEx s.1 dd.1 then opRt s dd.1.toNatClampNeg m else s
def ddF (c : Nat) : Nat → Nat → St → St
  | 0, _, s => s
  | n + 1, k, s => ddF c n (k + 1) (opDd c k s)
theorem dd_keep {s : St} {c k b : Nat} (hc : c < 4) (hn : NOK s.1) (hcq : CQ s.2) (hb : LB s.2 b) : NOK (opDd c k s).1 ∧ CQ (opDd c k s).2 ∧ LB (opDd c k s).2 (b + 6) ∧ (opDd c k s).2.1 = s.2.1 ∧ (opDd c k s).2.2.2 = s.2.2.2 := by
  cases hg : (uD s.2 (18 + c))[k]? with
  | none =>
    have ho : opDd c k s = s := by
      unfold opDd
      rw [hg]
    rw [ho]
    exact ⟨hn, hcq, hb.mono (by omega), rfl, rfl⟩
  | some dd =>
    obtain ⟨e, om, how⟩ := dd
    cases om with
    | none =>
      have ho : opDd c k s = (s.1, smF c (isDd (nI k)) how (uC s.2 (14 + c)).length 0 s.2) := by
        unfold opDd
        rw [hg]
      rw [ho]
      obtain ⟨e1, e2, e3⟩ := sm_keep (c := c) (b := b) (P := isDd (nI k)) (how := how) hc (uC s.2 (14 + c)).length 0 s.2 hcq hb
      exact ⟨hn, e1, e2.mono (by omega), e3.1, e3.2⟩
    | some m =>
      by_cases hx : isEx s.1 e = true
      · have ho : opDd c k s = opRt s e.toNatClampNeg m := by
          unfold opDd
          rw [hg]
          dsimp only
          rw [if_pos hx]
        rw [ho]
        have hsm := Sm.rt (e := e.toNatClampNeg) (m := m) 6 0 s (by omega)
        have h1 := CQ.rt (e := e.toNatClampNeg) (m := m) 6 0 s (by omega) hcq
        have h2 := LB.rt (e := e.toNatClampNeg) (m := m) 6 0 s b (by omega) hn hb
        exact ⟨hsm.nok hn, h1, h2, hsm.2.1, hsm.2.2.1⟩
      · have ho : opDd c k s = s := by
          unfold opDd
          rw [hg]
          dsimp only
          rw [if_neg hx]
        rw [ho]
        exact ⟨hn, hcq, hb.mono (by omega), rfl, rfl⟩
theorem k_dd {gc : Nat → Nat} {d : Nat} {h : AH} {A : Nat → Nat} {I : Nat → Int32} {v : Mu} {F : Nat} {c k b : Nat} (hR : RC gc h A I v (F + 6)) (hc : c < 4) (hk : k < (uD v (18 + c)).length) (hB : (uB v 0).length ≤ 64) (hn : NOK I) (hcq : CQ v) (hb : LB v b) (hb2 : b ≤ 424) : WP gc (d + 10) 76 [.ref (A 0), .ref (A (30 + c)), .int (nI k)] h (fun r h' => r = none ∧ RC gc h' A (opDd c k (I, v)).1 (opDd c k (I, v)).2 F ∧ KC h h') := by
  obtain ⟨xs, hX⟩ := hR
  have hch := hX.rf.chO hc
  have hkd := isD_c hc
  have ho : opDd c k (I, v) = (match (uD v (18 + c))[k]? with
  | none => (I, v)
  | some dd => match dd.2.1 with
    | none => (I, smF c (isDd (nI k)) dd.2.2 (uC v (14 + c)).length 0 v)
    | some m => if isEx I dd.1 then opRt (I, v) dd.1.toNatClampNeg m else (I, v)) := rfl
  rw [List.getElem?_eq_getElem hk] at ho
  refine M76 ⟨_, _, hch, rfl, hX.lst (lt_D hkd), _, rx_getD hX hkd rfl hk, ?_⟩
  rintro r h2 ⟨a, rfl, rfl, -, ha⟩
  generalize (uD v (18 + c))[k] = dd at ha ho
  obtain ⟨e, om, how⟩ := dd
  cases om with
  | none =>
    have ha : at_ h2 a 5 [.int e, .null, .int how] := ha
    refine ⟨_, rfl, _, ha, Or.inl ⟨_, ha, rfl, _, _, ha, rfl, ⟨_, hX.rf.2.1⟩, _, k_sm ⟨xs, hX⟩ hc (b := b) (by omega) hcq hb, ?_⟩⟩
    rintro r h3 ⟨rfl, q1, q2⟩
    refine ⟨rfl, B76_55 ?_⟩
    rw [ho]
    exact ⟨rfl, RC.le q1 (by omega), q2⟩
  | some m =>
    obtain ⟨ma, ha, hm⟩ := ha
    refine ⟨_, rfl, _, ha, Or.inr ⟨_, _, ha, rfl, B76_32 ⟨_, _, ha, rfl, ⟨_, hX.rf.2.1⟩, _, k_isE hX.rf, ?_⟩⟩⟩
    rintro r h3 ⟨rfl, rfl⟩
    refine ⟨_, rfl, fun z => B76_55 ?_, fun z => ⟨_, _, ha, rfl, Or.inr ⟨_, _, ha, rfl, ⟨_, hX.rf.2.1⟩, ?_⟩⟩⟩
    · rw [ho]
      dsimp only
      rw [b2i_z.mp z, if_neg (by decide)]
      exact ⟨rfl, RC.le ⟨xs, hX⟩ (by omega), KC.refl⟩
    · have z := b2i_nz z
      dsimp only at ho
      rw [z, if_pos rfl] at ho
      obtain ⟨e', he, rfl⟩ := isEx_rng z
      rw [nI_clamp (by omega)] at ho
      refine ⟨_, k_route (b := b) ⟨xs, hX⟩ he hB hn hb hb2 hm, ?_⟩
      rintro r h4 ⟨rfl, q1, q2, -⟩
      refine ⟨rfl, B76_55 ?_⟩
      rw [ho]
      exact ⟨rfl, q1, q2⟩
theorem cm_loop {gc : Nat → Nat} {d : Nat} {A : Nat → Nat} {q : PT} {c N : Nat} {x1 : Int32} (hc : c < 4) (hN : N ≤ 4) (h0 : AH) : ∀ n k (h : AH) (I : Nat → Int32) (v : Mu) (F b : Nat), k + n = N → (uD v (18 + c)).length = N → RC gc h A I v (F + 6 * n) → (uB v 0).length ≤ 64 → NOK I → CQ v → LB v b → b + 6 * n ≤ 424 → KC h0 h → (∀ h' x4, RC gc h' A (ddF c n k (I, v)).1 (ddF c n k (I, v)).2 F → KC h0 h' → TT gc (d + 10) 75 q 56 [.ref (A 0), .int x1, .ref (A (30 + c)), .int (nI N), .int x4] [] h') → TT gc (d + 10) 75 q 37 [.ref (A 0), .int x1, .ref (A (30 + c)), .int (nI N), .int (nI k)] [] h := by
  intro n
  induction n with
  | zero =>
    intro k h I v F b hk hD hR hB hn hcq hb hb2 hkc hq
    exact B75_37 ⟨fun _ => hq h _ hR hkc, fun z => absurd (nI_le (by omega) (by omega)) z⟩
  | succ n ih =>
    intro k h I v F b hk hD hR hB hn hcq hb hb2 hkc hq
    have hR : RC gc h A I v (F + 6 * n + 6) := by rw [show F + 6 * n + 6 = F + 6 * (n + 1) by omega]; exact hR
    refine B75_37 ⟨fun z => absurd z (nI_ge (by omega) (by omega)), fun _ => ⟨⟨_, hR.rf.2.1⟩, _, k_dd (b := b) hR hc (by omega) hB hn hcq hb (by omega), ?_⟩⟩
    rintro r h2 ⟨rfl, q1, q2⟩
    obtain ⟨e1, e2, e3, e4, e5⟩ := dd_keep (s := (I, v)) (k := k) hc hn hcq hb
    refine ⟨rfl, ?_⟩
    rw [nI_1]
    refine ih (k + 1) h2 _ _ F (b + 6) (by omega) ?_ q1 ?_ e1 e2 e3 (by omega) (hkc.trans q2) (fun h' x4 w1 w2 => hq h' x4 w1 w2)
    · rw [show uD (opDd c k (I, v)).2 (18 + c) = uD v (18 + c) from congrFun (congrArg Prod.snd e5) _]
      exact hD
    · rw [show uB (opDd c k (I, v)).2 0 = uB v 0 from congrFun e4 0]
      exact hB
theorem dF_keep {c : Nat} (hc : c < 4) : ∀ n k (s : St) b, NOK s.1 → CQ s.2 → LB s.2 b → NOK (ddF c n k s).1 ∧ CQ (ddF c n k s).2 ∧ LB (ddF c n k s).2 (b + 6 * n) ∧ (ddF c n k s).2.1 = s.2.1 ∧ (ddF c n k s).2.2.2 = s.2.2.2 := by
  intro n
  induction n with
  | zero => intro k s b h1 h2 h3; exact ⟨h1, h2, h3, rfl, rfl⟩
  | succ n ih =>
    intro k s b h1 h2 h3
    obtain ⟨e1, e2, e3, e4, e5⟩ := dd_keep (s := s) (k := k) hc h1 h2 h3
    obtain ⟨f1, f2, f3, f4, f5⟩ := ih (k + 1) (opDd c k s) (b + 6) e1 e2 e3
    refine ⟨f1, f2, ?_, f4.trans e4, f5.trans e5⟩
    rw [show b + 6 * (n + 1) = b + 6 + 6 * n by omega]
    exact f3
theorem LB.fgt {v : Mu} {b c : Nat} (h : LB v b) (hc : c < 4) : LB (fgt c v) b := by
  have h1 : LB (upD v (18 + c) []) b := h
  exact h1.mapH (f := un) hc (fun _ => rfl)
theorem CQ.fgt {v : Mu} {c : Nat} (h : CQ v) (hc : c < 4) : CQ (fgt c v) := by
  have h1 : CQ (upD v (18 + c) []) := h
  exact h1.mapH (f := un) hc (fun _ => rfl)
def opCm (s : St) (x : Int32) : Int32 × St :=
  if wi x 0 3 then (if s.1 (301 + 10 * x.toNatClampNeg) = 0 then (-3, s) else (nI (uD s.2 (18 + x.toNatClampNeg)).length, opRl ((ddF x.toNatClampNeg (uD s.2 (18 + x.toNatClampNeg)).length 0 s).1, fgt x.toNatClampNeg (ddF x.toNatClampNeg (uD s.2 (18 + x.toNatClampNeg)).length 0 s).2))) else (-1, s)
theorem k_commit {gc : Nat → Nat} {d : Nat} {h : AH} {A : Nat → Nat} {I : Nat → Int32} {v : Mu} {F : Nat} {x : Int32} (hR : RC gc h A I v (F + 45)) (hB : (uB v 0).length ≤ 64) (hn : NOK I) (hcq : CQ v) (hb : LB v 360) (hD : ∀ c, c < 4 → (uD v (18 + c)).length ≤ 4) : WP gc (d + 11) 75 [.ref (A 0), .int x] h (fun r h' => r = some (.int (opCm (I, v) x).1) ∧ RC gc h' A (opCm (I, v) x).2.1 (opCm (I, v) x).2.2 F ∧ KC h h') := by
  obtain ⟨xs, hX⟩ := hR
  have hF := hX.rf
  refine M75 ⟨_, k_isChannel, ?_⟩
  rintro r h' ⟨rfl, rfl⟩
  refine ⟨_, rfl, fun z => B75_9 ?_, fun z => ?_⟩
  rotate_left
  · unfold opCm
    rw [show wi x 0 3 = false from b2i_z.mp z, if_neg (by decide)]
    exact ⟨rfl, RC.le ⟨xs, hX⟩ (by omega), KC.refl⟩
  have z : wi x 0 3 = true := b2i_nz z
  obtain ⟨c, hc, rfl⟩ := wi_rng (n := 3) (by decide) z
  have ho : opCm (I, v) (nI c) = (if I (301 + 10 * c) = 0 then (-3, (I, v)) else (nI (uD v (18 + c)).length, opRl ((ddF c (uD v (18 + c)).length 0 (I, v)).1, fgt c (ddF c (uD v (18 + c)).length 0 (I, v)).2))) := by
    unfold opCm
    rw [z, if_pos rfl, nI_clamp (by omega)]
  rw [ho]
  obtain ⟨t, vs, g1, g2, g3, g4⟩ := hF.chA hc
  have hch := hF.chO hc
  have hDc := hD c hc
  refine ⟨_, _, hF.2.1, rfl, t, vs, _, g1, g2, g3, g4, _, _, hch, rfl, fun z2 => B75_26 ⟨_, _, hch, rfl, hX.lst (lt_D (isD_c hc)), _, rx_sizeD hX (isD_c hc) rfl, ?_⟩, fun z2 => ?_⟩
  · rintro r h2 ⟨rfl, rfl⟩
    rw [if_neg z2]
    refine ⟨_, rfl, cm_loop (N := (uD v (18 + c)).length) hc hDc h2 (uD v (18 + c)).length 0 h2 I v (F + 21) 360 (by omega) rfl (RC.le ⟨xs, hX⟩ (by omega)) hB hn hcq hb (by omega) KC.refl (fun h3 x4 w1 w2 => ?_)⟩
    obtain ⟨f1, f2, f3, f4, f5⟩ := dF_keep hc (uD v (18 + c)).length 0 (I, v) 360 hn hcq hb
    have f3 := f3.mono (show 360 + 6 * (uD v (18 + c)).length ≤ 384 by omega)
    have hH := f3.1 c hc
    refine B75_56 ⟨⟨_, w1.rf.chO hc⟩, _, k_fgt w1 hc (by omega), ?_⟩
    rintro r h4 ⟨rfl, y1, y2⟩
    refine ⟨rfl, ⟨_, y1.rf.2.1⟩, _, k_rl (b := 384) y1 ?_ f1 (f2.fgt hc) (f3.fgt hc) (by omega), ?_⟩
    · have : uB (fgt c (ddF c (uD v (18 + c)).length 0 (I, v)).2) 0 = uB v 0 := congrFun f4 0
      rw [this]
      exact hB
    rintro r h5 ⟨rfl, y3, y4⟩
    exact ⟨rfl, rfl, y3, (w2.trans y2).trans y4⟩
  · rw [if_pos z2]
    exact ⟨rfl, RC.le ⟨xs, hX⟩ (by omega), KC.refl⟩
