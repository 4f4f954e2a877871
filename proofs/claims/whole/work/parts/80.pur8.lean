/-! close, drop, crash keep what holds -/
theorem clF_o {c : Nat} (hc : c < 4) : ∀ n (v : Mu), CQ v → ∀ k, 14 ≤ k → k ≠ 14 + c → uC (clF c n v) k = uC v k := by
  intro n
  induction n with
  | zero => intro v _ k _ _; rfl
  | succ n ih =>
    intro v hcq k hk hkn
    have hs : clF c (n + 1) v = (match uC v (14 + c) with
      | [] => v
      | r :: l => clF c n (bk (upC v (14 + c) l) r)) := rfl
    rw [hs]
    cases hu : uC v (14 + c) with
    | nil => rfl
    | cons r l =>
      dsimp only
      obtain ⟨w, hw6, hwr⟩ := hcq.1 (14 + c) (isC_c hc) r (by rw [hu]; exact List.mem_cons_self)
      have hcb := (hcq.er (j := 0) hc).bkk hw6 hwr
      rw [show (uC v (14 + c)).eraseIdx 0 = l by rw [hu]; rfl] at hcb
      rw [ih _ hcb k hk hkn]
      unfold bk
      rw [hwr, nI_clamp (by omega), uC_n (by omega), uC_n hkn]
theorem v_cc {P T c : Nat} {s : St} (h : IV P T s) (hc : c < 4) : IV P T (opCc c s) := by
  have m1 := MI.clFk hc (uC s.2 (14 + c)).length s h.1
  obtain ⟨g1, g2, g3⟩ := cl_keep hc (uC s.2 (14 + c)).length s.2 h.1.2.2.1 h.1.2.2.2.1
  have go := clF_o hc (uC s.2 (14 + c)).length s.2 h.1.2.2.1
  have hC : (opCc c s).2.2.1 = (clF c (uC s.2 (14 + c)).length s.2).2.1 := cc_C (I := s.1) (v := s.2) hc h.1.2.2.1 h.1.2.2.2.1
  have hsv := Sv.clFk (c := c) (uC s.2 (14 + c)).length s.2
  have hB : (opCc c s).2.1 = s.2.1 := by
    show (rmA (nI c) 6 0 (clF c (uC s.2 (14 + c)).length s.2)).1 = _
    rw [(rmA_eq 6 0 _).1, hsv.1]
  have hR : ∀ q, q < 6 → uR (opCc c s).2 (8 + q) = rmN (nI c) (uR s.2 (8 + q)) := fun q hq6 => by
    show uR (rmA (nI c) 6 0 (clF c (uC s.2 (14 + c)).length s.2)) (8 + q) = _
    rw [rmA_at, if_pos (by omega)]
    rw [show uR (clF c (uC s.2 (14 + c)).length s.2) (8 + q) = uR s.2 (8 + q) from congrFun (congrArg Prod.fst hsv.2) _]
  have hDd : ∀ k, uD (opCc c s).2 k = uD (upD s.2 (18 + c) []) k := fun k => by
    show va_up (rmA (nI c) 6 0 (clF c (uC s.2 (14 + c)).length s.2)).2.2.2 (18 + c) [] k = va_up s.2.2.2.2 (18 + c) [] k
    rw [(rmA_eq 6 0 _).2.2, hsv.2]
  have hI : (opCc c s).1 = rstI c s.1 := rfl
  have en : ∀ j, ¬ (300 + 10 * c ≤ j ∧ j ≤ 302 + 10 * c) → rstI c s.1 j = s.1 j := fun j hj => by
    unfold rstI
    rw [pk_un (by omega), pk_un (by omega), pk_un (by omega)]
  have e0 : rstI c s.1 (300 + 10 * c) = 12 := by
    unfold rstI
    rw [pk_un (by omega), pk_un (by omega), pk_us]
  have e2 : rstI c s.1 (302 + 10 * c) = 0 := pk_us
  have hH : uC (opCc c s).2 (14 + c) = [] := by
    rw [show uC (opCc c s).2 (14 + c) = uC (clF c (uC s.2 (14 + c)).length s.2) (14 + c) from congrFun hC _, g3, List.drop_length]
  have hO : ∀ c', c' < 4 → c' ≠ c → uC (opCc c s).2 (14 + c') = uC s.2 (14 + c') := fun c' hc' hz => by
    rw [show uC (opCc c s).2 (14 + c') = uC (clF c (uC s.2 (14 + c)).length s.2) (14 + c') from congrFun hC _]
    exact go _ (by omega) (by omega)
  have m2 : MI P 360 (s.1, (opCc c s).2) := m1.cp (by rw [hB]; exact hsv.1.symm) (CQ.cg hC m1.2.2.1) (LB.cg hC m1.2.2.2.1) (m1.2.2.2.2.1.cg (fun k _ => congrFun hC k)) (fun k hk r hr => m1.2.2.2.2.2.1 k hk r (by rw [← show uC (opCc c s).2 k = uC (clF c (uC s.2 (14 + c)).length s.2) k from congrFun hC k]; exact hr))
  have hL : uC (opCc c s).2 1 = [] := by
    rw [show uC (opCc c s).2 1 = uC (clF c (uC s.2 (14 + c)).length s.2) 1 from congrFun hC _]
    have key : ∀ n (v : Mu), CQ v → uC (clF c n v) 1 = uC v 1 := by
      intro n
      induction n with
      | zero => intro v _; rfl
      | succ n ih =>
        intro v hcq
        have hs : clF c (n + 1) v = (match uC v (14 + c) with
          | [] => v
          | r :: l => clF c n (bk (upC v (14 + c) l) r)) := rfl
        rw [hs]
        cases hu : uC v (14 + c) with
        | nil => rfl
        | cons r l =>
          dsimp only
          obtain ⟨w, hw6, hwr⟩ := hcq.1 (14 + c) (isC_c hc) r (by rw [hu]; exact List.mem_cons_self)
          have hcb := (hcq.er (j := 0) hc).bkk hw6 hwr
          rw [show (uC v (14 + c)).eraseIdx 0 = l by rw [hu]; rfl] at hcb
          rw [ih _ hcb]
          unfold bk
          rw [hwr, nI_clamp (by omega), uC_n (by omega), uC_n (by omega)]
    rw [key _ _ h.1.2.2.1]
    exact h.2.1
  obtain ⟨a1, a2, a3, a4, a5, a6⟩ := h
  refine ⟨?_, hL, fun q hq6 => ?_, fun c' hc' => ?_, fun c' hc' => ?_, fun c' hc' => ?_⟩
  · show MI P 360 (rstI c s.1, (s.1, (opCc c s).2).2)
    refine MI.I (s := (s.1, (opCc c s).2)) m2 (fun q hq6 => ?_) (fun e he hz => ?_) (en _ (by omega)) (fun c' hc' => ?_) (fun q hq6 w => ?_) (fun e he w => ?_)
    · rw [en _ (by omega)]; exact a1.1 q hq6
    · rw [en _ (by omega)] at hz ⊢; exact a1.2.1 e he hz
    · by_cases hz : c' = c
      · subst hz; exact Or.inr hH
      · exact Or.inl (en _ (by omega))
    · rw [en _ (by omega)]; exact w
    · rw [en _ (by omega)]; exact w
  · rw [hR q hq6, hI, en _ (by omega)]
    obtain ⟨w1, w2, w3⟩ := a3 q hq6
    have hsub : (rmN (nI c) (uR s.2 (8 + q))).Sublist (uR s.2 (8 + q)) := by
      unfold rmN
      split
      · exact er_sub
      · exact List.Sublist.refl _
    refine ⟨fun x hx => w1 x (hsub.subset hx), fun c' hc' => Nat.le_trans (hsub.countP_le) (w2 c' hc'), fun z => ?_⟩
    have := w3 z
    rw [this] at hsub ⊢
    exact List.eq_nil_of_sublist_nil hsub
  · obtain ⟨u1, u2, u3, u4⟩ := a4 c' hc'
    rw [hDd, hI]
    by_cases hz : c' = c
    · subst hz
      rw [uD_s, hH]
      exact ⟨Nat.zero_le _, fun _ => rfl, fun r hr => absurd hr List.not_mem_nil, fun d hd => absurd hd List.not_mem_nil⟩
    · rw [uD_n (by omega), hO c' hc' hz, en _ (by omega)]
      exact ⟨u1, u2, u3, u4⟩
  · rw [hI]
    by_cases hz : c' = c
    · subst hz; exact ⟨12, Nat.le_refl _, e0⟩
    · rw [en _ (by omega)]; exact a5 c' hc'
  · rw [hI]
    by_cases hz : c' = c
    · subst hz; exact ⟨0, Nat.zero_le _, e2⟩
    · rw [en _ (by omega)]; exact a6 c' hc'
theorem v_cl {P T : Nat} {s : St} {x : Int32} (h : IV P T s) : IV P T (opCl s x).2 := by
  unfold opCl
  split
  · rename_i hc
    obtain ⟨c, hc4, rfl⟩ := wi_rng (n := 3) (by decide) hc
    rw [nI_clamp (by omega)]
    exact v_cc h hc4
  · exact h
theorem LB.sub {v w : Mu} {b : Nat} (h : LB v b) (hs : ∀ k, (uC w k).Sublist (uC v k)) : LB w b := by
  refine ⟨fun c hc => Nat.le_trans (hs _).length_le (h.1 c hc), fun q hq6 => ?_, ?_⟩
  · have h1 := (hs (2 + q)).length_le
    have h2 : hq w q ≤ hq v q := sumTo_le2 4 (fun c _ => (hs (14 + c)).countP_le)
    have := h.2.1 q hq6
    omega
  · have h1 := (hs 1).length_le
    have h2 : sw w ≤ sw v := sumTo_le2 6 (fun c _ => (hs (2 + c)).length_le)
    have h3 : sh w ≤ sh v := sumTo_le2 4 (fun c _ => (hs (14 + c)).length_le)
    have := h.2.2
    omega
theorem CQ.sub {v w : Mu} (h : CQ v) (hs : ∀ k, (uC w k).Sublist (uC v k)) : CQ w := ⟨fun k hk r hr => h.1 k hk r ((hs k).subset hr), fun q hq6 r hr => h.2 q hq6 r ((hs _).subset hr)⟩
theorem fl_sub {v w : Mu} (hs : ∀ k, (uC w k).Sublist (uC v k)) : ∀ n, (fl w n).Sublist (fl v n) := by
  intro n
  induction n with
  | zero => exact List.Sublist.refl _
  | succ n ih =>
    show (fl w n ++ _).Sublist (fl v n ++ _)
    refine ih.append ?_
    split
    · exact (hs n).map (mp n)
    · exact List.Sublist.refl _
theorem MI.sub {P b : Nat} {s : St} {J : Nat → Int32} {w : Mu} (h : MI P b s) (hs : ∀ k, (uC w k).Sublist (uC s.2 k)) (h1 : NOK J) (h2 : NT J) (j0 : J 0 = s.1 0) (j3 : ∀ c, c < 4 → J (302 + 10 * c) = s.1 (302 + 10 * c)) (h6 : OKv J w) (h7 : BI J w) : MI P b (J, w) := by
  obtain ⟨-, -, h3, h4, h5, -, -, p, h8, h9⟩ := h
  refine ⟨h1, h2, h3.sub hs, h4.sub hs, ⟨fun q hq6 => (h5.1 q hq6).sub (hs _), fun c hc => ⟨(h5.2.1 c hc).1.sub (hs _), fun r hr => ?_⟩, ?_⟩, h6, h7, p, h8, j0.trans h9⟩
  · show 0 < kT r ∧ kT r ≤ (J (302 + 10 * c)).toInt
    rw [j3 c hc]
    exact (h5.2.1 c hc).2 r ((hs _).subset hr)
  · show FP (J 0).toInt ((flat w).map cP)
    rw [j0]
    exact h5.2.2.sub ((fl_sub hs 18).map cP)
theorem lgA_at {w : Nat} : ∀ n c (v : Mu) k, uC (lgA w n c v) k = if 14 + c ≤ k ∧ k < 14 + c + n then (uC v k).filter (fun y => !pq w y) else uC v k := by
  intro n
  induction n with
  | zero => intro c v k; rw [if_neg (by omega)]; rfl
  | succ n ih =>
    intro c v k
    show uC (lgA w n (c + 1) _) k = _
    rw [ih]
    by_cases hz : k = 14 + c
    · subst hz
      rw [if_neg (by omega), if_pos (by omega), uC_s]
    · rw [uC_n hz]
      by_cases h1 : 14 + (c + 1) ≤ k ∧ k < 14 + (c + 1) + n
      · rw [if_pos h1, if_pos (by omega)]
      · rw [if_neg h1, if_neg (by omega)]
theorem lgA_o {w : Nat} : ∀ n c (v : Mu), (lgA w n c v).1 = v.1 ∧ (lgA w n c v).2.2 = v.2.2 := by
  intro n
  induction n with
  | zero => intro c v; exact ⟨rfl, rfl⟩
  | succ n ih => intro c v; exact ih (c + 1) _
theorem fgQ_C {w : Nat} {s : St} {k : Nat} (hw : w < 6) : uC (fgQ w s).2.2 k = if k = 2 + w then [] else if 14 ≤ k ∧ k < 18 then (uC s.2 k).filter (fun y => !pq w y) else uC s.2 k := by
  show uC (upC (lgA w 4 0 (upB s.2 0 _)) (2 + w) []) k = _
  by_cases hz : k = 2 + w
  · subst hz
    rw [uC_s, if_pos rfl]
  · rw [uC_n hz, if_neg hz, lgA_at]
    rfl
theorem fgQ_B {w : Nat} {s : St} : uB (fgQ w s).2.2 0 = (uB s.2 0).filter (fun y => !bQ (nI w) y) := by
  show (lgA w 4 0 (upB s.2 0 _)).1 0 = _
  rw [(lgA_o 4 0 _).1]
  exact uB_s
theorem fgQ_R {w : Nat} {s : St} {k : Nat} : uR (fgQ w s).2.2 k = if k = 8 + w then [] else uR s.2 k := by
  show va_up (lgA w 4 0 (upB s.2 0 _)).2.2.1 (8 + w) [] k = _
  rw [(lgA_o 4 0 _).2]
  by_cases hz : k = 8 + w
  · subst hz; rw [va_up_self, if_pos rfl]
  · rw [va_up_ne _ _ hz, if_neg hz]
    rfl
theorem fgQ_D {w : Nat} {s : St} {k : Nat} : uD (fgQ w s).2.2 k = uD s.2 k := by
  show (lgA w 4 0 (upB s.2 0 _)).2.2.2 k = _
  rw [(lgA_o 4 0 _).2]
  rfl
theorem fgQ_sub {w : Nat} {s : St} (hw : w < 6) (k : Nat) : (uC (fgQ w s).2.2 k).Sublist (uC s.2 k) := by
  rw [fgQ_C hw]
  split
  · exact List.nil_sublist _
  · split
    · exact List.filter_sublist
    · exact List.Sublist.refl _
theorem v_fgQ {P T w : Nat} {s : St} (h : IV P T s) (hw : w < 6) : IV P T (fgQ w s).2 := by
  obtain ⟨a1, a2, a3, a4, a5, a6⟩ := h
  have en : ∀ j, j ≠ 200 + 10 * w → (fgQ w s).2.1 j = s.1 j := fun j hj => pk_un hj
  have hC := fun k => fgQ_C (s := s) (k := k) hw
  have hB := fgQ_B (w := w) (s := s)
  have hR := fun k => fgQ_R (w := w) (s := s) (k := k)
  have hD := fun k => fgQ_D (w := w) (s := s) (k := k)
  have hS := fgQ_sub (s := s) hw
  show IV P T ((fgQ w s).2.1, (fgQ w s).2.2)
  generalize (fgQ w s).2.1 = J at en
  generalize (fgQ w s).2.2 = V at hC hB hR hD hS
  have hL : uC V 1 = [] := by
    have := hS 1
    rw [a2] at this
    exact List.eq_nil_of_sublist_nil this
  refine ⟨a1.sub hS (fun q hq6 => ?_) (fun e he hz => ?_) (en _ (by omega)) (fun c hc => en _ (by omega)) (fun k hk r hr => ?_) ⟨?_, fun b hb => ?_⟩, hL, fun q hq6 => ?_, fun c hc => ?_, fun c hc => ?_, fun c hc => ?_⟩
  · rw [en _ (by omega)]; exact a1.1 q hq6
  · rw [en _ (by omega)] at hz ⊢; exact a1.2.1 e he hz
  · obtain ⟨w1, w2, q', w3, w4, w5⟩ := a1.2.2.2.2.2.1 k hk r ((hS k).subset hr)
    refine ⟨w1, w2, q', w3, w4, ?_⟩
    have hne : q' ≠ w := by
      rintro rfl
      rw [hC] at hr
      by_cases hz : k = 2 + q'
      · rw [if_pos hz] at hr; exact absurd hr List.not_mem_nil
      · rw [if_neg hz] at hr
        by_cases hz2 : 14 ≤ k ∧ k < 18
        · rw [if_pos hz2] at hr
          have := (List.mem_filter.mp hr).2
          rw [show pq q' r = true from decide_eq_true w4] at this
          cases this
        · rw [if_neg hz2] at hr
          by_cases hz3 : k = 1
          · subst hz3
            rw [a2] at hr
            exact absurd hr List.not_mem_nil
          · unfold isC at hk
            obtain ⟨p, rfl⟩ : ∃ p, k = 2 + p := ⟨k - 2, by omega⟩
            have := a1.2.2.1.2 p (by omega) r hr
            rw [this] at w4
            have := (nI_eq (by omega) (by omega)).mp w4
            omega
    rw [en _ (by omega)]
    exact w5
  · show (uB V 0).length ≤ 24
    rw [hB]
    exact Nat.le_trans (List.length_filter_le _ _) a1.2.2.2.2.2.2.1.1
  · rw [hB] at hb
    obtain ⟨hb1, hb2⟩ := List.mem_filter.mp hb
    obtain ⟨w1, ⟨e, w2, w3, w4⟩, q', w5, w6, w7⟩ := a1.2.2.2.2.2.2.1.2 b hb1
    refine ⟨w1, ⟨e, w2, w3, by rw [en _ (by omega)]; exact w4⟩, q', w5, w6, ?_⟩
    have : q' ≠ w := by
      rintro rfl
      rw [show bQ (nI q') b = true from decide_eq_true w6] at hb2
      cases hb2
    rw [en _ (by omega)]
    exact w7
  · obtain ⟨w1, w2, w3⟩ := a3 q hq6
    show (∀ x, x ∈ uR V (8 + q) → _) ∧ (∀ c, _ → (uR V (8 + q)).countP _ ≤ 1) ∧ (J (200 + 10 * q) = 0 → uR V (8 + q) = [])
    rw [hR]
    by_cases hz : 8 + q = 8 + w
    · rw [if_pos hz]
      exact ⟨fun x hx => absurd hx List.not_mem_nil, fun c hc => Nat.zero_le _, fun _ => rfl⟩
    · rw [if_neg hz, en _ (by omega)]
      exact ⟨w1, w2, w3⟩
  · obtain ⟨u1, u2, u3, u4⟩ := a4 c hc
    show (uD V (18 + c)).length ≤ 4 ∧ (J (301 + 10 * c) = 0 → uD V (18 + c) = []) ∧ (∀ r, r ∈ uC V (14 + c) → _ ∨ ∃ j, j < (uD V (18 + c)).length ∧ _) ∧ ∀ d, d ∈ uD V (18 + c) → _
    rw [hD, en _ (by omega)]
    exact ⟨u1, u2, fun r hr => u3 r ((hS _).subset hr), u4⟩
  · show ∃ p, p ≤ 12 ∧ J (300 + 10 * c) = nI p
    rw [en _ (by omega)]; exact a5 c hc
  · show ∃ t, t ≤ T ∧ J (302 + 10 * c) = nI t
    rw [en _ (by omega)]; exact a6 c hc
theorem v_dr {P T : Nat} {s : St} {x : Int32} (h : IV P T s) : IV P T (opDr s x).2 := by
  unfold opDr
  split
  · rename_i hc
    obtain ⟨q, hq6, rfl, hd⟩ := isQu_dec hc
    rw [nI_clamp (by omega)]
    exact v_fgQ h hq6
  · exact h
theorem v_fgE {P T e : Nat} {s : St} (h : IV P T s) (he : e < 5) : IV P T (fgE e s) := by
  obtain ⟨a1, a2, a3, a4, a5, a6⟩ := h
  have en : ∀ j, j ≠ 100 + 10 * e → (fgE e s).1 j = s.1 j := fun j hj => pk_un hj
  have e0 : (fgE e s).1 (100 + 10 * e) = 0 := pk_us
  have hB : uB (fgE e s).2 0 = (uB s.2 0).filter (fun y => !bE (nI e) y) := uB_s
  have hV : (fgE e s).2.2 = s.2.2 := rfl
  show IV P T ((fgE e s).1, (fgE e s).2)
  generalize (fgE e s).1 = J at en e0
  generalize (fgE e s).2 = V at hB hV
  have hC : ∀ k, uC V k = uC s.2 k := fun k => congrFun (congrArg Prod.fst hV) k
  have hR : ∀ k, uR V k = uR s.2 k := fun k => congrFun (congrArg (fun z => z.2.1) hV) k
  have hD : ∀ k, uD V k = uD s.2 k := fun k => congrFun (congrArg (fun z => z.2.2) hV) k
  refine ⟨a1.sub (fun k => by rw [hC]; exact List.Sublist.refl _) (fun q hq6 => ?_) (fun i hi hz => ?_) (en _ (by omega)) (fun c hc => en _ (by omega)) (fun k hk r hr => ?_) ⟨?_, fun b hb => ?_⟩, ?_, fun q hq6 => ?_, fun c hc => ?_, fun c hc => ?_, fun c hc => ?_⟩
  · rw [en _ (by omega)]; exact a1.1 q hq6
  · by_cases hie : i = e
    · subst hie
      exact absurd e0 hz
    · rw [en _ (by omega)] at hz ⊢; exact a1.2.1 i hi hz
  · rw [hC] at hr
    obtain ⟨w1, w2, q', w3, w4, w5⟩ := a1.2.2.2.2.2.1 k hk r hr
    exact ⟨w1, w2, q', w3, w4, by rw [en _ (by omega)]; exact w5⟩
  · rw [hB]
    exact Nat.le_trans (List.length_filter_le _ _) a1.2.2.2.2.2.2.1.1
  · rw [hB] at hb
    obtain ⟨hb1, hb2⟩ := List.mem_filter.mp hb
    obtain ⟨w1, ⟨i, w2, w3, w4⟩, q', w5, w6, w7⟩ := a1.2.2.2.2.2.2.1.2 b hb1
    have : i ≠ e := by
      rintro rfl
      rw [show bE (nI i) b = true from decide_eq_true w3] at hb2
      cases hb2
    exact ⟨w1, ⟨i, w2, w3, by rw [en _ (by omega)]; exact w4⟩, q', w5, w6, by rw [en _ (by omega)]; exact w7⟩
  · show uC V 1 = []
    rw [hC]; exact a2
  · show (∀ x, x ∈ uR V (8 + q) → _) ∧ (∀ c, _ → (uR V (8 + q)).countP _ ≤ 1) ∧ (J (200 + 10 * q) = 0 → uR V (8 + q) = [])
    rw [hR, en _ (by omega)]; exact a3 q hq6
  · show (uD V (18 + c)).length ≤ 4 ∧ (J (301 + 10 * c) = 0 → uD V (18 + c) = []) ∧ (∀ r, r ∈ uC V (14 + c) → _ ∨ ∃ j, j < (uD V (18 + c)).length ∧ _) ∧ ∀ d, d ∈ uD V (18 + c) → _
    rw [hD, hC, en _ (by omega)]; exact a4 c hc
  · show ∃ p, p ≤ 12 ∧ J (300 + 10 * c) = nI p
    rw [en _ (by omega)]; exact a5 c hc
  · show ∃ t, t ≤ T ∧ J (302 + 10 * c) = nI t
    rw [en _ (by omega)]; exact a6 c hc
theorem v_kpQ {P T w : Nat} {s : St} (h : IV P T s) (hw : w < 6) : IV P T (s.1, kpQ w s.2) := by
  obtain ⟨a1, a2, a3, a4, a5, a6⟩ := h
  have hs : ∀ k, (uC (kpQ w s.2) k).Sublist (uC s.2 k) := fun k => by
    unfold kpQ
    by_cases hz : k = 2 + w
    · subst hz; rw [uC_s]; exact List.filter_sublist
    · rw [uC_n hz]; exact List.Sublist.refl _
  refine ⟨a1.sub hs a1.1 a1.2.1 rfl (fun _ _ => rfl) (fun k hk r hr => a1.2.2.2.2.2.1 k hk r ((hs k).subset hr)) a1.2.2.2.2.2.2.1, ?_, a3, fun c hc => ?_, a5, a6⟩
  · show uC (kpQ w s.2) 1 = []
    unfold kpQ
    rw [uC_n (by omega)]; exact a2
  · obtain ⟨u1, u2, u3, u4⟩ := a4 c hc
    exact ⟨u1, u2, fun r hr => u3 r ((hs _).subset hr), u4⟩
theorem v_ccA {P T : Nat} : ∀ n c (s : St), c + n = 4 → IV P T s → IV P T (ccA n c s) := by
  intro n
  induction n with
  | zero => intro c s _ h; exact h
  | succ n ih => intro c s hc h; exact ih (c + 1) _ (by omega) (v_cc h (by omega))
theorem v_feA {P T : Nat} : ∀ n e (s : St), e + n = 5 → IV P T s → IV P T (feA n e s) := by
  intro n
  induction n with
  | zero => intro e s _ h; exact h
  | succ n ih =>
    intro e s he h
    refine ih (e + 1) _ (by omega) ?_
    split
    · exact v_fgE h (by omega)
    · exact h
theorem v_cqS {P T q : Nat} {s : St} (h : IV P T s) (hq6 : q < 6) : IV P T (cqS q s) := by
  unfold cqS
  split
  · exact v_fgQ h hq6
  · exact h
theorem v_cqA {P T : Nat} : ∀ n q (s : St) g, q + n = 6 → IV P T s → IV P T (cqA n q s g).2 := by
  intro n
  induction n with
  | zero => intro q s g _ h; exact h
  | succ n ih => intro q s g hq6 h; exact ih (q + 1) _ _ (by omega) (v_kpQ (v_cqS h (by omega)) (by omega))
theorem v_cr {P T : Nat} {s : St} (h : IV P T s) : IV P T (opCr s).2 := by
  have h1 := v_ccA 4 0 s rfl h
  unfold opCr
  generalize ccA 4 0 s = s1 at h1
  have h2 := v_feA 5 0 s1 rfl h1
  generalize feA 5 0 s1 = s2 at h2
  have h3 := v_cqA 6 0 s2 0 rfl h2
  exact h3
