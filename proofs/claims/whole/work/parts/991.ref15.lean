/-! the reference: crash -/
theorem Mu_ext {v w : Mu} (h1 : ∀ k, uB v k = uB w k) (h2 : ∀ k, uC v k = uC w k) (h3 : ∀ k, uR v k = uR w k) (h4 : ∀ k, uD v k = uD w k) : v = w := by
  obtain ⟨a, b, c, d⟩ := v
  obtain ⟨a', b', c', d'⟩ := w
  have e1 : a = a' := funext h1
  have e2 : b = b' := funext h2
  have e3 : c = c' := funext h3
  have e4 : d = d' := funext h4
  rw [e1, e2, e3, e4]
theorem upd_id {I : Nat → Int32} {j : Nat} {x : Int32} (h : I j = x) : upd I j x = I := by
  funext k
  by_cases hk : k = j
  · subst hk; rw [pk_us, h]
  · rw [pk_un hk]
theorem ka_loop {gc : Nat → Nat} {m : Nat} {M : Nat → Nat} {d : Nat} {q : QT} {P T : Nat} : ∀ n c (X : XT) (s : St), c + n = 4 → SX 0 X s → IV P T s → (∀ Y x1, SX 0 Y (ccA n c s) → TM gc m M (d + 3) 136 q 19 [.ref m, .int x1, .retAddr 0] [] Y) → TM gc m M (d + 3) 136 q 2 [.ref m, .int (nI c), .retAddr 0] [] X := by
  intro n
  induction n with
  | zero =>
    intro c X s hc h hv hq
    exact N136_2 ⟨fun _ => hq X _ h, fun z => absurd (nI_le (a := 4) (by omega) (by omega)) z⟩
  | succ n ih =>
    intro c X s hc h hv hq
    refine N136_2 ⟨fun z => absurd z (nI_ge (b := 4) (by omega) (by decide)), fun _ => ⟨_, n_close0 (d := d + 1) h hv (show c < 4 by omega), ?_⟩⟩
    rintro r Y ⟨rfl, hY⟩
    refine ⟨_, rfl, ?_⟩
    rw [nI_1]
    exact ih (c + 1) Y _ (by omega) hY (v_cc hv (by omega)) hq
theorem fgE_id {e : Nat} {s : St} (he : e < 5) (h0 : s.1 (100 + 10 * e) = 0) (hb : BI s.1 s.2) : fgE e s = s := by
  unfold fgE
  rw [upd_id h0]
  have : (uB s.2 0).filter (fun y => !bE (nI e) y) = uB s.2 0 := List.filter_eq_self.mpr (fun b hb2 => by
    obtain ⟨-, ⟨i, w2, w3, w4⟩, -⟩ := hb.2 b hb2
    rw [show bE (nI e) b = false from decide_eq_false (fun y => by
      rw [w3] at y
      have := (nI_eq (by omega) (by omega)).mp y
      subst this
      exact w4 h0)]
    rfl)
  rw [this, upB_id]
theorem eb_loop {gc : Nat → Nat} {m : Nat} {M : Nat → Nat} {d : Nat} {X0 : XT} {q : QT} {n0 w : Nat} (hn0 : n0 ≤ 24) : ∀ k n (X : XT), rmB (bE (nI w)) X0 n0 X n k → (∀ Y n' x2, rmB (bE (nI w)) X0 n0 Y n' 0 → TM gc m M (d + 1) 136 q 85 [.ref m, .int (nI w), .int x2] [] Y) → TM gc m M (d + 1) 136 q 60 [.ref m, .int (nI w), .int (nI k - 1)] [] X := by
  intro k
  induction k with
  | zero =>
    intro n X h hq
    exact N136_60 ⟨fun _ => hq X n _ h, fun z => absurd neg_1 z⟩
  | succ k ih =>
    intro n X h hq
    have hkn := h.2.1
    have hnn := h.2.2.1
    rw [nI_pred]
    have hcl : (nI k).toNatClampNeg = k := nI_clamp (by omega)
    refine N136_60 ⟨fun z => absurd z (nI_pos (by omega)), fun _ => ⟨nI_pos (by omega), by omega, ?_⟩⟩
    rw [hcl]
    refine ⟨fun z => N136_79 ?_, fun z => ?_⟩
    · rw [ne_1]
      exact ih n X (h.no (decide_eq_false z)) hq
    · obtain ⟨n, rfl⟩ : ∃ n', n = n' + 1 := ⟨n - 1, by omega⟩
      refine ⟨_, n_unbindAt h.1 (by omega) (by omega), ?_⟩
      rintro r Y ⟨rfl, g1, g2, g3⟩
      refine ⟨rfl, N136_79 ?_⟩
      rw [ne_1]
      exact ih n Y (h.yes (decide_eq_true z) g1 g2 g3) hq
theorem SX.eb {k : Nat} {X Y : XT} {s : St} {J : Nat → Int32} {w : Mu} (h : SX k X s) (hL : uC s.2 1 = []) (ha : Ag (fun k => k == 0 || pB k) X Y) (he : sE Y J) (hb : sB Y w) (hw : w.2 = s.2.2) (hj : ∀ j, ¬ (100 ≤ j ∧ j < 200) → J j = s.1 j) : SX k Y (J, w) := by
  obtain ⟨h1, h2, h3, h4, h5, h6, h7, h8, h9, h10⟩ := h
  have hpf : ∀ k, 9 ≤ k → (fun k => k == 0 || pB k) k = false := fun k hk => by
    show (k == 0 || pB k) = false
    rw [beq_false_of_ne (by omega), pB_f (by omega)]
    rfl
  have eC : ∀ k, uC w k = uC s.2 k := fun k => congrFun (congrArg Prod.fst hw) k
  have eR : ∀ k, uR w k = uR s.2 k := fun k => congrFun (congrArg (fun z => z.2.1) hw) k
  have eD : ∀ k, uD w k = uD s.2 k := fun k => congrFun (congrArg (fun z => z.2.2) hw) k
  refine ⟨he, (h2.ag ha rfl rfl rfl).I (fun j w1 w2 => hj j (by omega)), hb, ?_, fun c hc => ?_, ?_, ?_, ⟨?_, fun j r hr => ?_⟩, ?_, ?_⟩
  · obtain ⟨n, w1, w2, w3⟩ := h4.ag ha rfl rfl rfl rfl
    exact ⟨n, w1, w2, fun q hq6 => by rw [show uR (J, w).2 (8 + q) = uR s.2 (8 + q) from eR _]; exact w3 q hq6⟩
  · have := ((h5.ag ha (fun k w1 w2 => hpf k (by omega))).I (J := J) (fun j w1 w2 => hj j (by omega))) c hc
    rw [show uD (J, w).2 (18 + c) = uD s.2 (18 + c) from eD _]
    exact this
  · have := h6.ag ha (fun k w1 w2 => hpf k (by omega))
    unfold sP at this ⊢
    rw [show flat (J, w).2 = flat s.2 from flat_cg (fun k _ => eC k)]
    exact this
  · rw [ha 32 (hpf 32 (by decide))]; exact h7.trans (hj 0 (by omega)).symm
  · rw [show uC (J, w).2 1 = uC s.2 1 from eC 1, ha 38 (hpf 38 (by decide))]
    exact h8.1
  · rw [show uC (J, w).2 1 = uC s.2 1 from eC 1, hL] at hr
    cases hr
  · rw [ha 39 (hpf 39 (by decide)), h9]; show _ = J 1 + _; rw [hj 1 (by omega)]
  · rw [ha 40 (hpf 40 (by decide)), h10]; exact (hj 2 (by omega)).symm
theorem ke_loop {gc : Nat → Nat} {m : Nat} {M : Nat → Nat} {d : Nat} {q : QT} {P T : Nat} : ∀ n e (X : XT) (s : St) (v2 : Value), e + n = 5 → SX 0 X s → IV P T s → (∀ Y x1 v2, SX 0 Y (feA n e s) → TM gc m M (d + 3) 136 q 91 [.ref m, .int x1, v2] [] Y) → TM gc m M (d + 3) 136 q 21 [.ref m, .int (nI e), v2] [] X := by
  intro n
  induction n with
  | zero =>
    intro e X s v2 he h hv hq
    exact N136_21 ⟨fun _ => hq X _ _ h, fun z => absurd (nI_le (a := 5) (by omega) (by omega)) z⟩
  | succ n ih =>
    intro e X s v2 he h hv hq
    have he5 : e < 5 := by omega
    have hcl : (nI e).toNatClampNeg = e := nI_clamp (by omega)
    have hs : feA (n + 1) e s = feA n (e + 1) (if s.1 (102 + 10 * e) = 0 then fgE e s else s) := rfl
    rw [hs] at hq
    have hex : isEx s.1 (nI e) = decide (¬ s.1 (100 + 10 * e) = 0) := by
      unfold isEx
      rw [hcl, decide_eq_true (show ¬ nI e < 0 ∧ ¬ 4 < nI e from ⟨nI_pos (by omega), (show ¬ nI 4 < nI e from nI_nlt (by omega) (by decide))⟩), Bool.true_and]
    refine N136_21 ⟨fun z => absurd z (nI_ge (b := 5) (by omega) (by decide)), fun _ => ⟨_, n_isE (d := d + 1) h.1 hv.1.2.1, ?_⟩⟩
    rintro r X3 ⟨rfl, rfl⟩
    rw [hex]
    refine ⟨_, rfl, fun z => N136_85 ?_, fun z => ⟨nI_pos (by omega), by omega, ?_⟩⟩
    · have z : s.1 (100 + 10 * e) = 0 := Decidable.not_not.mp (of_decide_eq_false (b2i_z.mp z))
      rw [nI_1]
      have e1 : (if s.1 (102 + 10 * e) = 0 then fgE e s else s) = s := by
        split
        · exact fgE_id he5 z hv.1.2.2.2.2.2.2.1
        · rfl
      rw [e1] at hq
      exact ih (e + 1) X3 s _ (by omega) h hv hq
    · have z : ¬ s.1 (100 + 10 * e) = 0 := of_decide_eq_true (b2i_nz z)
      rw [hcl, (h.1 e he5).2 z]
      refine ⟨fun w => N136_46 ?_, fun w => N136_85 ?_⟩
      · rw [if_pos w] at hq
        rw [hcl]
        refine ⟨nI_pos (by omega), he5, fun Y0 e0 => ?_⟩
        have hb := h.2.2.1
        have hbn := hv.1.2.2.2.2.2.2.1.1
        have k0 : ∀ k, k ≠ 0 → Y0 k = X3 k := fun k hk => by rw [e0]; exact funext (fun j => wr_k hk)
        have hb8 : Y0 8 0 = nI (uB s.2 0).length := by rw [k0 8 (by decide)]; exact hb.1
        rw [hb8]
        refine eb_loop (d := d + 2) (X0 := Y0) (n0 := (uB s.2 0).length) hbn (uB s.2 0).length (uB s.2 0).length Y0 ⟨hb8, Nat.le_refl _, Nat.le_refl _, List.Perm.refl _, fun j w1 w2 => by omega, Ag.refl _ _⟩ (fun Y n' x2 r2 => N136_85 ?_)
        rw [nI_1]
        have f3 := r2.fin
        have a2 : Ag pB Y0 Y := r2.2.2.2.2.2
        have en : ∀ j, j ≠ 100 + 10 * e → (fgE e s).1 j = s.1 j := fun j hj => pk_un hj
        have ez : (fgE e s).1 (100 + 10 * e) = 0 := pk_us
        refine ih (e + 1) Y _ _ (by omega) ?_ (v_fgE hv he5) hq
        have hBb : uB (fgE e s).2 0 = (uB s.2 0).filter (fun y => !bE (nI e) y) := uB_s
        have f4 : (bnL Y n').Perm (uB (fgE e s).2 0) := by
          rw [hBb]
          refine f3.trans ?_
          have : bnL Y0 (uB s.2 0).length = bnL X3 (uB s.2 0).length := bn_cg (fun i _ => by
            unfold bnA
            rw [k0 5 (by decide), k0 6 (by decide), k0 7 (by decide)])
          rw [this]
          exact hb.2.filter _
        have hl2 : n' = (uB (fgE e s).2 0).length := by
          rw [← f4.length_eq]
          unfold bnL
          rw [List.length_map, List.length_range]
        have hag : Ag (fun k => k == 0 || pB k) X3 Y := fun k hk => by
          have hk : (k == 0 || pB k) = false := hk
          rw [Bool.or_eq_false_iff] at hk
          rw [a2 k hk.2, k0 k (fun z => by rw [z] at hk; exact absurd hk.1 (by decide))]
        refine SX.eb (J := (fgE e s).1) (w := (fgE e s).2) h hv.2.1 hag (fun i hi => ?_) ?_ rfl (fun j hj => en j (by omega))
        · have y0 : Y 0 = Y0 0 := a2 0 rfl
          have y3 : Y 3 = X3 3 := (a2 3 rfl).trans (k0 3 (by decide))
          rw [y0, y3, e0]
          by_cases hz : i = e
          · subst hz
            rw [wr_s, ez, if_pos rfl]
            exact ⟨rfl, fun y => absurd rfl y⟩
          · rw [wr_i hz, en _ (by omega), en _ (by omega), en _ (by omega)]
            exact h.1 i hi
        · unfold sB
          rw [← hl2]
          exact ⟨r2.1, f4⟩
      · rw [if_neg w] at hq
        rw [nI_1]
        exact ih (e + 1) X3 s _ (by omega) h hv hq
theorem fgQ_id {w P T : Nat} {s : St} (hw : w < 6) (h0 : s.1 (200 + 10 * w) = 0) (hv : IV P T s) : (fgQ w s).2 = s := by
  have hJ : (fgQ w s).2.1 = s.1 := upd_id h0
  have hno : ∀ k, isC k → ∀ r, r ∈ uC s.2 k → pq w r = false := fun k hk r hr => by
    obtain ⟨-, -, q', w3, w4, w5⟩ := hv.1.2.2.2.2.2.1 k hk r hr
    refine decide_eq_false (fun y => ?_)
    rw [w4] at y
    have := (nI_eq (by omega) (by omega)).mp y
    subst this
    exact w5 h0
  have hV : (fgQ w s).2.2 = s.2 := by
    refine Mu_ext (fun k => ?_) (fun k => ?_) (fun k => ?_) (fun k => fgQ_D)
    · by_cases hk : k = 0
      · subst hk
        rw [fgQ_B]
        refine List.filter_eq_self.mpr (fun b hb => ?_)
        obtain ⟨-, -, q', w5, w6, w7⟩ := hv.1.2.2.2.2.2.2.1.2 b hb
        rw [show bQ (nI w) b = false from decide_eq_false (fun y => by
          rw [w6] at y
          have := (nI_eq (by omega) (by omega)).mp y
          subst this
          exact w7 h0)]
        rfl
      · show (lgA w 4 0 (upB s.2 0 _)).1 k = _
        rw [(lgA_o 4 0 _).1]
        exact uB_n hk
    · rw [fgQ_C hw]
      by_cases hz : k = 2 + w
      · subst hz
        rw [if_pos rfl]
        refine (List.eq_nil_iff_forall_not_mem.mpr (fun r hr => ?_)).symm
        have h1 := hno (2 + w) (isC_q hw) r hr
        rw [show pq w r = true from decide_eq_true (hv.1.2.2.1.2 w hw r hr)] at h1
        cases h1
      · rw [if_neg hz]
        by_cases hz2 : 14 ≤ k ∧ k < 18
        · rw [if_pos hz2]
          refine List.filter_eq_self.mpr (fun r hr => ?_)
          rw [hno k (by unfold isC; omega) r hr]
          rfl
        · rw [if_neg hz2]
    · rw [fgQ_R]
      by_cases hz : k = 8 + w
      · subst hz
        rw [if_pos rfl, (hv.2.2.1 w hw).2.2 h0]
      · rw [if_neg hz]
  exact Prod.ext hJ hV
def dqA : Nat → Nat → St → St
  | 0, _, s => s
  | n + 1, q, s => dqA n (q + 1) (cqS q s)
theorem kq_loop {gc : Nat → Nat} {m : Nat} {M : Nat → Nat} {d : Nat} {q : QT} {P T : Nat} : ∀ n w (X : XT) (s : St) (v2 : Value), w + n = 6 → SX 0 X s → IV P T s → (∀ Y x1 v2, SX 0 Y (dqA n w s) → TM gc m M (d + 3) 136 q 128 [.ref m, .int x1, v2] [] Y) → TM gc m M (d + 3) 136 q 93 [.ref m, .int (nI w), v2] [] X := by
  intro n
  induction n with
  | zero =>
    intro w X s v2 hw h hv hq
    exact N136_93 ⟨fun _ => hq X _ _ h, fun z => absurd (nI_le (a := 6) (by omega) (by omega)) z⟩
  | succ n ih =>
    intro w X s v2 hw h hv hq
    have hw6 : w < 6 := by omega
    have hcl : (nI w).toNatClampNeg = w := nI_clamp (by omega)
    have hs : dqA (n + 1) w s = dqA n (w + 1) (cqS w s) := rfl
    rw [hs] at hq
    have hqu : isQu s.1 (nI w) = decide (¬ s.1 (200 + 10 * w) = 0) := by
      unfold isQu
      rw [hcl, decide_eq_true (show ¬ nI w < 0 ∧ ¬ 5 < nI w from ⟨nI_pos (by omega), (show ¬ nI 5 < nI w from nI_nlt (by omega) (by decide))⟩), Bool.true_and]
    refine N136_93 ⟨fun z => absurd z (nI_ge (b := 6) (by omega) (by decide)), fun _ => ⟨_, n_isQ (d := d + 1) h.2.1 hv.1.1, ?_⟩⟩
    rintro r X3 ⟨rfl, rfl⟩
    rw [hqu]
    refine ⟨_, rfl, fun z => N136_122 ?_, fun z => ⟨nI_pos (by omega), by omega, ?_⟩⟩
    · have z : s.1 (200 + 10 * w) = 0 := Decidable.not_not.mp (of_decide_eq_false (b2i_z.mp z))
      rw [nI_1]
      have e1 : cqS w s = s := by
        unfold cqS
        split
        · exact fgQ_id hw6 z hv
        · rfl
      rw [e1] at hq
      exact ih (w + 1) X3 s _ (by omega) h hv hq
    · have z : ¬ s.1 (200 + 10 * w) = 0 := of_decide_eq_true (b2i_nz z)
      rw [hcl, ((h.2.1 w hw6).2 z).2]
      refine ⟨fun y => N136_122 ?_, fun y => ⟨_, n_drop0 (d := d) h hv hw6 z, ?_⟩⟩
      · rw [nI_1]
        rw [show cqS w s = s from if_neg y] at hq
        exact ih (w + 1) X3 s _ (by omega) h hv hq
      · rintro r Y ⟨rfl, hY⟩
        refine ⟨_, rfl, N136_122 ?_⟩
        rw [nI_1]
        rw [show cqS w s = (fgQ w s).2 from if_pos y] at hq
        exact ih (w + 1) Y _ _ (by omega) hY (v_fgQ hv hw6) hq
def kpA : Nat → Mu → Mu
  | 0, v => v
  | n + 1, v => kpQ n (kpA n v)
theorem kpA_C {v : Mu} : ∀ n k, uC (kpA n v) k = if 2 ≤ k ∧ k < 2 + n then (uC v k).filter (fun y => !!mPers (rM y)) else uC v k := by
  intro n
  induction n with
  | zero => intro k; rw [if_neg (by omega)]; rfl
  | succ n ih =>
    intro k
    show uC (upC (kpA n v) (2 + n) _) k = _
    by_cases hz : k = 2 + n
    · subst hz
      rw [uC_s, ih, if_neg (by omega), if_pos (by omega)]
    · rw [uC_n hz, ih]
      by_cases h1 : 2 ≤ k ∧ k < 2 + n
      · rw [if_pos h1, if_pos (by omega)]
      · rw [if_neg h1, if_neg (by omega)]
theorem kpA_o {v : Mu} : ∀ n, (kpA n v).1 = v.1 ∧ (kpA n v).2.2 = v.2.2 := by
  intro n
  induction n with
  | zero => exact ⟨rfl, rfl⟩
  | succ n ih => exact ih
theorem cqS_kp {q n : Nat} {I : Nat → Int32} {v : Mu} (hq6 : q < 6) : cqS q (I, kpA n v) = ((cqS q (I, v)).1, kpA n (cqS q (I, v)).2) := by
  unfold cqS
  by_cases hd : I (203 + 10 * q) = 0
  · rw [if_pos hd, if_pos hd]
    refine Prod.ext rfl ?_
    show (fgQ q (I, kpA n v)).2.2 = kpA n (fgQ q (I, v)).2.2
    have eB : ∀ k, uB (kpA n v) k = uB v k := fun k => congrFun (kpA_o n).1 k
    have eR : ∀ k, uR (kpA n v) k = uR v k := fun k => congrFun (congrArg Prod.fst (kpA_o n).2) k
    have eD : ∀ k, uD (kpA n v) k = uD v k := fun k => congrFun (congrArg Prod.snd (kpA_o n).2) k
    have eB2 : ∀ k, uB (kpA n (fgQ q (I, v)).2.2) k = uB (fgQ q (I, v)).2.2 k := fun k => congrFun (kpA_o n).1 k
    have eR2 : ∀ k, uR (kpA n (fgQ q (I, v)).2.2) k = uR (fgQ q (I, v)).2.2 k := fun k => congrFun (congrArg Prod.fst (kpA_o n).2) k
    have eD2 : ∀ k, uD (kpA n (fgQ q (I, v)).2.2) k = uD (fgQ q (I, v)).2.2 k := fun k => congrFun (congrArg Prod.snd (kpA_o n).2) k
    refine Mu_ext (fun k => ?_) (fun k => ?_) (fun k => ?_) (fun k => ?_)
    · rw [eB2]
      by_cases hk : k = 0
      · subst hk
        rw [fgQ_B, fgQ_B]
        show (uB (kpA n v) 0).filter _ = _
        rw [eB]
      · show (lgA q 4 0 (upB (kpA n v) 0 _)).1 k = (lgA q 4 0 (upB v 0 _)).1 k
        rw [(lgA_o 4 0 _).1, (lgA_o 4 0 _).1]
        exact ((uB_n hk).trans (eB k)).trans (uB_n hk).symm
    · rw [fgQ_C hq6, kpA_C (v := (fgQ q (I, v)).2.2), fgQ_C hq6]
      show (if k = 2 + q then [] else if 14 ≤ k ∧ k < 18 then (uC (kpA n v) k).filter (fun y => !pq q y) else uC (kpA n v) k) = if 2 ≤ k ∧ k < 2 + n then (if k = 2 + q then [] else if 14 ≤ k ∧ k < 18 then (uC v k).filter (fun y => !pq q y) else uC v k).filter (fun y => !!mPers (rM y)) else (if k = 2 + q then [] else if 14 ≤ k ∧ k < 18 then (uC v k).filter (fun y => !pq q y) else uC v k)
      rw [kpA_C]
      by_cases h1 : k = 2 + q
      · rw [if_pos h1, if_pos h1]
        split <;> rfl
      · rw [if_neg h1, if_neg h1]
        by_cases h2 : 2 ≤ k ∧ k < 2 + n
        · rw [if_pos h2, if_pos h2]
          by_cases h3 : 14 ≤ k ∧ k < 18
          · rw [if_pos h3, if_pos h3, List.filter_filter, List.filter_filter]
            congr 1
            funext a
            exact Bool.and_comm _ _
          · rw [if_neg h3, if_neg h3]
        · rw [if_neg h2, if_neg h2]
    · rw [eR2, fgQ_R, fgQ_R]
      show (if k = 8 + q then [] else uR (kpA n v) k) = _
      rw [eR]
    · rw [eD2, fgQ_D, fgQ_D]
      exact eD k
  · rw [if_neg hd, if_neg hd]
theorem cq_dq : ∀ n q (I : Nat → Int32) (v : Mu) g, q + n = 6 → (cqA n q (I, kpA q v) g).2 = ((dqA n q (I, v)).1, kpA (q + n) (dqA n q (I, v)).2) := by
  intro n
  induction n with
  | zero => intro q I v g _; rfl
  | succ n ih =>
    intro q I v g hq6
    show (cqA n (q + 1) ((cqS q (I, kpA q v)).1, kpQ q (cqS q (I, kpA q v)).2) _).2 = ((dqA n (q + 1) (cqS q (I, v))).1, kpA (q + (n + 1)) (dqA n (q + 1) (cqS q (I, v))).2)
    rw [cqS_kp (by omega)]
    have := ih (q + 1) (cqS q (I, v)).1 (cqS q (I, v)).2 (g + (uC (kpQ q (kpA q (cqS q (I, v)).2)) (2 + q)).length) (by omega)
    rw [show q + (n + 1) = q + 1 + n by omega]
    exact this
/-- what was counted -/
theorem cqA_n : ∀ n q (s : St) g, q + n ≤ 6 → g = sumTo (fun p => (uC s.2 (2 + p)).length) q → (cqA n q s g).1 = sumTo (fun p => (uC (cqA n q s g).2.2 (2 + p)).length) (q + n) := by
  intro n
  induction n with
  | zero => intro q s g _ h; exact h
  | succ n ih =>
    intro q s g hq6 h
    have := ih (q + 1) ((cqS q s).1, kpQ q (cqS q s).2) (g + (uC (kpQ q (cqS q s).2) (2 + q)).length) (by omega) (by
      show _ = sumTo (fun p => (uC (kpQ q (cqS q s).2) (2 + p)).length) q + (uC (kpQ q (cqS q s).2) (2 + q)).length
      rw [h]
      congr 1
      refine sumTo_cg q (fun p hp => ?_)
      have e1 : uC (kpQ q (cqS q s).2) (2 + p) = uC (cqS q s).2 (2 + p) := uC_n (by omega)
      have e2 : uC (cqS q s).2 (2 + p) = uC s.2 (2 + p) := by
        unfold cqS
        split
        · rw [fgQ_C (by omega), if_neg (by omega), if_neg (by omega)]
        · rfl
      rw [e1, e2])
    rw [show q + (n + 1) = q + 1 + n by omega]
    exact this
def nonP (x : Cp) : Bool := decide (x.2.2.2.2.2.2.2.2.1 = 0)
theorem kn_loop {gc : Nat → Nat} {m : Nat} {M : Nat → Nat} {d : Nat} {X0 : XT} {q : QT} {n0 : Nat} (hn0 : n0 ≤ 400) (hf : f01 X0 n0) : ∀ k n g (X : XT) (v2 : Value), rmP nonP X0 n0 X n k g → (∀ Y n' g', rmP nonP X0 n0 Y n' 0 g' → q (some (.int (nI n'))) Y) → TM gc m M (d + 1) 136 q 135 [.ref m, .int (nI k - 1), v2] [] X := by
  intro k
  induction k with
  | zero =>
    intro n g X v2 h hq
    refine N136_135 ⟨fun _ => N136_159 ?_, fun z => absurd neg_1 z⟩
    rw [h.1]
    exact hq X n g h
  | succ k ih =>
    intro n g X v2 h hq
    have hkn := h.2.1
    have hnn := h.2.2.1
    rw [nI_pred]
    have hcl : (nI k).toNatClampNeg = k := nI_clamp (by omega)
    refine N136_135 ⟨fun z => absurd z (nI_pos (by omega)), fun _ => ⟨nI_pos (by omega), by omega, ?_⟩⟩
    rw [hcl]
    refine ⟨fun z => N136_153 ?_, fun z => ?_⟩
    · rw [ne_1]
      exact ih n g X _ (h.no (decide_eq_false z)) hq
    · obtain ⟨n, rfl⟩ : ∃ n', n = n' + 1 := ⟨n - 1, by omega⟩
      have ff := h.f hf n (by omega)
      refine ⟨_, n_remove h.1 (by omega) (by omega) ff.1 ff.2, ?_⟩
      rintro r Y ⟨rfl, g1, g2, g3⟩
      refine ⟨rfl, N136_153 ?_⟩
      rw [ne_1]
      exact ih n (g + 1) Y _ (h.yes (decide_eq_true z) g1 g2 g3) hq
theorem cc_H {P T c : Nat} {s : St} (hv : IV P T s) (hc : c < 4) : uC (opCc c s).2 (14 + c) = [] ∧ ∀ c', c' < 4 → c' ≠ c → uC (opCc c s).2 (14 + c') = uC s.2 (14 + c') := by
  have hC : (opCc c s).2.2.1 = (clF c (uC s.2 (14 + c)).length s.2).2.1 := cc_C (I := s.1) (v := s.2) hc hv.1.2.2.1 hv.1.2.2.2.1
  obtain ⟨c1, c2, c3⟩ := cl_keep hc (uC s.2 (14 + c)).length s.2 hv.1.2.2.1 hv.1.2.2.2.1
  rw [List.drop_length] at c3
  refine ⟨?_, fun c' hc' hz => ?_⟩
  · rw [show uC (opCc c s).2 (14 + c) = uC (clF c (uC s.2 (14 + c)).length s.2) (14 + c) from congrFun hC _]
    exact c3
  · rw [show uC (opCc c s).2 (14 + c') = uC (clF c (uC s.2 (14 + c)).length s.2) (14 + c') from congrFun hC _]
    exact clF_o hc _ _ hv.1.2.2.1 _ (by omega) (by omega)
theorem ccA_H {P T : Nat} : ∀ n c (s : St), c + n = 4 → IV P T s → (∀ c', c' < c → uC s.2 (14 + c') = []) → ∀ c', c' < 4 → uC (ccA n c s).2 (14 + c') = [] := by
  intro n
  induction n with
  | zero => intro c s hc _ h c' hc'; exact h c' (by omega)
  | succ n ih =>
    intro c s hc hv h
    obtain ⟨h1, h2⟩ := cc_H hv (show c < 4 by omega)
    refine ih (c + 1) _ (by omega) (v_cc hv (by omega)) (fun c' hc' => ?_)
    by_cases hz : c' = c
    · subst hz; exact h1
    · rw [h2 c' (by omega) hz]
      exact h c' (by omega)
theorem dqA_sub : ∀ n q (s : St) k, q + n ≤ 6 → (uC (dqA n q s).2 k).Sublist (uC s.2 k) := by
  intro n
  induction n with
  | zero => intro q s k _; exact List.Sublist.refl _
  | succ n ih =>
    intro q s k hq6
    refine (ih (q + 1) (cqS q s) k (by omega)).trans ?_
    unfold cqS
    split
    · exact fgQ_sub (by omega) k
    · exact List.Sublist.refl _
theorem v_dqA {P T : Nat} : ∀ n q (s : St), q + n = 6 → IV P T s → IV P T (dqA n q s) := by
  intro n
  induction n with
  | zero => intro q s _ h; exact h
  | succ n ih => intro q s hq6 h; exact ih (q + 1) _ (by omega) (v_cqS h (by omega))
theorem kp_fl {v : Mu} (hH : ∀ c, c < 4 → uC v (14 + c) = []) : ∀ n, fl (kpA 6 v) n = (fl v n).filter (fun x => !nonP x) := by
  intro n
  induction n with
  | zero => rfl
  | succ n ih =>
    show fl (kpA 6 v) n ++ _ = (fl v n ++ _).filter _
    rw [ih, List.filter_append]
    congr 1
    by_cases hp : isP n = true
    · rw [if_pos hp, if_pos hp, kpA_C]
      rcases isP_qc hp with ⟨p, hp6, rfl⟩ | ⟨c, hc, rfl⟩
      · rw [if_pos (by omega), List.filter_map]
        congr 1
        refine List.filter_congr (fun r _ => ?_)
        show (!!mPers (rM r)) = !nonP (mp (2 + p) r)
        rw [mp_q hp6]
        unfold nonP wCp
        cases mPers (rM r) <;> rfl
      · rw [if_neg (by omega), hH c hc]
        rfl
    · rw [if_neg hp, if_neg hp]
      rfl
theorem n_crash {gc : Nat → Nat} {m : Nat} {M : Nat → Nat} {d : Nat} {X : XT} {s : St} {P T : Nat} (h : SX 0 X s) (hv : IV P T s) : WM gc m M (d + 4) 136 [.ref m] X (fun r X' => r = some (.int (opCr s).1) ∧ SX 0 X' (opCr s).2) := by
  have h1 := v_ccA 4 0 s rfl hv
  have hH1 := ccA_H 4 0 s rfl hv (fun c' hc' => absurd hc' (Nat.not_lt_zero _))
  have ho : opCr s = (nI (cqA 6 0 (feA 5 0 (ccA 4 0 s)) 0).1, (cqA 6 0 (feA 5 0 (ccA 4 0 s)) 0).2) := rfl
  rw [ho]
  generalize hs1 : ccA 4 0 s = s1 at h1 hH1
  have h2 := v_feA 5 0 s1 rfl h1
  have hfe := feA_C 5 0 s1
  generalize hs2 : feA 5 0 s1 = s2 at h2 hfe
  have h3 := v_dqA 6 0 s2 rfl h2
  have hsub := fun k => dqA_sub 6 0 s2 k (by omega)
  have hcd := cq_dq 6 0 s2.1 s2.2 0 rfl
  have hcn := cqA_n 6 0 s2 0 (by omega) rfl
  rw [show (s2.1, kpA 0 s2.2) = s2 from rfl, show (s2.1, s2.2) = s2 from rfl] at hcd
  generalize hs3 : dqA 6 0 s2 = s3 at h3 hsub hcd
  generalize hs4 : cqA 6 0 s2 0 = s4 at hcd hcn
  have hH3 : ∀ c, c < 4 → uC s3.2 (14 + c) = [] := fun c hc => by
    have e1 := hsub (14 + c)
    rw [show uC s2.2 (14 + c) = uC s1.2 (14 + c) from congrFun (congrArg Prod.fst hfe.1) _, hH1 c hc] at e1
    exact List.eq_nil_of_sublist_nil e1
  have hF : flat (kpA 6 s3.2) = (flat s3.2).filter (fun x => !nonP x) := kp_fl hH3 18
  have hall := h3.1.2.2.2.1.all h3.1.2.2.1
  have hfl := flat_len (v := s3.2)
  refine N136 (ka_loop 4 0 X s rfl h hv (fun Y x1 hY => N136_19 ?_))
  rw [hs1] at hY
  refine ke_loop 5 0 Y s1 _ rfl hY h1 (fun Y2 x2 v2 hY2 => N136_91 ?_)
  rw [hs2] at hY2
  refine kq_loop 6 0 Y2 s2 _ rfl hY2 h2 (fun Y3 x3 v3 hY3 => N136_128 ?_)
  rw [hs3] at hY3
  have hp := hY3.2.2.2.2.2.1
  rw [hp.1]
  refine kn_loop (d := d + 2) (X0 := Y3) (n0 := (flat s3.2).length) (by omega) (fun i hi => sP_01 hp hi) (flat s3.2).length (flat s3.2).length 0 Y3 _ ⟨hp.1, Nat.le_refl _, Nat.le_refl _, List.Perm.refl _, fun j w1 w2 => by omega, fun j hj => ⟨j, hj, rfl⟩, by omega, Ag.refl _ _⟩ (fun Z n' g' r1 => ?_)
  obtain ⟨f1, -⟩ := r1.fin
  have a1 : Ag pP Y3 Z := r1.2.2.2.2.2.2.2
  have f5 : (cpL Z n').Perm (flat (kpA 6 s3.2)) := by
    rw [hF]
    exact f1.trans (hp.2.filter _)
  have hl1 : n' = (flat (kpA 6 s3.2)).length := by rw [← f5.length_eq, cpL_len]
  have hcd : s4.2 = (s3.1, kpA 6 s3.2) := hcd
  refine ⟨?_, ?_⟩
  · rw [hcn, hcd, hl1, flat_len]
    have : sh (kpA 6 s3.2) = 0 := by
      show 0 + (uC (kpA 6 s3.2) (14 + 0)).length + (uC (kpA 6 s3.2) (14 + 1)).length + (uC (kpA 6 s3.2) (14 + 2)).length + (uC (kpA 6 s3.2) (14 + 3)).length = 0
      rw [kpA_C, kpA_C, kpA_C, kpA_C, if_neg (by omega), if_neg (by omega), if_neg (by omega), if_neg (by omega), hH3 0 (by decide), hH3 1 (by decide), hH3 2 (by decide), hH3 3 (by decide)]
      rfl
    rw [this, Nat.add_zero]
    rfl
  · rw [hcd]
    refine SX.pI (v := kpA 6 s3.2) hY3 (kpA_o 6).1 (kpA_o 6).2 (a1.mono pP_pL) ?_ ?_
    · unfold sP
      rw [← hl1]
      exact ⟨r1.1, f5⟩
    · have h8 := hY3.2.2.2.2.2.2.2.1.ag a1 (fun k _ _ => pP_f (by omega))
      have hL1 : uC (kpA 6 s3.2) 1 = uC s3.2 1 := by rw [kpA_C, if_neg (by omega)]
      unfold sL at h8 ⊢
      rw [hL1]
      exact h8
