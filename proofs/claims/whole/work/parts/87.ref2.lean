/-! the reference: exchange, queue, prefetch, begin -/
theorem sE.I {X : XT} {I J : Nat → Int32} (h : sE X I) (hj : ∀ j, 100 ≤ j → j < 200 → J j = I j) : sE X J := fun e he => by
  rw [hj _ (by omega) (by omega), hj _ (by omega) (by omega), hj _ (by omega) (by omega)]
  exact h e he
theorem sQ.I {X : XT} {I J : Nat → Int32} (h : sQ X I) (hj : ∀ j, 200 ≤ j → j < 300 → J j = I j) : sQ X J := fun e he => by
  rw [hj _ (by omega) (by omega), hj _ (by omega) (by omega), hj _ (by omega) (by omega), hj _ (by omega) (by omega)]
  exact h e he
theorem sD.I {X : XT} {I J : Nat → Int32} {v : Mu} (h : sD X I v) (hj : ∀ j, 300 ≤ j → j < 400 → J j = I j) : sD X J v := fun e he => by
  rw [hj _ (by omega) (by omega), hj _ (by omega) (by omega), hj _ (by omega) (by omega)]
  exact h e he
theorem sL.nil {X : XT} {I J : Nat → Int32} {v : Mu} (h : sL X I v) (hL : uC v 1 = []) : sL X J v := by
  refine ⟨h.1, fun j r hr => ?_⟩
  rw [hL] at hr
  cases hr
theorem SX.eI {k : Nat} {X Y : XT} {s : St} {J : Nat → Int32} (h : SX k X s) (hL : uC s.2 1 = []) (ha : Ag (fun k => k == 0 || k == 3) X Y) (he : sE Y J) (hj : ∀ j, ¬ (100 ≤ j ∧ j < 200) → J j = s.1 j) : SX k Y (J, s.2) := by
  obtain ⟨h1, h2, h3, h4, h5, h6, h7, h8, h9, h10⟩ := h
  refine ⟨he, (h2.ag ha rfl rfl rfl).I (fun j w1 w2 => hj j (by omega)), h3.ag ha rfl rfl rfl rfl, h4.ag ha rfl rfl rfl rfl, (h5.ag ha (fun k w1 w2 => ?_)).I (fun j w1 w2 => hj j (by omega)), h6.ag ha (fun k w1 w2 => ?_), ?_, (h8.ag ha (fun k w1 w2 => ?_)).nil hL, ?_, ?_⟩
  · have := show (k == 0 || k == 3) = false from by rw [beq_false_of_ne (by omega), beq_false_of_ne (by omega)]; rfl
    exact this
  · have := show (k == 0 || k == 3) = false from by rw [beq_false_of_ne (by omega), beq_false_of_ne (by omega)]; rfl
    exact this
  · rw [ha 32 rfl]; exact h7.trans (hj 0 (by omega)).symm
  · have := show (k == 0 || k == 3) = false from by rw [beq_false_of_ne (by omega), beq_false_of_ne (by omega)]; rfl
    exact this
  · rw [ha 39 rfl, h9]; show _ = J 1 + _; rw [hj 1 (by omega)]
  · rw [ha 40 rfl, h10]; exact (hj 2 (by omega)).symm
theorem SX.qI {k : Nat} {X Y : XT} {s : St} {J : Nat → Int32} (h : SX k X s) (hL : uC s.2 1 = []) (ha : Ag (fun k => k == 1 || (k == 2 || k == 4)) X Y) (he : sQ Y J) (hj : ∀ j, ¬ (200 ≤ j ∧ j < 300) → J j = s.1 j) : SX k Y (J, s.2) := by
  obtain ⟨h1, h2, h3, h4, h5, h6, h7, h8, h9, h10⟩ := h
  have hp : ∀ k, 5 ≤ k → (fun k => k == 1 || (k == 2 || k == 4)) k = false := fun k w => by
    show (k == 1 || (k == 2 || k == 4)) = false
    rw [beq_false_of_ne (by omega), beq_false_of_ne (by omega), beq_false_of_ne (by omega)]; rfl
  refine ⟨(h1.ag ha rfl rfl).I (fun j w1 w2 => hj j (by omega)), he, h3.ag ha rfl rfl rfl rfl, h4.ag ha rfl rfl rfl rfl, (h5.ag ha (fun k w1 w2 => hp k (by omega))).I (fun j w1 w2 => hj j (by omega)), h6.ag ha (fun k w1 w2 => hp k (by omega)), ?_, (h8.ag ha (fun k w1 w2 => hp k (by omega))).nil hL, ?_, ?_⟩
  · rw [ha 32 rfl]; exact h7.trans (hj 0 (by omega)).symm
  · rw [ha 39 rfl, h9]; show _ = J 1 + _; rw [hj 1 (by omega)]
  · rw [ha 40 rfl, h10]; exact (hj 2 (by omega)).symm
def pD (k : Nat) : Bool := decide (13 ≤ k) && decide (k ≤ 20)
theorem pD_f {k : Nat} (h : ¬ (13 ≤ k ∧ k ≤ 20)) : pD k = false := by
  unfold pD
  rw [← Bool.decide_and]
  exact decide_eq_false h
theorem pD_t {k : Nat} (h : 13 ≤ k ∧ k ≤ 20) : pD k = true := by
  unfold pD
  rw [← Bool.decide_and]
  exact decide_eq_true h
theorem SX.dI {k : Nat} {X Y : XT} {s : St} {J : Nat → Int32} {v : Mu} (h : SX k X s) (hL : uC s.2 1 = []) (hv : v.1 = s.2.1) (hC : v.2.1 = s.2.2.1) (hR : v.2.2.1 = s.2.2.2.1) (ha : Ag pD X Y) (he : sD Y J v) (hj : ∀ j, ¬ (300 ≤ j ∧ j < 400) → J j = s.1 j) : SX k Y (J, v) := by
  obtain ⟨h1, h2, h3, h4, h5, h6, h7, h8, h9, h10⟩ := h
  have eC : ∀ k, uC v k = uC s.2 k := fun k => congrFun hC k
  refine ⟨(h1.ag ha rfl rfl).I (fun j w1 w2 => hj j (by omega)), (h2.ag ha rfl rfl rfl).I (fun j w1 w2 => hj j (by omega)), ?_, ?_, he, ?_, ?_, ?_, ?_, ?_⟩
  · have := h3.ag ha rfl rfl rfl rfl
    unfold sB at this ⊢
    rw [show uB (J, v).2 0 = uB s.2 0 from congrFun hv 0]
    exact this
  · obtain ⟨n, w1, w2, w3⟩ := h4.ag ha rfl rfl rfl rfl
    refine ⟨n, w1, w2, fun q hq6 => ?_⟩
    rw [show uR (J, v).2 (8 + q) = uR s.2 (8 + q) from congrFun hR _]
    exact w3 q hq6
  · have := h6.ag ha (fun k w1 w2 => pD_f (by omega))
    unfold sP at this ⊢
    rw [show flat (J, v).2 = flat s.2 from flat_cg (fun k _ => eC k)]
    exact this
  · rw [ha 32 rfl]; exact h7.trans (hj 0 (by omega)).symm
  · have h8 := h8.ag ha (fun k w1 w2 => pD_f (by omega))
    refine ⟨?_, fun j r hr => ?_⟩
    · rw [show uC (J, v).2 1 = uC s.2 1 from eC 1]; exact h8.1
    · rw [show uC (J, v).2 1 = uC s.2 1 from eC 1, hL] at hr; cases hr
  · rw [ha 39 rfl, h9]; show _ = J 1 + _; rw [hj 1 (by omega)]
  · rw [ha 40 rfl, h10]; exact (hj 2 (by omega)).symm
theorem n_exchange {gc : Nat → Nat} {m : Nat} {M : Nat → Nat} {d : Nat} {X : XT} {s : St} {P T : Nat} {x t du : Int32} (h : SX 0 X s) (hv : IV P T s) (hdu : du = 0 ∨ du = 1) : WM gc m M (d + 2) 94 [.ref m, .int x, .int t, .int du] X (fun r X' => r = some (.int (opEx s.1 x t du).1) ∧ SX 0 X' ((opEx s.1 x t du).2, s.2)) := by
  have hu : opEx s.1 x t du = if wi x 0 4 && wi t 0 2 then
    (if s.1 (100 + 10 * x.toNatClampNeg) = 0 then (0, upd (upd (upd s.1 (100 + 10 * x.toNatClampNeg) 1) (101 + 10 * x.toNatClampNeg) t) (102 + 10 * x.toNatClampNeg) du)
    else (if s.1 (101 + 10 * x.toNatClampNeg) = t ∧ s.1 (102 + 10 * x.toNatClampNeg) = du then 0 else -3, s.1)) else (-1, s.1) := rfl
  rw [hu]
  refine N94 ⟨_, n_in (k := 4) (by decide), ?_⟩
  rintro r X3 ⟨rfl, rfl⟩
  refine ⟨_, rfl, fun z => N94_16 ?_, fun z => ⟨_, n_in (k := 2) (by decide), ?_⟩⟩
  · rw [show wi x 0 4 = false from b2i_z.mp z]
    exact ⟨rfl, h⟩
  rintro r X4 ⟨rfl, rfl⟩
  have z : wi x 0 4 = true := b2i_nz z
  refine ⟨_, rfl, fun z2 => N94_18 ?_, fun z2 => N94_16 ?_⟩
  rotate_left
  · rw [show wi t 0 2 = false from b2i_z.mp z2, Bool.and_false]
    exact ⟨rfl, h⟩
  have z2 : wi t 0 2 = true := b2i_nz z2
  obtain ⟨e, he, rfl⟩ := wi_rng (n := 4) (by decide) z
  have hcl : (nI e).toNatClampNeg = e := nI_clamp (by omega)
  rw [z, z2, hcl, Bool.and_self, if_pos rfl]
  have hty := sE_ty h.1 hv.1.2.1 he
  refine ⟨nI_pos (by omega), by omega, fun w => N94_54 ?_, fun w => ⟨nI_pos (by omega), by omega, ?_⟩⟩
  · rw [if_pos (hty.mp w), hcl]
    refine ⟨nI_pos (by omega), by omega, fun X5 e5 => ⟨nI_pos (by omega), by omega, hdu, fun X6 e6 => ⟨rfl, ?_⟩⟩⟩
    subst e5 e6
    refine SX.eI (J := upd (upd (upd s.1 (100 + 10 * e) 1) (101 + 10 * e) t) (102 + 10 * e) du) h hv.2.1 (((Ag.refl _ _).wr rfl).wr rfl) (fun i hi => ?_) (fun j hj => ?_)
    · by_cases hie : i = e
      · subst hie
        rw [wr_k (by decide), wr_s, wr_s, pk_un (by omega), pk_un (by omega), pk_us, if_neg (by decide), pk_un (by omega), pk_us]
        exact ⟨rfl, fun _ => pk_us.symm⟩
      · rw [wr_i hie, wr_i hie, wr_i hie, wr_i hie, pk_un (by omega), pk_un (by omega), pk_un (by omega), pk_un (by omega), pk_un (by omega), pk_un (by omega), pk_un (by omega), pk_un (by omega), pk_un (by omega)]
        exact h.1 i hi
    · rw [pk_un (by omega), pk_un (by omega), pk_un (by omega)]
  · have hne : ¬ s.1 (100 + 10 * e) = 0 := fun y => w (hty.mpr y)
    have e0 := (h.1 e he).1
    have e3 := (h.1 e he).2 hne
    rw [if_neg hne] at e0
    rw [if_neg hne, e0, e3]
    refine ⟨fun y => N94_51 (N94_53 ⟨?_, h⟩), fun y => ⟨nI_pos (by omega), by omega, fun y2 => N94_51 (N94_53 ⟨?_, h⟩), fun y2 => N94_53 ⟨?_, h⟩⟩⟩
    · rw [if_neg (fun w => y w.1)]
    · rw [if_neg (fun w => y2 w.2)]
    · rw [if_pos ⟨y, y2⟩]
theorem wi_t {x lo hi : Int32} (h1 : ¬ x < lo) (h2 : ¬ hi < x) : wi x lo hi = true := decide_eq_true ⟨h1, h2⟩
theorem wi_f1 {x lo hi : Int32} (h1 : x < lo) : wi x lo hi = false := decide_eq_false (fun w => w.1 h1)
theorem wi_f2 {x lo hi : Int32} (h1 : hi < x) : wi x lo hi = false := decide_eq_false (fun w => w.2 h1)
theorem i_nlt {x y : Int32} (h : ¬ x < y) : y ≤ x := by
  rw [Int32.lt_iff_toInt_lt] at h
  rw [Int32.le_iff_toInt_le]
  omega
theorem i_nle {x y : Int32} (h : ¬ x ≤ y) : y < x := by
  rw [Int32.le_iff_toInt_le] at h
  rw [Int32.lt_iff_toInt_lt]
  omega
theorem i_le {x y : Int32} (h : x ≤ y) : ¬ y < x := by
  rw [Int32.le_iff_toInt_le] at h
  rw [Int32.lt_iff_toInt_lt]
  omega
theorem n_queue {gc : Nat → Nat} {m : Nat} {M : Nat → Nat} {d : Nat} {X : XT} {s : St} {P T : Nat} {x lm de du : Int32} (h : SX 0 X s) (hv : IV P T s) (hdu : du = 0 ∨ du = 1) : WM gc m M (d + 3) 96 [.ref m, .int x, .int lm, .int de, .int du] X (fun r X' => r = some (.int (opQu s.1 x lm de du).1) ∧ SX 0 X' ((opQu s.1 x lm de du).2, s.2)) := by
  have hu : opQu s.1 x lm de du = if wi x 0 5 && wi lm 1 12 && wi de (-1) 4 then
    (if s.1 (200 + 10 * x.toNatClampNeg) = 0 then (0, upd (upd (upd (upd s.1 (200 + 10 * x.toNatClampNeg) 1) (201 + 10 * x.toNatClampNeg) lm) (202 + 10 * x.toNatClampNeg) de) (203 + 10 * x.toNatClampNeg) du)
    else (if s.1 (201 + 10 * x.toNatClampNeg) = lm ∧ s.1 (202 + 10 * x.toNatClampNeg) = de ∧ s.1 (203 + 10 * x.toNatClampNeg) = du then 0 else -3, s.1)) else (-1, s.1) := rfl
  rw [hu]
  refine N96 ⟨_, n_in (k := 5) (by decide), ?_⟩
  rintro r X3 ⟨rfl, rfl⟩
  have bad : (wi x 0 5 && wi lm 1 12 && wi de (-1) 4) = false → TM gc m M (d + 2) 96 (fun r X' => r = some (.int (if wi x 0 5 && wi lm 1 12 && wi de (-1) 4 then
    (if s.1 (200 + 10 * x.toNatClampNeg) = 0 then (0, upd (upd (upd (upd s.1 (200 + 10 * x.toNatClampNeg) 1) (201 + 10 * x.toNatClampNeg) lm) (202 + 10 * x.toNatClampNeg) de) (203 + 10 * x.toNatClampNeg) du)
    else (if s.1 (201 + 10 * x.toNatClampNeg) = lm ∧ s.1 (202 + 10 * x.toNatClampNeg) = de ∧ s.1 (203 + 10 * x.toNatClampNeg) = du then 0 else -3, s.1)) else (-1, s.1) : Int32 × (Nat → Int32)).1) ∧ SX 0 X' ((if wi x 0 5 && wi lm 1 12 && wi de (-1) 4 then
    (if s.1 (200 + 10 * x.toNatClampNeg) = 0 then (0, upd (upd (upd (upd s.1 (200 + 10 * x.toNatClampNeg) 1) (201 + 10 * x.toNatClampNeg) lm) (202 + 10 * x.toNatClampNeg) de) (203 + 10 * x.toNatClampNeg) du)
    else (if s.1 (201 + 10 * x.toNatClampNeg) = lm ∧ s.1 (202 + 10 * x.toNatClampNeg) = de ∧ s.1 (203 + 10 * x.toNatClampNeg) = du then 0 else -3, s.1)) else (-1, s.1) : Int32 × (Nat → Int32)).2, s.2)) 30 [.ref m, .int x, .int lm, .int de, .int du] [] X3 := fun hb => by
    rw [hb]
    exact N96_30 ⟨rfl, h⟩
  refine ⟨_, rfl, fun z => bad (by rw [show wi x 0 5 = false from b2i_z.mp z]; rfl), fun z => ⟨fun z2 => bad (by rw [wi_f1 z2, Bool.and_false, Bool.false_and]), fun z2 => ⟨fun z3 => bad (by rw [wi_f2 (x := lm) z3, Bool.and_false, Bool.false_and]), fun z3 => ⟨fun z4 => bad (by rw [wi_f1 (x := de) z4, Bool.and_false]), fun z4 => ⟨fun z5 => N96_32 ?_, fun z5 => bad (by rw [wi_f2 (x := de) (i_nle z5), Bool.and_false])⟩⟩⟩⟩⟩
  have z : wi x 0 5 = true := b2i_nz z
  obtain ⟨e, he, rfl⟩ := wi_rng (n := 5) (by decide) z
  have hcl : (nI e).toNatClampNeg = e := nI_clamp (by omega)
  rw [z, wi_t z2 z3, wi_t z4 (i_le z5), hcl, Bool.and_self, Bool.and_self, if_pos rfl]
  refine ⟨_, n_isQ h.2.1 hv.1.1, ?_⟩
  rintro r X4 ⟨rfl, rfl⟩
  have hq : isQu s.1 (nI e) = decide (¬ s.1 (200 + 10 * e) = 0) := by
    show (wi (nI e) 0 5 && _) = _
    rw [z, hcl, Bool.true_and]
  rw [hq]
  refine ⟨_, rfl, fun w => N96_78 ?_, fun w => ⟨nI_pos (by omega), by omega, ?_⟩⟩
  · have w : s.1 (200 + 10 * e) = 0 := by
      have := b2i_z.mp w
      exact Decidable.not_not.mp (of_decide_eq_false this)
    rw [hcl, if_pos w]
    refine ⟨nI_pos (by omega), by omega, fun X5 e5 => ⟨nI_pos (by omega), by omega, fun X6 e6 => ⟨nI_pos (by omega), by omega, hdu, fun X7 e7 => ⟨rfl, ?_⟩⟩⟩⟩
    subst e5 e6 e7
    refine SX.qI (J := upd (upd (upd (upd s.1 (200 + 10 * e) 1) (201 + 10 * e) lm) (202 + 10 * e) de) (203 + 10 * e) du) h hv.2.1 ((((Ag.refl _ _).wr rfl).wr rfl).wr rfl) (fun i hi => ?_) (fun j hj => ?_)
    · by_cases hie : i = e
      · subst hie
        rw [wr_k (by decide), wr_k (by decide), wr_s, wr_k (by decide), wr_s, wr_s, pk_un (by omega), pk_un (by omega), pk_un (by omega), pk_us, if_neg (by decide), pk_un (by omega), pk_un (by omega), pk_us, pk_us, pk_un (by omega), pk_us]
        exact ⟨rfl, fun _ => ⟨rfl, rfl⟩⟩
      · rw [wr_i hie, wr_i hie, wr_i hie, wr_i hie, wr_i hie, wr_i hie, wr_i hie, wr_i hie, wr_i hie]
        have en : ∀ j, ¬ (200 + 10 * e ≤ j ∧ j ≤ 203 + 10 * e) → upd (upd (upd (upd s.1 (200 + 10 * e) 1) (201 + 10 * e) lm) (202 + 10 * e) de) (203 + 10 * e) du j = s.1 j := fun j hj => by
          rw [pk_un (by omega), pk_un (by omega), pk_un (by omega), pk_un (by omega)]
        rw [en _ (by omega), en _ (by omega), en _ (by omega), en _ (by omega)]
        exact h.2.1 i hi
    · rw [pk_un (by omega), pk_un (by omega), pk_un (by omega), pk_un (by omega)]
  · have hne : ¬ s.1 (200 + 10 * e) = 0 := of_decide_eq_true (b2i_nz w)
    have e0 := (h.2.1 e he).1
    have e3 := (h.2.1 e he).2 hne
    rw [if_neg hne] at e0
    rw [if_neg hne, e0, e3.1, e3.2]
    refine ⟨fun y => N96_75 (N96_77 ⟨?_, h⟩), fun y => ⟨nI_pos (by omega), by omega, fun y2 => N96_75 (N96_77 ⟨?_, h⟩), fun y2 => ⟨nI_pos (by omega), by omega, fun y3 => N96_75 (N96_77 ⟨?_, h⟩), fun y3 => N96_77 ⟨?_, h⟩⟩⟩⟩
    · rw [if_neg (fun w => y w.1)]
    · rw [if_neg (fun w => y2 w.2.1)]
    · rw [if_neg (fun w => y3 w.2.2)]
    · rw [if_pos ⟨y, y2, y3⟩]
/-- one number of a channel -/
theorem sD.w {X : XT} {I J : Nat → Int32} {v : Mu} {c k : Nat} {x : Int32} (h : sD X I v) (hc : c < 4) (hk : k = 13 ∨ k = 14 ∨ k = 16) (h1 : J (287 + k + 10 * c) = x ∨ True) (hJ : ∀ c', c' < 4 → c' ≠ c → ∀ j, j < 3 → J (300 + j + 10 * c') = I (300 + j + 10 * c')) (e13 : wr X k c x 13 c = J (300 + 10 * c)) (e14 : wr X k c x 14 c = J (302 + 10 * c)) (e16 : wr X k c x 16 c = J (301 + 10 * c)) : sD (wr X k c x) J v := fun c' hc' => by
  have hk2 : ∀ j, 17 ≤ j → wr X k c x j = X j := fun j hj => funext (fun i => wr_k (by omega))
  have h15 : wr X k c x 15 = X 15 := funext (fun i => wr_k (by omega))
  obtain ⟨w1, w2, w3, w4, w5⟩ := h c' hc'
  refine ⟨?_, ?_, ?_, by rw [h15]; exact w4, fun j d hd => ?_⟩
  · by_cases hz : c' = c
    · subst hz; exact e13
    · rw [wr_i hz, hJ c' hc' hz 0 (by decide)]; exact w1
  · by_cases hz : c' = c
    · subst hz; exact e14
    · rw [wr_i hz, hJ c' hc' hz 2 (by decide)]; exact w2
  · by_cases hz : c' = c
    · subst hz; exact e16
    · rw [wr_i hz, hJ c' hc' hz 1 (by decide)]; exact w3
  · have := w5 j d hd
    unfold ddS at this ⊢
    rw [hk2 17 (by decide), hk2 18 (by decide), hk2 19 (by decide), hk2 20 (by decide)]
    exact this
theorem n_prefetch {gc : Nat → Nat} {m : Nat} {M : Nat → Nat} {d : Nat} {X : XT} {s : St} {P T : Nat} {x n : Int32} (h : SX 0 X s) (hv : IV P T s) : WM gc m M (d + 2) 130 [.ref m, .int x, .int n] X (fun r X' => r = some (.int (opPf s.1 x n).1) ∧ SX 0 X' ((opPf s.1 x n).2, s.2)) := by
  refine N130 ⟨_, n_in (k := 3) (by decide), ?_⟩
  rintro r X3 ⟨rfl, rfl⟩
  have bad : (wi x 0 3 && wi n 1 12) = false → TM gc m M (d + 1) 130 (fun r X' => r = some (.int (opPf s.1 x n).1) ∧ SX 0 X' ((opPf s.1 x n).2, s.2)) 19 [.ref m, .int x, .int n] [] X3 := fun hb => by
    have ho : opPf s.1 x n = (-1, s.1) := by
      unfold opPf
      rw [hb]
      rfl
    rw [ho]
    exact N130_19 ⟨rfl, h⟩
  refine ⟨_, rfl, fun z => bad (by rw [show wi x 0 3 = false from b2i_z.mp z]; rfl), fun z => ⟨fun z2 => bad (by rw [wi_f1 z2, Bool.and_false]), fun z2 => ⟨fun z3 => N130_21 ?_, fun z3 => bad (by rw [wi_f2 (x := n) (i_nle z3), Bool.and_false])⟩⟩⟩
  have z : wi x 0 3 = true := b2i_nz z
  obtain ⟨c, hc, rfl⟩ := wi_rng (n := 3) (by decide) z
  have hc : c < 4 := hc
  have hcl : (nI c).toNatClampNeg = c := nI_clamp (by omega)
  have ho : opPf s.1 (nI c) n = (0, upd s.1 (300 + 10 * c) n) := by
    unfold opPf
    rw [z, wi_t z2 (i_le z3), hcl]
    rfl
  rw [ho, hcl]
  refine ⟨nI_pos (by omega), by omega, fun X5 e5 => ⟨rfl, ?_⟩⟩
  subst e5
  have hd := h.2.2.2.2.1 c hc
  refine SX.dI (J := upd s.1 (300 + 10 * c) n) (v := s.2) h hv.2.1 rfl rfl rfl ((Ag.refl _ _).wr (pD_t (by omega))) (h.2.2.2.2.1.w hc (Or.inl rfl) (Or.inr trivial) (fun c' hc' hz j hj => ?_) ?_ ?_ ?_) (fun j hj => pk_un (by omega))
  · rw [pk_un (by omega)]
  · rw [wr_s]; exact pk_us.symm
  · rw [wr_k (by decide)]; rw [pk_un (by omega)]; exact hd.2.1
  · rw [wr_k (by decide)]; rw [pk_un (by omega)]; exact hd.2.2.1
theorem n_begin {gc : Nat → Nat} {m : Nat} {M : Nat → Nat} {d : Nat} {X : XT} {s : St} {P T : Nat} {x : Int32} (h : SX 0 X s) (hv : IV P T s) : WM gc m M (d + 2) 131 [.ref m, .int x] X (fun r X' => r = some (.int (opBg s.1 x).1) ∧ SX 0 X' ((opBg s.1 x).2, s.2)) := by
  refine N131 ⟨_, n_in (k := 3) (by decide), ?_⟩
  rintro r X3 ⟨rfl, rfl⟩
  refine ⟨_, rfl, fun z => N131_10 ?_, fun z => ?_⟩
  rotate_left
  · unfold opBg
    rw [show wi x 0 3 = false from b2i_z.mp z, if_neg (by decide)]
    exact ⟨rfl, h⟩
  have z : wi x 0 3 = true := b2i_nz z
  obtain ⟨c, hc, rfl⟩ := wi_rng (n := 3) (by decide) z
  have hc : c < 4 := hc
  have hcl : (nI c).toNatClampNeg = c := nI_clamp (by omega)
  have hd := h.2.2.2.2.1 c hc
  have ho : opBg s.1 (nI c) = if s.1 (301 + 10 * c) = 0 then (0, upd s.1 (301 + 10 * c) 1) else (-3, s.1) := by
    unfold opBg
    rw [z, hcl]
    rfl
  rw [ho, hcl, hd.2.2.1]
  refine ⟨nI_pos (by omega), by omega, fun w => N131_22 ?_, fun w => ?_⟩
  · rw [if_pos w, hcl]
    refine ⟨nI_pos (by omega), by omega, Or.inr rfl, fun X5 e5 => ⟨rfl, ?_⟩⟩
    subst e5
    refine SX.dI (J := upd s.1 (301 + 10 * c) 1) (v := s.2) h hv.2.1 rfl rfl rfl ((Ag.refl _ _).wr (pD_t (by omega))) (h.2.2.2.2.1.w hc (Or.inr (Or.inr rfl)) (Or.inr trivial) (fun c' hc' hz j hj => ?_) ?_ ?_ ?_) (fun j hj => pk_un (by omega))
    · rw [pk_un (by omega)]
    · rw [wr_k (by decide)]; rw [pk_un (by omega)]; exact hd.1
    · rw [wr_k (by decide)]; rw [pk_un (by omega)]; exact hd.2.1
    · rw [wr_s]; exact pk_us.symm
  · rw [if_neg w]
    exact ⟨rfl, h⟩
