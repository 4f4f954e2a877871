/-! between the calls -/
theorem MI.I {P b : Nat} {s : St} {J : Nat → Int32} (h : MI P b s) (h1 : NOK J) (h2 : NT J) (j0 : J 0 = s.1 0) (j3 : ∀ c, c < 4 → J (302 + 10 * c) = s.1 (302 + 10 * c) ∨ uC s.2 (14 + c) = []) (jq : ∀ q, q < 6 → ¬ s.1 (200 + 10 * q) = 0 → ¬ J (200 + 10 * q) = 0) (je : ∀ e, e < 5 → ¬ s.1 (100 + 10 * e) = 0 → ¬ J (100 + 10 * e) = 0) : MI P b (J, s.2) := by
  obtain ⟨-, -, h3, h4, h5, h6, h7, p, h8, h9⟩ := h
  refine ⟨h1, h2, h3, h4, ⟨h5.1, fun c hc => ?_, ?_⟩, fun k hk r hr => ?_, ⟨h7.1, fun y hy => ?_⟩, p, h8, j0.trans h9⟩
  · rcases j3 c hc with z | z
    · show _ ∧ ∀ r, _ → _ ∧ _ ≤ (J (302 + 10 * c)).toInt
      rw [z]; exact h5.2.1 c hc
    · show Srt kT (uC s.2 (14 + c)) ∧ ∀ r, r ∈ uC s.2 (14 + c) → _
      rw [z]
      exact ⟨List.Pairwise.nil, fun r hr => absurd hr List.not_mem_nil⟩
  · show FP (J 0).toInt _
    rw [j0]; exact h5.2.2
  · obtain ⟨w1, w2, q', w3, w4, w5⟩ := h6 k hk r hr
    exact ⟨w1, w2, q', w3, w4, jq q' w3 w5⟩
  · obtain ⟨w1, ⟨i, w2, w3, w4⟩, q', w5, w6, w7⟩ := h7.2 y hy
    exact ⟨w1, ⟨i, w2, w3, je i w2 w4⟩, q', w5, w6, jq q' w5 w7⟩
def dOK (d : Ded) : Prop := match d.2.1 with
  | none => d.1 = -1 ∧ ∃ n, n < 3 ∧ d.2.2 = nI n
  | some m => (∃ e, e < 5 ∧ d.1 = nI e) ∧ isKeyB (mKey m) = true ∧ mHops m = nI 0
def RI (I : Nat → Int32) (v : Mu) : Prop := ∀ q, q < 6 → (∀ x, x ∈ uR v (8 + q) → ∃ c, c < 4 ∧ x.1 = nI c) ∧ (∀ c, c < 4 → (uR v (8 + q)).countP (nEq (nI c)) ≤ 1) ∧ (I (200 + 10 * q) = 0 → uR v (8 + q) = [])
def DI (I : Nat → Int32) (v : Mu) : Prop := ∀ c, c < 4 → (uD v (18 + c)).length ≤ 4 ∧ (I (301 + 10 * c) = 0 → uD v (18 + c) = []) ∧ (∀ r, r ∈ uC v (14 + c) → rD r = -1 ∨ ∃ j, j < (uD v (18 + c)).length ∧ rD r = nI j) ∧ ∀ d, d ∈ uD v (18 + c) → dOK d
def IV (P T : Nat) (s : St) : Prop := MI P 360 s ∧ uC s.2 1 = [] ∧ RI s.1 s.2 ∧ DI s.1 s.2 ∧ (∀ c, c < 4 → ∃ p, p ≤ 12 ∧ s.1 (300 + 10 * c) = nI p) ∧ ∀ c, c < 4 → ∃ t, t ≤ T ∧ s.1 (302 + 10 * c) = nI t
theorem RI.len {I : Nat → Int32} {v : Mu} (h : RI I v) {q : Nat} (hq6 : q < 6) : (uR v (8 + q)).length ≤ 4 := by
  obtain ⟨h1, h2, -⟩ := h q hq6
  generalize uR v (8 + q) = l at h1 h2
  have key : ∀ l : List Con, (∀ x, x ∈ l → ∃ c, c < 4 ∧ x.1 = nI c) → l.length ≤ sumTo (fun c => l.countP (nEq (nI c))) 4 := by
    intro l
    induction l with
    | nil => intro _; exact Nat.zero_le _
    | cons x l ih =>
      intro hx
      have ih := ih (fun y hy => hx y (List.mem_cons_of_mem _ hy))
      obtain ⟨c, hc, hxc⟩ := hx x List.mem_cons_self
      have e : (fun c => (x :: l).countP (nEq (nI c))) = fun c => l.countP (nEq (nI c)) + (if nEq (nI c) x then 1 else 0) := funext (fun c => List.countP_cons)
      rw [e, sumTo_add, List.length_cons]
      have : (if nEq (nI c) x then 1 else 0) ≤ sumTo (fun c => if nEq (nI c) x then 1 else 0) 4 := sumTo_at (f := fun c => if nEq (nI c) x then 1 else 0) 4 hc
      rw [if_pos (show nEq (nI c) x = true from decide_eq_true hxc)] at this
      omega
  have h3 := key l h1
  have h4 := sumTo_le (f := fun c => l.countP (nEq (nI c))) (b := 1) 4 h2
  omega
theorem RI.rb {I : Nat → Int32} {v : Mu} (h : RI I v) : RB v := fun q hq6 => Nat.le_trans (h.len hq6) (by decide)
theorem RI.ch {I : Nat → Int32} {v : Mu} (h : RI I v) {q : Nat} (hq6 : q < 6) : chOK (uR v (8 + q)) := (h q hq6).1
theorem IV.mono {P T P' T' : Nat} {s : St} (h : IV P T s) (h1 : P ≤ P') (h2 : T ≤ T') : IV P' T' s := by
  obtain ⟨a1, a2, a3, a4, a5, a6⟩ := h
  refine ⟨a1.mono h1 (Nat.le_refl _), a2, a3, a4, a5, fun c hc => ?_⟩
  obtain ⟨t, w1, w2⟩ := a6 c hc
  exact ⟨t, by omega, w2⟩
/-- only numbers change -/
theorem IV.I {P T : Nat} {s : St} {J : Nat → Int32} (h : IV P T s) (h1 : NOK J) (h2 : NT J) (j0 : J 0 = s.1 0) (jq : ∀ q, q < 6 → ¬ s.1 (200 + 10 * q) = 0 → ¬ J (200 + 10 * q) = 0) (je : ∀ e, e < 5 → ¬ s.1 (100 + 10 * e) = 0 → ¬ J (100 + 10 * e) = 0) (jp : ∀ c, c < 4 → ∃ p, p ≤ 12 ∧ J (300 + 10 * c) = nI p) (j1 : ∀ c, c < 4 → J (301 + 10 * c) = 0 → s.1 (301 + 10 * c) = 0) (j3 : ∀ c, c < 4 → J (302 + 10 * c) = s.1 (302 + 10 * c)) : IV P T (J, s.2) := by
  obtain ⟨a1, a2, a3, a4, a5, a6⟩ := h
  refine ⟨a1.I h1 h2 j0 (fun c hc => Or.inl (j3 c hc)) jq je, a2, fun q hq6 => ?_, fun c hc => ?_, jp, fun c hc => ?_⟩
  · obtain ⟨w1, w2, w3⟩ := a3 q hq6
    refine ⟨w1, w2, fun z => w3 ?_⟩
    cases Decidable.em (s.1 (200 + 10 * q) = 0) with
    | inl w => exact w
    | inr w => exact absurd z (jq q hq6 w)
  · obtain ⟨w1, w2, w3⟩ := a4 c hc
    exact ⟨w1, fun z => w2 (j1 c hc z), w3⟩
  · obtain ⟨t, w1, w2⟩ := a6 c hc
    exact ⟨t, w1, (j3 c hc).trans w2⟩
theorem v_ex {P T : Nat} {s : St} {x t du : Int32} (h : IV P T s) : IV P T ((opEx s.1 x t du).2, s.2) := by
  unfold opEx
  split
  · rename_i hc
    rw [Bool.and_eq_true, decide_eq_true_eq, decide_eq_true_eq] at hc
    obtain ⟨e, he, rfl⟩ := rng (n := 4) (by decide) hc.1.1 hc.1.2
    obtain ⟨ty, hty, rfl⟩ := rng (n := 2) (by decide) hc.2.1 hc.2.2
    have hcl : (nI e).toNatClampNeg = e := nI_clamp (by omega)
    dsimp only
    rw [hcl]
    split
    · rename_i hz
      dsimp only
      have en : ∀ j, ¬ (100 + 10 * e ≤ j ∧ j ≤ 102 + 10 * e) → upd (upd (upd s.1 (100 + 10 * e) 1) (101 + 10 * e) (nI ty)) (102 + 10 * e) du j = s.1 j := fun j hj => by
        rw [pk_un (by omega), pk_un (by omega), pk_un (by omega)]
      have e0 : upd (upd (upd s.1 (100 + 10 * e) 1) (101 + 10 * e) (nI ty)) (102 + 10 * e) du (100 + 10 * e) = 1 := by
        rw [pk_un (by omega), pk_un (by omega), pk_us]
      have e1 : upd (upd (upd s.1 (100 + 10 * e) 1) (101 + 10 * e) (nI ty)) (102 + 10 * e) du (101 + 10 * e) = nI ty := by
        rw [pk_un (by omega), pk_us]
      refine h.I (fun q hq6 => ?_) (fun i hi hi2 => ?_) (en _ (by omega)) (fun q hq6 w => ?_) (fun i hi w => ?_) (fun c hcc => ?_) (fun c hcc w => ?_) (fun c hcc => en _ (by omega))
      · rw [en _ (by omega)]; exact h.1.1 q hq6
      · by_cases hie : i = e
        · subst hie
          exact ⟨ty, hty, e1⟩
        · rw [en _ (by omega)] at hi2 ⊢
          exact h.1.2.1 i hi hi2
      · rw [en _ (by omega)]; exact w
      · by_cases hie : i = e
        · subst hie; rw [e0]; decide
        · rw [en _ (by omega)]; exact w
      · rw [en _ (by omega)]; exact h.2.2.2.2.1 c hcc
      · rw [en _ (by omega)] at w; exact w
    · exact h
  · exact h
theorem v_qu {P T : Nat} {s : St} {x lm de du : Int32} (h : IV P T s) : IV P T ((opQu s.1 x lm de du).2, s.2) := by
  unfold opQu
  split
  · rename_i hc
    rw [Bool.and_eq_true, Bool.and_eq_true] at hc
    obtain ⟨⟨hc1, hc2⟩, hc3⟩ := hc
    obtain ⟨e, he, rfl⟩ := wi_rng (n := 5) (by decide) hc1
    have hl : ∃ l, lm = nI l ∧ 1 ≤ l ∧ l ≤ 12 := by
      have hc2 := of_decide_eq_true hc2
      have p1 : ¬ lm < 0 := fun z => hc2.1 (Int32.lt_iff_toInt_lt.mpr (by
        have z := Int32.lt_iff_toInt_lt.mp z
        have e1 : (1 : Int32).toInt = 1 := by decide
        have e0 : (0 : Int32).toInt = 0 := by decide
        omega))
      obtain ⟨l, hl, rfl⟩ := rng (n := 12) (by decide) p1 hc2.2
      refine ⟨l, rfl, ?_, by omega⟩
      apply Nat.le_of_not_lt
      intro z
      exact hc2.1 (nI_lt (b := 1) z (by decide))
    obtain ⟨l, rfl, hl1, hl2⟩ := hl
    have hcl : (nI e).toNatClampNeg = e := nI_clamp (by omega)
    dsimp only
    rw [hcl]
    split
    · rename_i hz
      dsimp only
      have en : ∀ j, ¬ (200 + 10 * e ≤ j ∧ j ≤ 203 + 10 * e) → upd (upd (upd (upd s.1 (200 + 10 * e) 1) (201 + 10 * e) (nI l)) (202 + 10 * e) de) (203 + 10 * e) du j = s.1 j := fun j hj => by
        rw [pk_un (by omega), pk_un (by omega), pk_un (by omega), pk_un (by omega)]
      have e0 : upd (upd (upd (upd s.1 (200 + 10 * e) 1) (201 + 10 * e) (nI l)) (202 + 10 * e) de) (203 + 10 * e) du (200 + 10 * e) = 1 := by
        rw [pk_un (by omega), pk_un (by omega), pk_un (by omega), pk_us]
      have e1 : upd (upd (upd (upd s.1 (200 + 10 * e) 1) (201 + 10 * e) (nI l)) (202 + 10 * e) de) (203 + 10 * e) du (201 + 10 * e) = nI l := by
        rw [pk_un (by omega), pk_un (by omega), pk_us]
      refine h.I (fun q hq6 => ?_) (fun i hi hi2 => ?_) (en _ (by omega)) (fun q hq6 w => ?_) (fun i hi w => ?_) (fun c hcc => ?_) (fun c hcc w => ?_) (fun c hcc => en _ (by omega))
      · by_cases hie : q = e
        · subst hie
          exact ⟨l, e1, hl1, hl2⟩
        · rw [en _ (by omega)]; exact h.1.1 q hq6
      · rw [en _ (by omega)] at hi2 ⊢
        exact h.1.2.1 i hi hi2
      · by_cases hie : q = e
        · subst hie; rw [e0]; decide
        · rw [en _ (by omega)]; exact w
      · rw [en _ (by omega)]; exact w
      · rw [en _ (by omega)]; exact h.2.2.2.2.1 c hcc
      · rw [en _ (by omega)] at w; exact w
    · exact h
  · exact h
theorem v_pf {P T : Nat} {s : St} {x n : Int32} (h : IV P T s) : IV P T ((opPf s.1 x n).2, s.2) := by
  unfold opPf
  split
  · rename_i hc
    rw [Bool.and_eq_true] at hc
    obtain ⟨hc1, hc2⟩ := hc
    obtain ⟨e, he, rfl⟩ := wi_rng (n := 3) (by decide) hc1
    have hl : ∃ l, n = nI l ∧ l ≤ 12 := by
      have hc2 := of_decide_eq_true hc2
      have p1 : ¬ n < 0 := fun z => hc2.1 (Int32.lt_iff_toInt_lt.mpr (by
        have z := Int32.lt_iff_toInt_lt.mp z
        have e1 : (1 : Int32).toInt = 1 := by decide
        have e0 : (0 : Int32).toInt = 0 := by decide
        omega))
      obtain ⟨l, hl, rfl⟩ := rng (n := 12) (by decide) p1 hc2.2
      exact ⟨l, rfl, by omega⟩
    obtain ⟨l, rfl, hl⟩ := hl
    dsimp only
    rw [nI_clamp (by omega)]
    have en : ∀ j, j ≠ 300 + 10 * e → upd s.1 (300 + 10 * e) (nI l) j = s.1 j := fun j hj => pk_un hj
    refine h.I (fun q hq6 => ?_) (fun i hi hi2 => ?_) (en _ (by omega)) (fun q hq6 w => ?_) (fun i hi w => ?_) (fun c hcc => ?_) (fun c hcc w => ?_) (fun c hcc => en _ (by omega))
    · rw [en _ (by omega)]; exact h.1.1 q hq6
    · rw [en _ (by omega)] at hi2 ⊢
      exact h.1.2.1 i hi hi2
    · rw [en _ (by omega)]; exact w
    · rw [en _ (by omega)]; exact w
    · by_cases hce : c = e
      · subst hce; exact ⟨l, hl, pk_us⟩
      · rw [en _ (by omega)]; exact h.2.2.2.2.1 c hcc
    · rw [en _ (by omega)] at w; exact w
  · exact h
theorem v_bg {P T : Nat} {s : St} {x : Int32} (h : IV P T s) : IV P T ((opBg s.1 x).2, s.2) := by
  unfold opBg
  split
  · rename_i hc
    obtain ⟨e, he, rfl⟩ := wi_rng (n := 3) (by decide) hc
    rw [nI_clamp (by omega)]
    split
    · dsimp only
      have en : ∀ j, j ≠ 301 + 10 * e → upd s.1 (301 + 10 * e) 1 j = s.1 j := fun j hj => pk_un hj
      refine h.I (fun q hq6 => ?_) (fun i hi hi2 => ?_) (en _ (by omega)) (fun q hq6 w => ?_) (fun i hi w => ?_) (fun c hcc => ?_) (fun c hcc w => ?_) (fun c hcc => en _ (by omega))
      · rw [en _ (by omega)]; exact h.1.1 q hq6
      · rw [en _ (by omega)] at hi2 ⊢
        exact h.1.2.1 i hi hi2
      · rw [en _ (by omega)]; exact w
      · rw [en _ (by omega)]; exact w
      · rw [en _ (by omega)]; exact h.2.2.2.2.1 c hcc
      · by_cases hce : c = e
        · subst hce
          rw [pk_us] at w
          exact absurd w (by decide)
        · rw [en _ (by omega)] at w; exact w
    · exact h
  · exact h
theorem isEx_dec {I : Nat → Int32} {x : Int32} (h : isEx I x = true) : ∃ e, e < 5 ∧ x = nI e ∧ ¬ I (100 + 10 * e) = 0 := by
  unfold isEx at h
  rw [Bool.and_eq_true, decide_eq_true_eq, decide_eq_true_eq] at h
  obtain ⟨e, he, rfl⟩ := rng (n := 4) (by decide) h.1.1 h.1.2
  rw [nI_clamp (by omega)] at h
  exact ⟨e, he, rfl, h.2⟩
theorem isQu_dec {I : Nat → Int32} {x : Int32} (h : isQu I x = true) : ∃ e, e < 6 ∧ x = nI e ∧ ¬ I (200 + 10 * e) = 0 := by
  unfold isQu at h
  rw [Bool.and_eq_true, decide_eq_true_eq, decide_eq_true_eq] at h
  obtain ⟨e, he, rfl⟩ := rng (n := 5) (by decide) h.1.1 h.1.2
  rw [nI_clamp (by omega)] at h
  exact ⟨e, he, rfl, h.2⟩
/-- only bindings change -/
theorem IV.B {P T : Nat} {s : St} {l : List Bnd} (h : IV P T s) (hb : BI s.1 (upB s.2 0 l)) : IV P T (s.1, upB s.2 0 l) := by
  obtain ⟨⟨h1, h2, h3, h4, h5, h6, h7, h8⟩, a2, a3, a4, a5⟩ := h
  exact ⟨⟨h1, h2, CQ.cg rfl h3, LB.cg rfl h4, h5.cg (fun _ _ => rfl), h6, hb, h8⟩, a2, a3, a4, a5⟩
theorem v_bd {P T : Nat} {s : St} {x1 x2 x3 : Int32} (h : IV P T s) : IV P T (s.1, (opBd s.1 s.2 x1 x2 x3).2) := by
  unfold opBd
  split
  · rename_i hc
    rw [Bool.and_eq_true, Bool.and_eq_true] at hc
    split
    · exact h
    · split
      · rename_i hl
        refine h.B ⟨?_, fun b hb => ?_⟩
        · rw [uB_s, List.length_append, List.length_singleton]; omega
        · rw [uB_s] at hb
          rcases List.mem_append.mp hb with hb | hb
          · exact h.1.2.2.2.2.2.2.1.2 b hb
          · rw [List.mem_singleton.mp hb]
            exact ⟨hc.2, isEx_dec hc.1.1, isQu_dec hc.1.2⟩
      · exact h
  · exact h
theorem v_ub {P T : Nat} {s : St} {x1 x2 x3 : Int32} (h : IV P T s) : IV P T (s.1, (opUb s.1 s.2 x1 x2 x3).2) := by
  unfold opUb
  split
  · split
    · refine h.B ⟨?_, fun b hb => ?_⟩
      · rw [uB_s]
        exact Nat.le_trans er_sub.length_le h.1.2.2.2.2.2.2.1.1
      · rw [uB_s] at hb
        exact h.1.2.2.2.2.2.2.1.2 b (List.mem_of_mem_eraseIdx hb)
    · exact h
  · exact h
/-- only rows change -/
theorem IV.R {P T q : Nat} {s : St} {l : List Con} (h : IV P T s) (h1 : ∀ x, x ∈ l → ∃ c, c < 4 ∧ x.1 = nI c) (h2 : ∀ c, c < 4 → l.countP (nEq (nI c)) ≤ 1) (h3 : q < 6 → s.1 (200 + 10 * q) = 0 → l = []) : IV P T (s.1, upR s.2 (8 + q) l) := by
  obtain ⟨⟨g1, g2, g3, g4, g5, g6, g7, g8⟩, a2, a3, a4, a5⟩ := h
  refine ⟨⟨g1, g2, CQ.cg rfl g3, LB.cg rfl g4, g5.cg (fun _ _ => rfl), g6, g7, g8⟩, a2, fun p hp => ?_, a4, a5⟩
  by_cases hz : 8 + p = 8 + q
  · obtain rfl : p = q := by omega
    show (∀ x, x ∈ uR (upR s.2 (8 + p) l) (8 + p) → _) ∧ _
    rw [uR_s]
    exact ⟨h1, h2, h3 hp⟩
  · show (∀ x, x ∈ uR (upR s.2 (8 + q) l) (8 + p) → _) ∧ _
    rw [uR_n hz]
    exact a3 p hp
theorem ix_all {α : Type} {p : α → Bool} : ∀ {l : List α}, ¬ ix p l < l.length → ∀ x, x ∈ l → p x = false := by
  intro l
  induction l with
  | nil => intro _ x hx; cases hx
  | cons y l ih =>
    intro h x hx
    unfold ix at h
    split at h
    · exact absurd (Nat.succ_pos _) h
    · rename_i hp
      rcases List.mem_cons.mp hx with rfl | hx
      · exact Bool.eq_false_iff.mpr hp
      · exact ih (fun z => h (Nat.succ_lt_succ z)) x hx
theorem v_cs {P T : Nat} {s : St} {x1 x2 : Int32} {au : Bool} (h : IV P T s) : IV P T (s.1, (opCs s.1 s.2 x1 x2 au).2) := by
  unfold opCs
  split
  · rename_i hc
    rw [Bool.and_eq_true] at hc
    obtain ⟨c, hcc, rfl⟩ := wi_rng (n := 3) (by decide) hc.1
    obtain ⟨q, hq6, rfl, hd⟩ := isQu_dec hc.2
    dsimp only
    rw [nI_clamp (by omega)]
    split
    · exact h
    · rename_i hn
      obtain ⟨w1, w2, w3⟩ := h.2.2.1 q hq6
      refine h.R (fun x hx => ?_) (fun c' hc' => ?_) (fun _ z => absurd z hd)
      · rcases List.mem_append.mp hx with hx | hx
        · exact w1 x hx
        · rw [List.mem_singleton.mp hx]
          exact ⟨c, hcc, rfl⟩
      · rw [List.countP_append]
        by_cases hz : c' = c
        · subst hz
          rw [List.countP_eq_zero.mpr (fun x hx => by rw [ix_all hn x hx]; decide)]
          show 0 + List.countP _ [_] ≤ 1
          rw [List.countP_cons, List.countP_nil]
          split <;> omega
        · have : List.countP (nEq (nI c')) [(nI c, au)] = 0 := by
            rw [List.countP_eq_zero]
            intro x hx
            rw [List.mem_singleton.mp hx]
            intro w
            have w : nI c = nI c' := of_decide_eq_true w
            exact hz ((nI_eq (by omega) (by omega)).mp w).symm
          rw [this]
          exact w2 c' hc'
  · exact h
theorem v_ca {P T : Nat} {s : St} {x1 x2 : Int32} (h : IV P T s) : IV P T (s.1, (opCa s.1 s.2 x1 x2).2) := by
  unfold opCa
  split
  · rename_i hc
    rw [Bool.and_eq_true] at hc
    obtain ⟨q, hq6, rfl, hd⟩ := isQu_dec hc.2
    dsimp only
    rw [nI_clamp (by omega)]
    obtain ⟨w1, w2, w3⟩ := h.2.2.1 q hq6
    have hsub : (rmN x1 (uR s.2 (8 + q))).Sublist (uR s.2 (8 + q)) := by
      unfold rmN
      split
      · exact er_sub
      · exact List.Sublist.refl _
    exact h.R (fun x hx => w1 x (hsub.subset hx)) (fun c' hc' => Nat.le_trans (hsub.countP_le) (w2 c' hc')) (fun _ z => absurd z hd)
  · exact h
