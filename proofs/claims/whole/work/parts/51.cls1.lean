/-! the class: frames, fixed objects, declared or not -/
/-- what is not the class's stays -/
def KC (h h' : AH) : Prop := ∀ (b t : Nat) (vs : List Value), (t = 11 ∨ t = 104 ∨ t = 105 ∨ t = 200 ∨ t = 201) → at_ h b t vs → at_ h' b t vs
theorem KC.refl {h : AH} : KC h h := fun _ _ _ _ h => h
theorem KC.trans {h h' h'' : AH} (h1 : KC h h') (h2 : KC h' h'') : KC h h'' := fun b t vs z hb => h2 b t vs z (h1 b t vs z hb)
theorem KL.kc {h h' : AH} (hk : KL h h') : KC h h' := fun b t vs z hb => hk b t vs (by omega) (by omega) (by omega) hb
theorem KC.set {h : AH} {a t : Nat} {vs : List Value} {e : Nat × List Value} (ha : at_ h a t vs) (ht : t ≤ 10) : KC h (ah_set h a e) := fun b t' vs' z hb => at_n hb (at_ne hb ha (by omega))
theorem KC.new {h : AH} {e : Nat × List Value} (hf : Fr h) : KC h (ah_new h e) := fun b t vs z hb => at_old hf hb (by omega)
/-- a fixed object's numbers are written -/
theorem RS.wr {gc : Nat → Nat} {h : AH} {A : Nat → Nat} {I I' : Nat → Int32} {xs : Nat → List Nat} {nc ns a t : Nat} {vs vs' : List Value} (hR : RS gc h A I xs nc ns) (ha : at_ h a t vs) (ht : t = 2 ∨ t = 6 ∨ t = 8 ∨ t = 9) (hF : RF gc (ah_set h a (t, vs')) A I') : RS gc (ah_set h a (t, vs')) A I' xs nc ns := by
  obtain ⟨hA, hf, -, le, lc, hL, b1, b2⟩ := hR
  refine ⟨hA, hf.set ha (by omega), hF, le, lc, ⟨fun i hi => ?_, hL.2⟩, b1, b2⟩
  obtain ⟨⟨⟨m, g1⟩, g2, g3, g4, g5⟩, g6⟩ := hL.1 i hi
  refine ⟨⟨⟨m, at_n g1 (at_ne g1 ha (by omega))⟩, g2, g3, ?_, g5.set ha ?_⟩, g6⟩
  · rcases g4 with ⟨z1, z2, z3⟩ | ⟨z1, z3⟩
    · exact Or.inl ⟨z1, z2, at_n z3 (at_ne z3 ha (by omega))⟩
    · exact Or.inr ⟨z1, at_n z3 (at_ne z3 ha (by omega))⟩
  · rcases ht with rfl | rfl | rfl | rfl <;> rfl
theorem CT.wr {h : AH} {xs : Nat → List Nat} {v : Mu} {a t : Nat} {vs : List Value} {e : Nat × List Value} (hc : CT h xs v) (ha : at_ h a t vs) (ht : t = 2 ∨ t = 6 ∨ t = 8 ∨ t = 9) : CT (ah_set h a e) xs v := by
  have k : ∀ b t' vs', t' = 1 ∨ t' = 3 ∨ t' = 4 ∨ t' = 5 ∨ t' = 7 → at_ h b t' vs' → at_ (ah_set h a e) b t' vs' := fun b t' vs' z hb => at_n hb (at_ne hb ha (by omega))
  have km : ∀ b m, MsgAt h b m → MsgAt (ah_set h a e) b m := fun b m hm => k _ _ _ (by omega) hm
  have kc : ∀ b r, CpAt h b r → CpAt (ah_set h a e) b r := fun b r ⟨m, h1, h2⟩ => ⟨m, k _ _ _ (by omega) h1, km _ _ h2⟩
  have kd : ∀ b r, DdAt h b r → DdAt (ah_set h a e) b r := fun b r hm => by
    unfold DdAt at *
    split at hm
    · exact k _ _ _ (by omega) hm
    · obtain ⟨m, h1, h2⟩ := hm
      exact ⟨m, k _ _ _ (by omega) h1, km _ _ h2⟩
  obtain ⟨h1, h2, h3, h4, h5, h6⟩ := hc
  exact ⟨h1.mono (fun _ _ _ z => k _ _ _ (by omega) z), h2.mono (fun _ _ _ => kc _ _), fun q hq => (h3 q hq).mono (fun _ _ _ => kc _ _), fun q hq => (h4 q hq).mono (fun _ _ _ z => k _ _ _ (by omega) z), fun c hc => (h5 c hc).mono (fun _ _ _ => kc _ _), fun c hc => (h6 c hc).mono (fun _ _ _ => kd _ _)⟩
theorem rng {x : Int32} {n : Nat} (hn : n < 2 ^ 31) (h1 : ¬ x < 0) (h2 : ¬ nI n < x) : ∃ e : Nat, e < n + 1 ∧ x = nI e := by
  obtain ⟨j, hj, rfl⟩ := nI_of h1
  refine ⟨j, ?_, rfl⟩
  apply Nat.lt_of_not_le
  intro z
  exact h2 (nI_lt (by omega) hj)
theorem b2i_z {b : Bool} : b2i b = 0 ↔ b = false := by cases b <;> simp [b2i]
/-- the arrays' places -/
theorem RF.exA {gc : Nat → Nat} {h : AH} {A : Nat → Nat} {I : Nat → Int32} (hF : RF gc h A I) {e : Nat} (he : e < 5) : ∃ (t : Nat) (vs : List Value), at_ h (A 1) t vs ∧ isRA t = true ∧ ¬ nI e < 0 ∧ vs[(nI e).toNatClampNeg]? = some (.ref (A (10 + e))) := by
  refine ⟨100, _, hF.2.2.1, rfl, nI_pos (by omega), ?_⟩
  rw [nI_clamp (by omega)]
  match e, he with
  | 0, _ => rfl
  | 1, _ => rfl
  | 2, _ => rfl
  | 3, _ => rfl
  | 4, _ => rfl
theorem RF.quA {gc : Nat → Nat} {h : AH} {A : Nat → Nat} {I : Nat → Int32} (hF : RF gc h A I) {e : Nat} (he : e < 6) : ∃ (t : Nat) (vs : List Value), at_ h (A 2) t vs ∧ isRA t = true ∧ ¬ nI e < 0 ∧ vs[(nI e).toNatClampNeg]? = some (.ref (A (20 + e))) := by
  refine ⟨101, _, hF.2.2.2.1, rfl, nI_pos (by omega), ?_⟩
  rw [nI_clamp (by omega)]
  match e, he with
  | 0, _ => rfl
  | 1, _ => rfl
  | 2, _ => rfl
  | 3, _ => rfl
  | 4, _ => rfl
  | 5, _ => rfl
theorem RF.chA {gc : Nat → Nat} {h : AH} {A : Nat → Nat} {I : Nat → Int32} (hF : RF gc h A I) {e : Nat} (he : e < 4) : ∃ (t : Nat) (vs : List Value), at_ h (A 3) t vs ∧ isRA t = true ∧ ¬ nI e < 0 ∧ vs[(nI e).toNatClampNeg]? = some (.ref (A (30 + e))) := by
  refine ⟨102, _, hF.2.2.2.2.1, rfl, nI_pos (by omega), ?_⟩
  rw [nI_clamp (by omega)]
  match e, he with
  | 0, _ => rfl
  | 1, _ => rfl
  | 2, _ => rfl
  | 3, _ => rfl
def isEx (I : Nat → Int32) (x : Int32) : Bool := decide (¬ x < 0 ∧ ¬ 4 < x) && decide (¬ I (100 + 10 * x.toNatClampNeg) = 0)
def isQu (I : Nat → Int32) (x : Int32) : Bool := decide (¬ x < 0 ∧ ¬ 5 < x) && decide (¬ I (200 + 10 * x.toNatClampNeg) = 0)
theorem k_isE {gc : Nat → Nat} {d : Nat} {h : AH} {A : Nat → Nat} {I : Nat → Int32} {x : Int32} (hF : RF gc h A I) : WP gc (d + 2) 11 [.ref (A 0), .int x] h (fun r h' => r = some (.int (b2i (isEx I x))) ∧ h' = h) := by
  refine M11 ⟨_, k_isWithin, ?_⟩
  rintro r h' ⟨rfl, rfl⟩
  refine ⟨_, rfl, fun z => ?_, fun z => ?_⟩
  · have z1 := b2i_z.mp z
    refine B11_25 (B11_26 ⟨Or.inl rfl, ?_, rfl⟩)
    unfold isEx
    rw [z1]
    rfl
  · have z1 : ¬ x < 0 ∧ ¬ 4 < x := of_decide_eq_true (by
      cases hz : decide (¬ x < 0 ∧ ¬ 4 < x) with
      | true => rfl
      | false => exact absurd (b2i_z.mpr hz) z)
    obtain ⟨e, he, rfl⟩ := rng (n := 4) (by decide) z1.1 z1.2
    obtain ⟨t, vs, g1, g2, g3, g4⟩ := hF.exA he
    have hb : isEx I (nI e) = decide (¬ I (100 + 10 * e) = 0) := by
      unfold isEx
      rw [nI_clamp (by omega), decide_eq_true z1, Bool.true_and]
    rw [hb]
    refine ⟨_, _, hF.2.1, rfl, t, vs, _, g1, g2, g3, g4, _, _, hF.2.2.2.2.2.1 e he, rfl, fun z2 => B11_25 (B11_26 ⟨Or.inl rfl, ?_, rfl⟩), fun z2 => B11_26 ⟨Or.inr rfl, ?_, rfl⟩⟩
    · rw [z2]; rfl
    · rw [decide_eq_true z2]; rfl
theorem k_isQ {gc : Nat → Nat} {d : Nat} {h : AH} {A : Nat → Nat} {I : Nat → Int32} {x : Int32} (hF : RF gc h A I) : WP gc (d + 2) 12 [.ref (A 0), .int x] h (fun r h' => r = some (.int (b2i (isQu I x))) ∧ h' = h) := by
  refine M12 ⟨_, k_isWithin, ?_⟩
  rintro r h' ⟨rfl, rfl⟩
  refine ⟨_, rfl, fun z => ?_, fun z => ?_⟩
  · have z1 := b2i_z.mp z
    refine B12_25 (B12_26 ⟨Or.inl rfl, ?_, rfl⟩)
    unfold isQu
    rw [z1]
    rfl
  · have z1 : ¬ x < 0 ∧ ¬ 5 < x := of_decide_eq_true (by
      cases hz : decide (¬ x < 0 ∧ ¬ 5 < x) with
      | true => rfl
      | false => exact absurd (b2i_z.mpr hz) z)
    obtain ⟨e, he, rfl⟩ := rng (n := 5) (by decide) z1.1 z1.2
    obtain ⟨t, vs, g1, g2, g3, g4⟩ := hF.quA he
    have hb : isQu I (nI e) = decide (¬ I (200 + 10 * e) = 0) := by
      unfold isQu
      rw [nI_clamp (by omega), decide_eq_true z1, Bool.true_and]
    rw [hb]
    refine ⟨_, _, hF.2.1, rfl, t, vs, _, g1, g2, g3, g4, _, _, hF.2.2.2.2.2.2.1 e he, rfl, fun z2 => B12_25 (B12_26 ⟨Or.inl rfl, ?_, rfl⟩), fun z2 => B12_26 ⟨Or.inr rfl, ?_, rfl⟩⟩
    · rw [z2]; rfl
    · rw [decide_eq_true z2]; rfl
