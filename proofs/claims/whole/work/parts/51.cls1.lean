/-! the class: frames, fixed objects, declared or not -/
/-- what is not the class's stays -/
def KC (h h' : AH) : Prop := ∀ (b t : Nat) (vs : List Value), (t = 11 ∨ t = 104 ∨ t = 105 ∨ t = 200 ∨ t = 201) → at_ h b t vs → at_ h' b t vs
theorem KC.refl {h : AH} : KC h h := fun _ _ _ _ h => h
theorem KC.trans {h h' h'' : AH} (h1 : KC h h') (h2 : KC h' h'') : KC h h'' := fun b t vs z hb => h2 b t vs z (h1 b t vs z hb)
theorem KL.kc {h h' : AH} (hk : KL h h') : KC h h' := fun b t vs z hb => hk b t vs (by omega) (by omega) (by omega) hb
theorem KC.set {h : AH} {a t : Nat} {vs : List Value} {e : Nat × List Value} (ha : at_ h a t vs) (ht : t ≤ 10) : KC h (ah_set h a e) := fun b t' vs' z hb => at_n hb (at_ne hb ha (by omega))
theorem KC.new {h : AH} {e : Nat × List Value} (hf : Fr h) : KC h (ah_new h e) := fun b t vs z hb => at_old hf hb (by omega)
/-- a fixed object's numbers are written -/
theorem RS.wr {gc : Nat → Nat} {h : AH} {A : Nat → Nat} {I I' : Nat → Int32} {xs : Nat → List Nat} {nc ns a t : Nat} {vs vs' : List Value} (hR : RS gc h A I xs nc ns) (ha : at_ h a t vs) (ht : t = 2 ∨ t = 6 ∨ t = 8 ∨ t = 9) (hF : RF gc (ah_set h a (t, vs')) A I') : RS gc (ah_set h a (t, vs')) A I' xs nc ns := by
  obtain ⟨hA, hf, -, le, lc, hL, b1, b2⟩ := hR
  refine ⟨hA, hf.set ha (by omega), hF, le, lc, ⟨fun i hi => ?_, hL.2⟩, b1, b2⟩
  obtain ⟨⟨⟨m, g1⟩, g2, g3, g4, g5⟩, g6⟩ := hL.1 i hi
  refine ⟨⟨⟨m, at_n g1 (at_ne g1 ha (by omega))⟩, g2, g3, ?_, g5.set ha ?_⟩, g6⟩
  · rcases g4 with ⟨z1, z2, z3⟩ | ⟨z1, z3⟩
    · exact Or.inl ⟨z1, z2, at_n z3 (at_ne z3 ha (by omega))⟩
    · exact Or.inr ⟨z1, at_n z3 (at_ne z3 ha (by omega))⟩
  · rcases ht with rfl | rfl | rfl | rfl <;> rfl
theorem KO.set {h : AH} {a t : Nat} {vs : List Value} {e : Nat × List Value} (ha : at_ h a t vs) (ht : ¬ (t = 1 ∨ t = 3 ∨ t = 4 ∨ t = 5 ∨ t = 7)) : KO h (ah_set h a e) := fun b t' vs' z hb => at_n hb (at_ne hb ha (by omega))
theorem KO.new {h : AH} {e : Nat × List Value} (hf : Fr h) : KO h (ah_new h e) := fun b t vs z hb => at_old hf hb (by omega)
/-- an object more -/
theorem RS.new {gc : Nat → Nat} {h : AH} {A : Nat → Nat} {I : Nat → Int32} {xs : Nat → List Nat} {nc ns t : Nat} {vs : List Value} (hR : RS gc h A I xs (nc + 1) (ns + 10)) (hl : vs.length ≤ 10) (r1 : 3000 ≤ nc) (r2 : 800000 ≤ ns) : RS gc (ah_new h (t, vs)) A I xs nc ns ∧ 100 ≤ h.2.1 ∧ 100000 ≤ h.2.2.1 := by
  obtain ⟨hA, hf, hF, le, lc, hL, b1, b2⟩ := hR
  obtain ⟨q1, q2⟩ := rs_room hL b1 b2 (by omega) (by omega)
  have k : ∀ b t' vs', t' ≠ 0 → at_ h b t' vs' → at_ (ah_new h (t, vs)) b t' vs' := fun b t' vs' z hb => at_old hf hb z
  refine ⟨⟨hA, hf.new, hF.kl (fun b t' vs' z _ _ hb => k b t' vs' z hb), le, lc, ⟨fun i hi => ?_, hL.2⟩, ?_, ?_⟩, q1, q2⟩
  · obtain ⟨g1, g2⟩ := hL.1 i hi
    exact ⟨g1.keep (fun vs' hv => k _ _ _ (by decide) hv) (fun _ vs' hv => k _ _ _ (by decide) hv) (fun b t' vs' z _ _ hb => k b t' vs' z hb), g2⟩
  · show nc ≤ h.2.1 - 1 + sm lc
    omega
  · show ns ≤ h.2.2.1 - vs.length + sm2 lc
    omega
theorem set_new {h : AH} {t : Nat} {vs ws : List Value} (hl : vs.length = ws.length) : ah_set (ah_new h (t, vs)) h.1 (t, ws) = ah_new h (t, ws) := by
  unfold ah_set ah_new ah_up
  simp only [hl]
  congr 3
  funext b
  by_cases hb : b = h.1
  · simp [hb]
  · simp [hb]
theorem rng {x : Int32} {n : Nat} (hn : n < 2 ^ 31) (h1 : ¬ x < 0) (h2 : ¬ nI n < x) : ∃ e : Nat, e < n + 1 ∧ x = nI e := by
  obtain ⟨j, hj, rfl⟩ := nI_of h1
  refine ⟨j, ?_, rfl⟩
  apply Nat.lt_of_not_le
  intro z
  exact h2 (nI_lt (by omega) hj)
theorem b2i_z {b : Bool} : b2i b = 0 ↔ b = false := by cases b <;> simp [b2i]
/-- the arrays' places -/
theorem RF.exA {gc : Nat → Nat} {h : AH} {A : Nat → Nat} {I : Nat → Int32} (hF : RF gc h A I) {e : Nat} (he : e < 5) : ∃ (t : Nat) (vs : List Value), at_ h (A 1) t vs ∧ isRA t = true ∧ ¬ nI e < 0 ∧ vs[(nI e).toNatClampNeg]? = some (.ref (A (10 + e))) := by
  refine ⟨100, _, hF.2.2.1, rfl, nI_pos (by omega), ?_⟩
  rw [nI_clamp (by omega)]
  match e, he with
  | 0, _ => rfl
  | 1, _ => rfl
  | 2, _ => rfl
  | 3, _ => rfl
  | 4, _ => rfl
theorem RF.quA {gc : Nat → Nat} {h : AH} {A : Nat → Nat} {I : Nat → Int32} (hF : RF gc h A I) {e : Nat} (he : e < 6) : ∃ (t : Nat) (vs : List Value), at_ h (A 2) t vs ∧ isRA t = true ∧ ¬ nI e < 0 ∧ vs[(nI e).toNatClampNeg]? = some (.ref (A (20 + e))) := by
  refine ⟨101, _, hF.2.2.2.1, rfl, nI_pos (by omega), ?_⟩
  rw [nI_clamp (by omega)]
  match e, he with
  | 0, _ => rfl
  | 1, _ => rfl
  | 2, _ => rfl
  | 3, _ => rfl
  | 4, _ => rfl
  | 5, _ => rfl
theorem RF.chA {gc : Nat → Nat} {h : AH} {A : Nat → Nat} {I : Nat → Int32} (hF : RF gc h A I) {e : Nat} (he : e < 4) : ∃ (t : Nat) (vs : List Value), at_ h (A 3) t vs ∧ isRA t = true ∧ ¬ nI e < 0 ∧ vs[(nI e).toNatClampNeg]? = some (.ref (A (30 + e))) := by
  refine ⟨102, _, hF.2.2.2.2.1, rfl, nI_pos (by omega), ?_⟩
  rw [nI_clamp (by omega)]
  match e, he with
  | 0, _ => rfl
  | 1, _ => rfl
  | 2, _ => rfl
  | 3, _ => rfl
def isEx (I : Nat → Int32) (x : Int32) : Bool := decide (¬ x < 0 ∧ ¬ 4 < x) && decide (¬ I (100 + 10 * x.toNatClampNeg) = 0)
def isQu (I : Nat → Int32) (x : Int32) : Bool := decide (¬ x < 0 ∧ ¬ 5 < x) && decide (¬ I (200 + 10 * x.toNatClampNeg) = 0)
theorem k_isE {gc : Nat → Nat} {d : Nat} {h : AH} {A : Nat → Nat} {I : Nat → Int32} {x : Int32} (hF : RF gc h A I) : WP gc (d + 2) 11 [.ref (A 0), .int x] h (fun r h' => r = some (.int (b2i (isEx I x))) ∧ h' = h) := by
  refine M11 ⟨_, k_isWithin, ?_⟩
  rintro r h' ⟨rfl, rfl⟩
  refine ⟨_, rfl, fun z => ?_, fun z => ?_⟩
  · have z1 := b2i_z.mp z
    refine B11_25 (B11_26 ⟨Or.inl rfl, ?_, rfl⟩)
    unfold isEx
    rw [z1]
    rfl
  · have z1 : ¬ x < 0 ∧ ¬ 4 < x := of_decide_eq_true (by
      cases hz : decide (¬ x < 0 ∧ ¬ 4 < x) with
      | true => rfl
      | false => exact absurd (b2i_z.mpr hz) z)
    obtain ⟨e, he, rfl⟩ := rng (n := 4) (by decide) z1.1 z1.2
    obtain ⟨t, vs, g1, g2, g3, g4⟩ := hF.exA he
    have hb : isEx I (nI e) = decide (¬ I (100 + 10 * e) = 0) := by
      unfold isEx
      rw [nI_clamp (by omega), decide_eq_true z1, Bool.true_and]
    rw [hb]
    refine ⟨_, _, hF.2.1, rfl, t, vs, _, g1, g2, g3, g4, _, _, hF.2.2.2.2.2.1 e he, rfl, fun z2 => B11_25 (B11_26 ⟨Or.inl rfl, ?_, rfl⟩), fun z2 => B11_26 ⟨Or.inr rfl, ?_, rfl⟩⟩
    · rw [z2]; rfl
    · rw [decide_eq_true z2]; rfl
theorem k_isQ {gc : Nat → Nat} {d : Nat} {h : AH} {A : Nat → Nat} {I : Nat → Int32} {x : Int32} (hF : RF gc h A I) : WP gc (d + 2) 12 [.ref (A 0), .int x] h (fun r h' => r = some (.int (b2i (isQu I x))) ∧ h' = h) := by
  refine M12 ⟨_, k_isWithin, ?_⟩
  rintro r h' ⟨rfl, rfl⟩
  refine ⟨_, rfl, fun z => ?_, fun z => ?_⟩
  · have z1 := b2i_z.mp z
    refine B12_25 (B12_26 ⟨Or.inl rfl, ?_, rfl⟩)
    unfold isQu
    rw [z1]
    rfl
  · have z1 : ¬ x < 0 ∧ ¬ 5 < x := of_decide_eq_true (by
      cases hz : decide (¬ x < 0 ∧ ¬ 5 < x) with
      | true => rfl
      | false => exact absurd (b2i_z.mpr hz) z)
    obtain ⟨e, he, rfl⟩ := rng (n := 5) (by decide) z1.1 z1.2
    obtain ⟨t, vs, g1, g2, g3, g4⟩ := hF.quA he
    have hb : isQu I (nI e) = decide (¬ I (200 + 10 * e) = 0) := by
      unfold isQu
      rw [nI_clamp (by omega), decide_eq_true z1, Bool.true_and]
    rw [hb]
    refine ⟨_, _, hF.2.1, rfl, t, vs, _, g1, g2, g3, g4, _, _, hF.2.2.2.2.2.2.1 e he, rfl, fun z2 => B12_25 (B12_26 ⟨Or.inl rfl, ?_, rfl⟩), fun z2 => B12_26 ⟨Or.inr rfl, ?_, rfl⟩⟩
    · rw [z2]; rfl
    · rw [decide_eq_true z2]; rfl
