/-! digits, patterns, keys: what both sides compute -/
def b2i (b : Bool) : Int32 := if b then 1 else 0
theorem b2i_01 (b : Bool) : b2i b = 0 ∨ b2i b = 1 := by cases b <;> simp [b2i]
def dg (p : Int32) (i : Nat) : Nat := p.toBitVec.toNat / 2 ^ (4 * i) % 16
theorem dg_lt (p : Int32) (i : Nat) : dg p i < 16 := Nat.mod_lt _ (by decide)
theorem sh4 : ∀ i, i < 8 → (((4 * nI i).toUInt32 &&& Int32.toUInt32 31).toBitVec % 32).toNat = 4 * i := by decide
theorem dg_eq {p : Int32} {i : Nat} (hi : i < 8) : ((p.toUInt32 >>> ((4 * nI i).toUInt32 &&& Int32.toUInt32 31)).toInt32 &&& 15) = nI (dg p i) := by
  rw [pk_and _ 4 (by decide), pk_ushr _ _ _ (sh4 i hi)]
  rfl
theorem k_isWithin {gc : Nat → Nat} {d : Nat} {h : AH} {x lo hi : Int32} : WP gc (d + 1) 8 [.int x, .int lo, .int hi] h (fun r h' => r = some (.int (b2i (decide (¬ x < lo ∧ ¬ hi < x)))) ∧ h' = h) := by
  refine M8 ⟨fun z => B8_14 (B8_15 ⟨Or.inl rfl, ?_, rfl⟩), fun z => ⟨fun z2 => B8_14 (B8_15 ⟨Or.inl rfl, ?_, rfl⟩), fun z2 => B8_15 ⟨Or.inr rfl, ?_, rfl⟩⟩⟩
  · simp [b2i, z]
  · simp [b2i, z2]
  · simp [b2i, z, z2]
theorem k_itemAt {gc : Nat → Nat} {d i : Nat} {h : AH} {p : Int32} (hi : i < 8) : WP gc (d + 1) 15 [.int p, .int (nI i)] h (fun r h' => r = some (.int (nI (dg p i))) ∧ h' = h) :=
  M15 ⟨by rw [dg_eq hi], rfl⟩
def ctF (f : Nat → Nat) : Nat → Nat → Nat
  | 0, i => i
  | n + 1, i => if f i = 0 then i else ctF f n (i + 1)
def ct (p : Int32) : Nat := ctF (dg p) 8 0
theorem ctF_le {f : Nat → Nat} : ∀ n i, i ≤ ctF f n i ∧ ctF f n i ≤ i + n := by
  intro n
  induction n with
  | zero => intro i; exact ⟨Nat.le_refl _, Nat.le_refl _⟩
  | succ n ih =>
    intro i
    unfold ctF
    split
    · omega
    · have := ih (i + 1)
      omega
theorem ct_le (p : Int32) : ct p ≤ 8 := by
  have := (ctF_le (f := dg p) 8 0).2
  unfold ct
  omega
theorem nI_z {n : Nat} (h : n < 2 ^ 31) : nI n = 0 ↔ n = 0 := by
  constructor
  · intro z
    apply Nat.eq_zero_of_not_pos
    intro h0
    exact nI_ne0 h0 h z
  · rintro rfl; rfl
theorem count_loop {gc : Nat → Nat} {d : Nat} {h : AH} {p : Int32} {q : PT} : ∀ n i, i + n = 8 → q (some (.int (nI (ctF (dg p) n i)))) h → TT gc (d + 1) 14 q 2 [.int p, .int (nI i)] [] h := by
  intro n
  induction n with
  | zero =>
    intro i hi hq
    exact B14_2 ⟨fun _ => B14_22 hq, fun z => absurd (show (8 : Int32) ≤ nI i from nI_le (a := 8) (by omega) (by omega)) z⟩
  | succ n ih =>
    intro i hi hq
    refine B14_2 ⟨fun z => absurd z (show ¬ (8 : Int32) ≤ nI i from nI_ge (b := 8) (by omega) (by decide)), fun _ => ⟨_, k_itemAt (by omega), ?_⟩⟩
    rintro r h' ⟨rfl, rfl⟩
    have hlt := dg_lt p i
    unfold ctF at hq
    refine ⟨_, rfl, fun z => ?_, fun z => ?_⟩
    · rw [if_pos ((nI_z (by omega)).mp z)] at hq
      exact B14_22 hq
    · rw [if_neg (fun z2 => z ((nI_z (by omega)).mpr z2))] at hq
      rw [nI_1]
      exact ih (i + 1) (by omega) hq
theorem k_count {gc : Nat → Nat} {d : Nat} {h : AH} {p : Int32} : WP gc (d + 2) 14 [.int p] h (fun r h' => r = some (.int (nI (ct p))) ∧ h' = h) :=
  M14 (count_loop 8 0 rfl ⟨rfl, rfl⟩)
/-- from place i on all digits are 0 -/
def zF (f : Nat → Nat) : Nat → Nat → Bool
  | 0, _ => true
  | n + 1, i => f i == 0 && zF f n (i + 1)
def isPat (p : Int32) : Bool := zF (dg p) (8 - ct p) (ct p)
theorem pat_loop {gc : Nat → Nat} {d : Nat} {h : AH} {p : Int32} {q : PT} : ∀ n i, i + n = 8 → q (some (.int (b2i (zF (dg p) n i)))) h → TT gc (d + 1) 13 q 5 [.int p, .int (nI i)] [] h := by
  intro n
  induction n with
  | zero =>
    intro i hi hq
    exact B13_5 ⟨fun _ => B13_27 ⟨Or.inr rfl, hq⟩, fun z => absurd (show (8 : Int32) ≤ nI i from nI_le (a := 8) (by omega) (by omega)) z⟩
  | succ n ih =>
    intro i hi hq
    refine B13_5 ⟨fun z => absurd z (show ¬ (8 : Int32) ≤ nI i from nI_ge (b := 8) (by omega) (by decide)), fun _ => ⟨_, k_itemAt (by omega), ?_⟩⟩
    rintro r h' ⟨rfl, rfl⟩
    have hlt := dg_lt p i
    unfold zF at hq
    refine ⟨_, rfl, fun z => ?_, fun z => ?_⟩
    · have z0 := (nI_z (by omega)).mp z
      rw [show (dg p i == 0) = true by simp [z0], Bool.true_and] at hq
      refine B13_21 ?_
      rw [nI_1]
      exact ih (i + 1) (by omega) hq
    · have z0 : ¬ dg p i = 0 := fun z2 => z ((nI_z (by omega)).mpr z2)
      rw [show (dg p i == 0) = false by simp [z0], Bool.false_and] at hq
      exact ⟨Or.inl rfl, hq⟩
theorem k_isPattern {gc : Nat → Nat} {d : Nat} {h : AH} {p : Int32} : WP gc (d + 3) 13 [.int p] h (fun r h' => r = some (.int (b2i (isPat p))) ∧ h' = h) := by
  refine M13 ⟨_, k_count, ?_⟩
  rintro r h' ⟨rfl, rfl⟩
  have := ct_le p
  exact ⟨_, rfl, pat_loop (8 - ct p) (ct p) (by omega) ⟨rfl, rfl⟩⟩
theorem k_isChannel {gc : Nat → Nat} {d : Nat} {h : AH} {x : Int32} : WP gc (d + 2) 40 [.int x] h (fun r h' => r = some (.int (b2i (decide (¬ x < 0 ∧ ¬ 3 < x)))) ∧ h' = h) := by
  refine M40 ⟨_, k_isWithin, ?_⟩
  rintro r h' ⟨rfl, rfl⟩
  exact ⟨_, rfl, b2i_01 _, rfl, rfl⟩
/-- all digits from place i on are words or nothing -/
def kF (f : Nat → Nat) : Nat → Nat → Bool
  | 0, _ => true
  | n + 1, i => decide (f i < 14) && kF f n (i + 1)
def isKeyB (p : Int32) : Bool := kF (dg p) 8 0 && isPat p
theorem key_loop {gc : Nat → Nat} {d : Nat} {h : AH} {p : Int32} {q : PT} : ∀ n i, i + n = 8 → q (some (.int (b2i (kF (dg p) n i && isPat p)))) h → TT gc (d + 3) 41 q 2 [.int p, .int (nI i)] [] h := by
  intro n
  induction n with
  | zero =>
    intro i hi hq
    refine B41_2 ⟨fun _ => B41_26 ⟨_, k_isPattern, ?_⟩, fun z => absurd (show (8 : Int32) ≤ nI i from nI_le (a := 8) (by omega) (by omega)) z⟩
    rintro r h' ⟨rfl, rfl⟩
    exact ⟨_, rfl, b2i_01 _, hq⟩
  | succ n ih =>
    intro i hi hq
    refine B41_2 ⟨fun z => absurd z (show ¬ (8 : Int32) ≤ nI i from nI_ge (b := 8) (by omega) (by decide)), fun _ => ⟨_, k_itemAt (by omega), ?_⟩⟩
    rintro r h' ⟨rfl, rfl⟩
    have hlt := dg_lt p i
    unfold kF at hq
    refine ⟨_, rfl, fun z => ?_, fun z => ?_⟩
    · have z0 : dg p i < 14 := (nI_ltI (b := 14) (by omega) (by decide)).mp z
      rw [decide_eq_true z0, Bool.true_and] at hq
      refine B41_20 ?_
      rw [nI_1]
      exact ih (i + 1) (by omega) hq
    · have z0 : ¬ dg p i < 14 := fun z2 => z ((nI_ltI (b := 14) (by omega) (by decide)).mpr z2)
      rw [decide_eq_false z0, Bool.false_and, Bool.false_and] at hq
      exact ⟨Or.inl rfl, hq⟩
theorem k_isKey {gc : Nat → Nat} {d : Nat} {h : AH} {p : Int32} : WP gc (d + 4) 41 [.int p] h (fun r h' => r = some (.int (b2i (isKeyB p))) ∧ h' = h) :=
  M41 (key_loop 8 0 rfl ⟨rfl, rfl⟩)
