/-! digits from the other end -/
def fdF (f : Nat → Nat) : Nat → Nat → Nat
  | 0, i => i
  | n + 1, i => if f i = 0 then fdF f n (i + 1) else i
def dgt (p : Int32) (i : Nat) : Nat := dg p (7 - i)
def fd (p : Int32) : Nat := fdF (dgt p) 8 0
def nzF (f : Nat → Nat) : Nat → Nat → Bool
  | 0, _ => true
  | n + 1, i => !(f i == 0) && nzF f n (i + 1)
def isPat2 (p : Int32) : Bool := nzF (dgt p) (8 - fd p) (fd p)
def ntF (f : Nat → Nat) : Nat → Nat → Bool
  | 0, _ => true
  | n + 1, i => decide (¬ 13 < f i) && ntF f n (i + 1)
def isKey2 (p : Int32) : Bool := ntF (dgt p) 8 0 && isPat2 p
theorem fdF_sp {f : Nat → Nat} : ∀ n i, i ≤ fdF f n i ∧ fdF f n i ≤ i + n ∧ (∀ j, i ≤ j → j < fdF f n i → f j = 0) ∧ (fdF f n i < i + n → ¬ f (fdF f n i) = 0) := by
  intro n
  induction n with
  | zero => intro i; exact ⟨Nat.le_refl _, Nat.le_refl _, fun j h1 h2 => absurd h2 (Nat.not_lt.mpr h1), fun h => absurd h (Nat.lt_irrefl _)⟩
  | succ n ih =>
    intro i
    unfold fdF
    by_cases h : f i = 0
    · rw [if_pos h]
      obtain ⟨h1, h2, h3, h4⟩ := ih (i + 1)
      refine ⟨by omega, by omega, fun j w1 w2 => ?_, fun w => h4 (by omega)⟩
      by_cases hz : j = i
      · subst hz; exact h
      · exact h3 j (by omega) w2
    · rw [if_neg h]
      exact ⟨Nat.le_refl _, by omega, fun j h1 h2 => absurd h2 (Nat.not_lt.mpr h1), fun _ => h⟩
theorem ctF_sp {f : Nat → Nat} : ∀ n i, i ≤ ctF f n i ∧ ctF f n i ≤ i + n ∧ (∀ j, i ≤ j → j < ctF f n i → ¬ f j = 0) ∧ (ctF f n i < i + n → f (ctF f n i) = 0) := by
  intro n
  induction n with
  | zero => intro i; exact ⟨Nat.le_refl _, Nat.le_refl _, fun j h1 h2 => absurd h2 (Nat.not_lt.mpr h1), fun h => absurd h (Nat.lt_irrefl _)⟩
  | succ n ih =>
    intro i
    unfold ctF
    by_cases h : f i = 0
    · rw [if_pos h]
      exact ⟨Nat.le_refl _, by omega, fun j h1 h2 => absurd h2 (Nat.not_lt.mpr h1), fun _ => h⟩
    · rw [if_neg h]
      obtain ⟨h1, h2, h3, h4⟩ := ih (i + 1)
      refine ⟨by omega, by omega, fun j w1 w2 => ?_, fun w => h4 (by omega)⟩
      by_cases hz : j = i
      · subst hz; exact h
      · exact h3 j (by omega) w2
theorem zF_sp {f : Nat → Nat} : ∀ n i, zF f n i = true ↔ ∀ j, i ≤ j → j < i + n → f j = 0 := by
  intro n
  induction n with
  | zero => intro i; exact ⟨fun _ j h1 h2 => by omega, fun _ => rfl⟩
  | succ n ih =>
    intro i
    show (f i == 0 && zF f n (i + 1)) = true ↔ _
    rw [Bool.and_eq_true, beq_iff_eq, ih]
    refine ⟨fun ⟨h1, h2⟩ j w1 w2 => ?_, fun h => ⟨h i (by omega) (by omega), fun j w1 w2 => h j (by omega) (by omega)⟩⟩
    by_cases hz : j = i
    · subst hz; exact h1
    · exact h2 j (by omega) (by omega)
theorem nzF_sp {f : Nat → Nat} : ∀ n i, nzF f n i = true ↔ ∀ j, i ≤ j → j < i + n → ¬ f j = 0 := by
  intro n
  induction n with
  | zero => intro i; exact ⟨fun _ j h1 h2 => by omega, fun _ => rfl⟩
  | succ n ih =>
    intro i
    show (!(f i == 0) && nzF f n (i + 1)) = true ↔ _
    rw [Bool.and_eq_true, Bool.not_eq_true', beq_eq_false_iff_ne, ih]
    refine ⟨fun ⟨h1, h2⟩ j w1 w2 => ?_, fun h => ⟨h i (by omega) (by omega), fun j w1 w2 => h j (by omega) (by omega)⟩⟩
    by_cases hz : j = i
    · subst hz; exact h1
    · exact h2 j (by omega) (by omega)
theorem ntF_sp {f : Nat → Nat} : ∀ n i, ntF f n i = true ↔ ∀ j, i ≤ j → j < i + n → f j < 14 := by
  intro n
  induction n with
  | zero => intro i; exact ⟨fun _ j h1 h2 => by omega, fun _ => rfl⟩
  | succ n ih =>
    intro i
    show (decide (¬ 13 < f i) && ntF f n (i + 1)) = true ↔ _
    rw [Bool.and_eq_true, decide_eq_true_eq, ih]
    refine ⟨fun ⟨h1, h2⟩ j w1 w2 => ?_, fun h => ⟨by have := h i (by omega) (by omega); omega, fun j w1 w2 => h j (by omega) (by omega)⟩⟩
    by_cases hz : j = i
    · subst hz; omega
    · exact h2 j (by omega) (by omega)
theorem kF_sp {f : Nat → Nat} : ∀ n i, kF f n i = true ↔ ∀ j, i ≤ j → j < i + n → f j < 14 := by
  intro n
  induction n with
  | zero => intro i; exact ⟨fun _ j h1 h2 => by omega, fun _ => rfl⟩
  | succ n ih =>
    intro i
    show (decide (f i < 14) && kF f n (i + 1)) = true ↔ _
    rw [Bool.and_eq_true, decide_eq_true_eq, ih]
    refine ⟨fun ⟨h1, h2⟩ j w1 w2 => ?_, fun h => ⟨h i (by omega) (by omega), fun j w1 w2 => h j (by omega) (by omega)⟩⟩
    by_cases hz : j = i
    · subst hz; exact h1
    · exact h2 j (by omega) (by omega)
theorem pat_eq {p : Int32} : isPat2 p = isPat p ∧ (isPat p = true → fd p = 8 - ct p) ∧ ct p ≤ 8 ∧ fd p ≤ 8 := by
  obtain ⟨f1, f2, f3, f4⟩ := fdF_sp (f := dgt p) 8 0
  obtain ⟨c1, c2, c3, c4⟩ := ctF_sp (f := dg p) 8 0
  have f5 : ∀ j, j < 8 → 8 - fd p ≤ j → dg p j = 0 := fun j h1 h2 => by
    have := f3 (7 - j) (by omega) (by show 7 - j < fd p; omega)
    unfold dgt at this
    rw [show 7 - (7 - j) = j by omega] at this
    exact this
  have hf : fd p ≤ 8 := by show fdF (dgt p) 8 0 ≤ 8; omega
  have hct : ct p ≤ 8 := by show ctF (dg p) 8 0 ≤ 8; omega
  have c4 : ct p < 8 → dg p (ct p) = 0 := fun h => c4 (by show ct p < 0 + 8; omega)
  have f4 : fd p < 8 → ¬ dg p (7 - fd p) = 0 := fun h => f4 (by show fd p < 0 + 8; omega)
  have key : isPat p = true → fd p = 8 - ct p := fun h => by
    have h := (zF_sp _ _).mp h
    rcases Nat.lt_trichotomy (fd p) (8 - ct p) with z | z | z
    · exact absurd (h (7 - fd p) (by omega) (by omega)) (f4 (by omega))
    · exact z
    · exact absurd (f5 (ct p - 1) (by omega) (by omega)) (c3 (ct p - 1) (by omega) (by show ct p - 1 < ct p; omega))
  refine ⟨?_, key, hct, hf⟩
  rw [Bool.eq_iff_iff]
  refine ⟨fun h => ?_, fun h => ?_⟩
  · have h := (nzF_sp _ _).mp h
    have hn : ∀ j, j < 8 - fd p → ¬ dg p j = 0 := fun j hj => by
      have := h (7 - j) (by omega) (by omega)
      unfold dgt at this
      rw [show 7 - (7 - j) = j by omega] at this
      exact this
    have hk : 8 - fd p ≤ ct p := by
      apply Nat.le_of_not_lt
      intro z
      exact hn (ct p) z (c4 (by omega))
    exact (zF_sp _ _).mpr (fun j h1 h2 => f5 j (by omega) (by omega))
  · have e := key h
    refine (nzF_sp _ _).mpr (fun j h1 h2 => ?_)
    unfold dgt
    exact c3 (7 - j) (by omega) (by show 7 - j < ct p; omega)
theorem key_eq {p : Int32} : isKey2 p = isKeyB p := by
  unfold isKey2 isKeyB
  rw [pat_eq.1]
  congr 1
  rw [Bool.eq_iff_iff, ntF_sp, kF_sp]
  refine ⟨fun h j h1 h2 => ?_, fun h j h1 h2 => ?_⟩
  · have := h (7 - j) (by omega) (by omega)
    unfold dgt at this
    rw [show 7 - (7 - j) = j by omega] at this
    exact this
  · unfold dgt
    exact h (7 - j) (by omega) (by omega)
/-- a key fits itself -/
theorem rm_self {P : Nat → Nat} : ∀ n, (∀ j, j < n → ¬ P j = 15) → rm P P n n = true := by
  intro n
  induction n with
  | zero => intro _; rfl
  | succ n ih =>
    intro h
    show rmS (P n) P (rm P P n) (n + 1) = true
    show (if P n = 15 then _ else (decide (P n = 14) || decide (P n = P n)) && rm P P n n) = true
    rw [if_neg (h n (by omega)), ih (fun j hj => h j (by omega)), decide_eq_true rfl, Bool.or_true]
    rfl
theorem isM_self {k : Int32} (h : isKeyB k = true) : isM k k = true := by
  unfold isKeyB at h
  rw [Bool.and_eq_true, kF_sp] at h
  have hct := (pat_eq (p := k)).2.2.1
  exact rm_self _ (fun j hj => by have := h.1 j (by omega) (by omega); omega)
