/-! the reference: in, digits, patterns, isE, isQ -/
theorem le_succ {k : Nat} {x : Int32} (hk : k + 1 < 2 ^ 31) : nI (k + 1) ≤ x ↔ nI k < x := by
  rw [Int32.le_iff_toInt_le, Int32.lt_iff_toInt_lt, nI_ti hk, nI_ti (by omega)]
  omega
theorem n_in {gc : Nat → Nat} {m : Nat} {M : Nat → Nat} {d : Nat} {X : XT} {x : Int32} {k : Nat} (hk : k + 1 < 2 ^ 31) : WM gc m M (d + 1) 95 [.int x, .int (nI (k + 1))] X (fun r X' => r = some (.int (b2i (wi x 0 (nI k)))) ∧ X' = X) := by
  unfold wi
  refine N95 ⟨fun z => N95_13 (N95_14 ⟨Or.inl rfl, ?_, rfl⟩), fun z => ⟨fun z2 => N95_13 (N95_14 ⟨Or.inl rfl, ?_, rfl⟩), fun z2 => N95_14 ⟨Or.inr rfl, ?_, rfl⟩⟩⟩
  · rw [decide_eq_false (fun w => w.1 z)]; rfl
  · rw [decide_eq_false (fun w => w.2 ((le_succ hk).mp z2))]; rfl
  · rw [decide_eq_true ⟨z, fun w => z2 ((le_succ hk).mpr w)⟩]; rfl
theorem d28 {i : Nat} (hi : i < 8) : (28 : Int32) - 4 * nI i = 4 * nI (7 - i) := by
  match i, hi with
  | 0, _ => decide
  | 1, _ => decide
  | 2, _ => decide
  | 3, _ => decide
  | 4, _ => decide
  | 5, _ => decide
  | 6, _ => decide
  | 7, _ => decide
  | i + 8, h => omega
theorem n_digit {gc : Nat → Nat} {m : Nat} {M : Nat → Nat} {d : Nat} {X : XT} {p : Int32} {i : Nat} (hi : i < 8) : WM gc m M (d + 1) 102 [.int p, .int (nI i)] X (fun r X' => r = some (.int (nI (dgt p i))) ∧ X' = X) := by
  refine N102 ⟨?_, rfl⟩
  rw [d28 hi, dg_eq (by omega)]
  rfl
theorem fd_loop {gc : Nat → Nat} {m : Nat} {M : Nat → Nat} {d : Nat} {X : XT} {p : Int32} {q : QT} : ∀ n i, i + n = 8 → q (some (.int (nI (fdF (dgt p) n i)))) X → TM gc m M (d + 1) 101 q 2 [.int p, .int (nI i)] [] X := by
  intro n
  induction n with
  | zero =>
    intro i hi hq
    obtain rfl : i = 8 := by omega
    exact N101_2 ⟨fun _ => N101_24 hq, fun z => absurd (by decide) z⟩
  | succ n ih =>
    intro i hi hq
    refine N101_2 ⟨fun z => absurd z (show ¬ (8 : Int32) ≤ nI i from nI_ge (b := 8) (by omega) (by decide)), fun _ => ⟨_, n_digit (by omega), ?_⟩⟩
    rintro r X3 ⟨rfl, rfl⟩
    unfold fdF at hq
    refine ⟨_, rfl, fun z => N101_18 ?_, fun z => ?_⟩
    · rw [nI_1]
      rw [if_pos ((nI_z (by have := dg_lt p (7 - i); unfold dgt; omega)).mp z)] at hq
      exact ih (i + 1) (by omega) hq
    · rw [if_neg (fun w => z (by rw [w]; rfl))] at hq
      exact hq
theorem n_first {gc : Nat → Nat} {m : Nat} {M : Nat → Nat} {d : Nat} {X : XT} {p : Int32} : WM gc m M (d + 2) 101 [.int p] X (fun r X' => r = some (.int (nI (fd p))) ∧ X' = X) := N101 (fd_loop 8 0 rfl ⟨rfl, rfl⟩)
theorem pt_loop {gc : Nat → Nat} {m : Nat} {M : Nat → Nat} {d : Nat} {X : XT} {p : Int32} {q : QT} : ∀ n i, i + n = 8 → q (some (.int (b2i (nzF (dgt p) n i)))) X → TM gc m M (d + 1) 100 q 5 [.int p, .int (nI i)] [] X := by
  intro n
  induction n with
  | zero =>
    intro i hi hq
    obtain rfl : i = 8 := by omega
    exact N100_5 ⟨fun _ => N100_27 ⟨Or.inr rfl, hq⟩, fun z => absurd (by decide) z⟩
  | succ n ih =>
    intro i hi hq
    refine N100_5 ⟨fun z => absurd z (show ¬ (8 : Int32) ≤ nI i from nI_ge (b := 8) (by omega) (by decide)), fun _ => ⟨_, n_digit (by omega), ?_⟩⟩
    rintro r X3 ⟨rfl, rfl⟩
    have hl : dgt p i < 2 ^ 31 := by have := dg_lt p (7 - i); unfold dgt; omega
    have hu : nzF (dgt p) (n + 1) i = (!(dgt p i == 0) && nzF (dgt p) n (i + 1)) := rfl
    rw [hu] at hq
    refine ⟨_, rfl, fun z => N100_21 ?_, fun z => ⟨Or.inl rfl, ?_⟩⟩
    · rw [nI_1]
      rw [beq_eq_false_iff_ne.mpr (fun w => z (by rw [w]; rfl))] at hq
      exact ih (i + 1) (by omega) hq
    · rw [beq_iff_eq.mpr ((nI_z hl).mp z)] at hq
      exact hq
theorem n_isPattern {gc : Nat → Nat} {m : Nat} {M : Nat → Nat} {d : Nat} {X : XT} {p : Int32} : WM gc m M (d + 3) 100 [.int p] X (fun r X' => r = some (.int (b2i (isPat p))) ∧ X' = X) := by
  refine N100 ⟨_, n_first, ?_⟩
  rintro r X3 ⟨rfl, rfl⟩
  have hf := (pat_eq (p := p)).2.2.2
  refine ⟨_, rfl, pt_loop (d := d + 1) (8 - fd p) (fd p) (by omega) ⟨?_, rfl⟩⟩
  rw [← pat_eq.1]
  rfl
theorem ky_loop {gc : Nat → Nat} {m : Nat} {M : Nat → Nat} {d : Nat} {X : XT} {p : Int32} {q : QT} : ∀ n i, i + n = 8 → q (some (.int (b2i (ntF (dgt p) n i && isPat p)))) X → TM gc m M (d + 3) 110 q 2 [.int p, .int (nI i)] [] X := by
  intro n
  induction n with
  | zero =>
    intro i hi hq
    obtain rfl : i = 8 := by omega
    refine N110_2 ⟨fun _ => N110_26 ⟨_, n_isPattern, ?_⟩, fun z => absurd (by decide) z⟩
    rintro r X3 ⟨rfl, rfl⟩
    exact ⟨_, rfl, b2i_01 _, hq⟩
  | succ n ih =>
    intro i hi hq
    refine N110_2 ⟨fun z => absurd z (show ¬ (8 : Int32) ≤ nI i from nI_ge (b := 8) (by omega) (by decide)), fun _ => ⟨_, n_digit (by omega), ?_⟩⟩
    rintro r X3 ⟨rfl, rfl⟩
    have hl : dgt p i < 16 := dg_lt p (7 - i)
    have hu : ntF (dgt p) (n + 1) i = (decide (¬ 13 < dgt p i) && ntF (dgt p) n (i + 1)) := rfl
    rw [hu] at hq
    refine ⟨_, rfl, fun z => N110_20 ?_, fun z => ⟨Or.inl rfl, ?_⟩⟩
    · rw [nI_1]
      have z := (nI_leI (a := dgt p i) (b := 13) (by omega) (by decide)).mp z
      rw [decide_eq_true (show ¬ 13 < dgt p i by omega), Bool.true_and] at hq
      exact ih (i + 1) (by omega) hq
    · have z : ¬ dgt p i ≤ 13 := fun w => z ((nI_leI (a := dgt p i) (b := 13) (by omega) (by decide)).mpr w)
      rw [decide_eq_false (show ¬ ¬ 13 < dgt p i by omega), Bool.false_and, Bool.false_and] at hq
      exact hq
theorem n_isKey {gc : Nat → Nat} {m : Nat} {M : Nat → Nat} {d : Nat} {X : XT} {p : Int32} : WM gc m M (d + 4) 110 [.int p] X (fun r X' => r = some (.int (b2i (isKeyB p))) ∧ X' = X) := by
  refine N110 (ky_loop 8 0 rfl ⟨?_, rfl⟩)
  rw [← key_eq, ← pat_eq.1]
  rfl
theorem sE_ty {X : XT} {I : Nat → Int32} (h : sE X I) (hn : NT I) {e : Nat} (he : e < 5) : X 0 e < 0 ↔ I (100 + 10 * e) = 0 := by
  rw [(h e he).1]
  by_cases hz : I (100 + 10 * e) = 0
  · rw [if_pos hz]
    exact ⟨fun _ => hz, fun _ => by decide⟩
  · rw [if_neg hz]
    obtain ⟨t, ht, hte⟩ := hn e he hz
    rw [hte]
    exact ⟨fun w => absurd w (nI_pos (by omega)), fun w => absurd w hz⟩
theorem sQ_lm {X : XT} {I : Nat → Int32} (h : sQ X I) (hn : NOK I) {q : Nat} (hq6 : q < 6) : X 1 q ≤ 0 ↔ I (200 + 10 * q) = 0 := by
  rw [(h q hq6).1]
  by_cases hz : I (200 + 10 * q) = 0
  · rw [if_pos hz]
    exact ⟨fun _ => hz, fun _ => by decide⟩
  · rw [if_neg hz]
    obtain ⟨l, hl, h1, h2⟩ := hn q hq6
    rw [hl]
    exact ⟨fun w => absurd w (nI_ge (a := 0) (by omega) (by omega)), fun w => absurd w hz⟩
theorem n_isE {gc : Nat → Nat} {m : Nat} {M : Nat → Nat} {d : Nat} {X : XT} {I : Nat → Int32} {x : Int32} (h : sE X I) (hn : NT I) : WM gc m M (d + 2) 99 [.ref m, .int x] X (fun r X' => r = some (.int (b2i (isEx I x))) ∧ X' = X) := by
  refine N99 ⟨_, n_in (k := 4) (by decide), ?_⟩
  rintro r X3 ⟨rfl, rfl⟩
  have hu : isEx I x = (wi x 0 4 && decide (¬ I (100 + 10 * x.toNatClampNeg) = 0)) := rfl
  refine ⟨_, rfl, fun z => N99_21 (N99_22 ⟨Or.inl rfl, ?_, rfl⟩), fun z => ?_⟩
  · rw [hu, show wi x 0 4 = false from b2i_z.mp z]; rfl
  · have z : wi x 0 4 = true := b2i_nz z
    obtain ⟨e, he, rfl⟩ := wi_rng (n := 4) (by decide) z
    have hcl : (nI e).toNatClampNeg = e := nI_clamp (by omega)
    rw [hu, z, hcl]
    refine ⟨nI_pos (by omega), by omega, fun w => N99_21 (N99_22 ⟨Or.inl rfl, ?_, rfl⟩), fun w => N99_22 ⟨Or.inr rfl, ?_, rfl⟩⟩
    · rw [decide_eq_false (fun y => y ((sE_ty h hn he).mp w))]; rfl
    · rw [decide_eq_true (show ¬ I (100 + 10 * e) = 0 from fun y => w ((sE_ty h hn he).mpr y))]; rfl
theorem n_isQ {gc : Nat → Nat} {m : Nat} {M : Nat → Nat} {d : Nat} {X : XT} {I : Nat → Int32} {x : Int32} (h : sQ X I) (hn : NOK I) : WM gc m M (d + 2) 97 [.ref m, .int x] X (fun r X' => r = some (.int (b2i (isQu I x))) ∧ X' = X) := by
  refine N97 ⟨_, n_in (k := 5) (by decide), ?_⟩
  rintro r X3 ⟨rfl, rfl⟩
  have hu : isQu I x = (wi x 0 5 && decide (¬ I (200 + 10 * x.toNatClampNeg) = 0)) := rfl
  refine ⟨_, rfl, fun z => N97_22 (N97_23 ⟨Or.inl rfl, ?_, rfl⟩), fun z => ?_⟩
  · rw [hu, show wi x 0 5 = false from b2i_z.mp z]; rfl
  · have z : wi x 0 5 = true := b2i_nz z
    obtain ⟨e, he, rfl⟩ := wi_rng (n := 5) (by decide) z
    have hcl : (nI e).toNatClampNeg = e := nI_clamp (by omega)
    rw [hu, z, hcl]
    refine ⟨nI_pos (by omega), by omega, fun w => N97_22 (N97_23 ⟨Or.inl rfl, ?_, rfl⟩), fun w => N97_23 ⟨Or.inr rfl, ?_, rfl⟩⟩
    · rw [decide_eq_false (fun y => y ((sQ_lm h hn he).mp w))]; rfl
    · rw [decide_eq_true (show ¬ I (200 + 10 * e) = 0 from fun y => w ((sQ_lm h hn he).mpr y))]; rfl
