/-- a word's step, from word n on -/
def wdF (m p : Nat) (K : Nat → Nat) : Nat → Nat → Nat → Nat
  | 0, _, f => f
  | l + 1, n, f => wdF m p K l (n + 1) (if m.testBit n && decide (K n = p) then f ||| 2 ^ (n + 1) else f)
theorem wdF_bit {m p : Nat} {K : Nat → Nat} : ∀ l n f, n + l = 8 → f < 512 → wdF m p K l n f < 512 ∧ ∀ j, (wdF m p K l n f).testBit j = (f.testBit j || (decide (n < j ∧ j ≤ 8) && (m.testBit (j - 1) && decide (K (j - 1) = p)))) := by
  intro l
  induction l with
  | zero =>
    intro n f hn hf
    refine ⟨hf, fun j => ?_⟩
    rw [show decide (n < j ∧ j ≤ 8) = false from decide_eq_false (by omega), Bool.false_and, Bool.or_false]
    rfl
  | succ l ih =>
    intro n f hn hf
    show wdF m p K l (n + 1) (if m.testBit n && decide (K n = p) then f ||| 2 ^ (n + 1) else f) < 512 ∧ ∀ j, (wdF m p K l (n + 1) (if m.testBit n && decide (K n = p) then f ||| 2 ^ (n + 1) else f)).testBit j = _
    cases hb : (m.testBit n && decide (K n = p)) with
    | true =>
      rw [if_pos rfl]
      obtain ⟨h1, h2⟩ := ih (n + 1) (f ||| 2 ^ (n + 1)) (by omega) (m_or n (by omega) f hf).2
      refine ⟨h1, fun j => ?_⟩
      rw [h2 j, Nat.testBit_or, Nat.testBit_two_pow]
      by_cases hj : n + 1 = j
      · subst hj
        rw [decide_eq_true rfl, Bool.or_true, Bool.true_or, Nat.add_sub_cancel, hb, decide_eq_true (show n < n + 1 ∧ n + 1 ≤ 8 by omega), Bool.and_true, Bool.or_true]
      · rw [decide_eq_false hj, Bool.or_false]
        rw [show decide (n + 1 < j ∧ j ≤ 8) = decide (n < j ∧ j ≤ 8) from decide_eq_decide.mpr (by omega)]
    | false =>
      rw [if_neg (by decide)]
      obtain ⟨h1, h2⟩ := ih (n + 1) f (by omega) hf
      refine ⟨h1, fun j => ?_⟩
      rw [h2 j]
      by_cases hj : n + 1 = j
      · subst hj
        rw [Nat.add_sub_cancel, hb, Bool.and_false, Bool.and_false]
      · rw [show decide (n + 1 < j ∧ j ≤ 8) = decide (n < j ∧ j ≤ 8) from decide_eq_decide.mpr (by omega)]
theorem wd_loop {gc : Nat → Nat} {d p : Nat} {h : AH} {R k : Int32} {q : PT} (hp : p < 16) : ∀ l n f, n + l = 8 → f < 512 → q (some (.int (nI (wdF (lo9 R) p (dg k) l n f)))) h → TT gc (d + 1) 47 q 29 [.int R, .int (nI p), .int k, .int (nI f), .int (nI n)] [] h := by
  intro l
  induction l with
  | zero =>
    intro n f hn hf hq
    exact B47_29 ⟨fun _ => B47_70 hq, fun z => absurd (show (8 : Int32) ≤ nI n from nI_le (a := 8) (by omega) (by omega)) z⟩
  | succ l ih =>
    intro n f hn hf hq
    have hq : q (some (.int (nI (wdF (lo9 R) p (dg k) l (n + 1) (if (lo9 R).testBit n && decide (dg k n = p) then f ||| 2 ^ (n + 1) else f))))) h := hq
    have hb := m_bitR n (by omega) R
    refine B47_29 ⟨fun z => absurd z (show ¬ (8 : Int32) ≤ nI n from nI_ge (b := 8) (by omega) (by decide)), fun _ => ⟨fun z => B47_64 ?_, fun z => ⟨_, k_itemAt (by omega), ?_⟩⟩⟩
    · rw [hb] at z
      have z0 := (nI_z (by cases (lo9 R).testBit n <;> decide)).mp z
      have z1 : (lo9 R).testBit n = false := by cases hc : (lo9 R).testBit n <;> simp_all
      rw [z1, Bool.false_and, if_neg (by decide)] at hq
      rw [nI_1]
      exact ih (n + 1) f (by omega) hf hq
    · rw [hb] at z
      have z1 : (lo9 R).testBit n = true := by
        cases hc : (lo9 R).testBit n with
        | true => rfl
        | false => rw [hc] at z; exact absurd rfl z
      rintro r h' ⟨rfl, rfl⟩
      rw [z1, Bool.true_and] at hq
      have hd := dg_lt k n
      refine ⟨_, rfl, fun w => B47_64 ?_, fun w => B47_64 ?_⟩
      · rw [decide_eq_false (fun e => w (by rw [e])), if_neg (by decide)] at hq
        rw [nI_1]
        exact ih (n + 1) f (by omega) hf hq
      · have w := (nI_eq (by omega) (by omega)).mp w
        rw [decide_eq_true w, if_pos rfl] at hq
        obtain ⟨g1, g2⟩ := m_or n (by omega) f hf
        rw [g1, nI_1]
        exact ih (n + 1) _ (by omega) g2 hq
def rf (R : Int32) (p : Nat) (K : Nat → Nat) : Int32 := if p = 14 then R <<< (1 &&& 31) else if p = 15 then -(R &&& (-R)) else nI (wdF (lo9 R) p K 8 0 0)
theorem k_reach {gc : Nat → Nat} {d p : Nat} {h : AH} {R k : Int32} (hp : p < 16) : WP gc (d + 2) 47 [.int R, .int (nI p), .int k] h (fun r h' => r = some (.int (rf R p (dg k))) ∧ h' = h) := by
  unfold rf
  by_cases h1 : p = 14
  · rw [if_pos h1]
    exact M47 ⟨fun z => absurd (by rw [h1]; rfl) z, fun _ => ⟨rfl, rfl⟩⟩
  · rw [if_neg h1]
    refine M47 ⟨fun _ => B47_10 ?_, fun z => absurd ((nI_eq (b := 14) (by omega) (by omega)).mp z) h1⟩
    by_cases h2 : p = 15
    · rw [if_pos h2]
      exact ⟨fun z => absurd (by rw [h2]; rfl) z, fun _ => ⟨rfl, rfl⟩⟩
    · rw [if_neg h2]
      exact ⟨fun _ => B47_24 (wd_loop hp 8 0 0 rfl (by decide) ⟨rfl, rfl⟩), fun z => absurd ((nI_eq (b := 15) (by omega) (by omega)).mp z) h2⟩
theorem rmS_15 {K : Nat → Nat} {prev : Nat → Bool} : ∀ n, n < 9 → rmS 15 K prev n = !((bt prev) % 2 ^ (n + 1) == 0) := by
  intro n
  induction n with
  | zero =>
    intro hn
    rw [m_low 0 (by decide) _ (bt_lt _), bt_bit _ (by decide)]
    show prev 0 = _
    rw [show decide (0 < 0) = false from rfl, Bool.false_and, Bool.or_false]
  | succ n ih =>
    intro hn
    rw [m_low (n + 1) hn _ (bt_lt _), bt_bit _ hn, ← ih (by omega)]
    show (prev (n + 1) || rmS 15 K prev n) = _
    rw [decide_eq_true (Nat.succ_pos n), Bool.true_and]
theorem rf_eq {P K : Nat → Nat} {R : Int32} {i : Nat} (hR : lo9 R = bt (rm P K i)) : lo9 (rf R (P i) K) = bt (rm P K (i + 1)) := by
  unfold rf
  by_cases h1 : P i = 14
  · rw [if_pos h1, lo9_sh, hR, q9_sh _ (bt_lt _)]
    refine bt_eq fun n hn => ?_
    show _ = rmS (P i) K (rm P K i) n
    rw [h1]
    cases n with
    | zero => rfl
    | succ n =>
      rw [Nat.add_sub_cancel, bt_bit _ (by omega), decide_eq_true (Nat.succ_pos n), Bool.true_and]
      show _ = ((true || decide (14 = K n)) && rm P K i n)
      rw [Bool.true_or, Bool.true_and]
  · rw [if_neg h1]
    by_cases h2 : P i = 15
    · rw [if_pos h2, lo9_up, hR, q9_up _ (bt_lt _)]
      refine bt_eq fun n hn => ?_
      show _ = rmS (P i) K (rm P K i) n
      rw [h2, rmS_15 n hn]
    · rw [if_neg h2]
      obtain ⟨w1, w2⟩ := wdF_bit (m := lo9 R) (p := P i) (K := K) 8 0 0 rfl (by decide)
      rw [lo9_nI w1]
      refine (q9_id _ w1).trans (bt_eq fun n hn => ?_)
      show (wdF (lo9 R) (P i) K 8 0 0).testBit n = rmS (P i) K (rm P K i) n
      rw [w2 n, Nat.zero_testBit, Bool.false_or]
      cases n with
      | zero =>
        show _ = (if P i = 15 then rm P K i 0 else false)
        rw [if_neg h2, decide_eq_false (show ¬ (0 < 0 ∧ 0 ≤ 8) by omega), Bool.false_and]
      | succ n =>
        show _ = (if P i = 15 then _ else (decide (P i = 14) || decide (P i = K n)) && rm P K i n)
        rw [if_neg h2, decide_eq_false h1, Bool.false_or, Nat.add_sub_cancel, hR, bt_bit _ (by omega), decide_eq_true (show 0 < n + 1 ∧ n + 1 ≤ 8 by omega), Bool.true_and, Bool.and_comm, show decide (K n = P i) = decide (P i = K n) from decide_eq_decide.mpr eq_comm]
theorem match_loop {gc : Nat → Nat} {d : Nat} {h : AH} {p k : Int32} {q : PT} : ∀ n i (R : Int32), i + n = ct p → lo9 R = bt (rm (dg p) (dg k) i) → q (some (.int (b2i (isM p k)))) h → TT gc (d + 2) 46 q 16 [.int p, .int k, .int (nI (ct p)), .int (nI (ct k)), .int R, .int (nI i)] [] h := by
  have hk := ct_le k
  have hp := ct_le p
  intro n
  induction n with
  | zero =>
    intro i R hi hR hq
    have hi : i = ct p := by omega
    subst hi
    have hb := m_bitR (ct k) (by omega) R
    rw [hR, bt_bit _ (by omega)] at hb
    have hb : ((R >>> (nI (ct k) &&& 31)) &&& 1) = nI (isM p k).toNat := hb
    refine B46_16 ⟨fun _ => B46_42 ⟨fun z => B46_55 (B46_56 ⟨Or.inl rfl, ?_⟩), fun z => B46_56 ⟨Or.inr rfl, ?_⟩⟩, fun z => absurd (nI_le (Nat.le_refl _) (by omega)) z⟩
    · rw [hb] at z
      have z1 : isM p k = false := by
        cases hc : isM p k with
        | false => rfl
        | true => rw [hc] at z; exact absurd z (by decide)
      rw [z1] at hq
      exact hq
    · rw [hb] at z
      have z1 : isM p k = true := by
        cases hc : isM p k with
        | true => rfl
        | false => rw [hc] at z; exact absurd rfl z
      rw [z1] at hq
      exact hq
  | succ n ih =>
    intro i R hi hR hq
    refine B46_16 ⟨fun z => absurd z (nI_ge (by omega) (by omega)), fun _ => ⟨_, k_itemAt (by omega), ?_⟩⟩
    rintro r h' ⟨rfl, rfl⟩
    refine ⟨_, rfl, _, k_reach (dg_lt p i), ?_⟩
    rintro r h' ⟨rfl, rfl⟩
    refine ⟨_, rfl, ?_⟩
    rw [nI_1]
    exact ih (i + 1) _ (by omega) (rf_eq hR) hq
theorem k_match {gc : Nat → Nat} {d : Nat} {h : AH} {p k : Int32} : WP gc (d + 3) 46 [.int p, .int k] h (fun r h' => r = some (.int (b2i (isM p k))) ∧ h' = h) := by
  refine M46 ⟨_, k_count, ?_⟩
  rintro r h' ⟨rfl, rfl⟩
  refine ⟨_, rfl, _, k_count, ?_⟩
  rintro r h' ⟨rfl, rfl⟩
  refine ⟨_, rfl, ?_⟩
  have h1 : lo9 1 = bt (rm (dg p) (dg k) 0) := by
    show lo9 1 = bt (fun n => n == 0)
    decide
  exact match_loop (ct p) 0 1 (by omega) h1 ⟨rfl, rfl⟩
