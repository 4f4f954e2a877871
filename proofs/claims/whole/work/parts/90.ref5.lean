/-! the reference: matches, choose -/
theorem mul9 {a : Nat} : nI a * 9 = nI (a * 9) := (Int32.ofNat_mul a 9).symm
theorem pred_lt {b : Nat} (h : b < 2 ^ 31) : nI b - 1 < nI b := by
  cases b with
  | zero => decide
  | succ b => rw [nI_pred]; exact nI_lt (by omega) h
def Rr (p k : Int32) (i j : Nat) : Bool := rm (dg p) (dg k) (8 - i) (8 - j)
theorem Rr_8 {p k : Int32} {j : Nat} (hj : j ≤ 8) : Rr p k 8 j = decide (j = 8) := by
  unfold Rr
  show (8 - j == 0) = _
  by_cases h : j = 8
  · subst h; rfl
  · rw [decide_eq_false h]
    exact beq_false_of_ne (by omega)
theorem Rr_15 {p k : Int32} {i j : Nat} (hi : i < 8) (hj : j ≤ 8) (h : dgt p i = 15) : Rr p k i j = (Rr p k (i + 1) j || (decide (j < 8) && Rr p k i (j + 1))) := by
  unfold dgt at h
  unfold Rr
  rw [show 8 - i = (7 - i) + 1 by omega, show 8 - (i + 1) = 7 - i by omega]
  show rmS (dg p (7 - i)) (dg k) (rm (dg p) (dg k) (7 - i)) (8 - j) = (_ || (_ && rmS (dg p (7 - i)) (dg k) (rm (dg p) (dg k) (7 - i)) (8 - (j + 1))))
  by_cases hz : j = 8
  · subst hz
    show (if dg p (7 - i) = 15 then _ else _) = _
    rw [if_pos h, decide_eq_false (by omega), Bool.false_and, Bool.or_false]
  · rw [show 8 - j = (7 - j) + 1 by omega, show 8 - (j + 1) = 7 - j by omega, decide_eq_true (show j < 8 by omega), Bool.true_and]
    show (if dg p (7 - i) = 15 then _ else _) = _
    rw [if_pos h]
theorem Rr_o {p k : Int32} {i j : Nat} (hi : i < 8) (hj : j ≤ 8) (h : ¬ dgt p i = 15) : Rr p k i j = (decide (j < 8) && ((decide (dgt p i = 14) || decide (dgt p i = dgt k j)) && Rr p k (i + 1) (j + 1))) := by
  unfold dgt at h ⊢
  unfold Rr
  rw [show 8 - i = (7 - i) + 1 by omega, show 8 - (i + 1) = 7 - i by omega]
  show rmS (dg p (7 - i)) (dg k) (rm (dg p) (dg k) (7 - i)) (8 - j) = _
  by_cases hz : j = 8
  · subst hz
    show (if dg p (7 - i) = 15 then _ else _) = _
    rw [if_neg h, decide_eq_false (show ¬ 8 < 8 by omega), Bool.false_and]
  · rw [show 8 - j = (7 - j) + 1 by omega, show 8 - (j + 1) = 7 - j by omega, decide_eq_true (show j < 8 by omega), Bool.true_and]
    show (if dg p (7 - i) = 15 then _ else _) = _
    rw [if_neg h]
def Tb (X : XT) (p k : Int32) (i j : Nat) : Prop := X 41 (i * 9 + j) = b2i (Rr p k i j)
theorem dgt_lt {p : Int32} {i : Nat} : dgt p i < 16 := dg_lt p (7 - i)
/-- one cell -/
theorem mc {gc : Nat → Nat} {m : Nat} {M : Nat → Nat} {d : Nat} {X : XT} {q : QT} {p k : Int32} {a b i j : Nat} {D : Int32} {v7 v8 : Value} (hi : i ≤ 8) (hj : j ≤ 8) (hD : i < 8 → D = nI (dgt p i)) (t1 : i < 8 → Tb X p k (i + 1) j) (t2 : i < 8 → j < 8 → Tb X p k (i + 1) (j + 1)) (t3 : i < 8 → j < 8 → Tb X p k i (j + 1)) (hq : TM gc m M (d + 1) 113 q 187 [.ref m, .int p, .int k, .int (nI a), .int (nI b), .int (nI i), .int (nI j), .int (b2i (Rr p k i j)), .int D] [] X) : TM gc m M (d + 1) 113 q 49 [.ref m, .int p, .int k, .int (nI a), .int (nI b), .int (nI i), .int (nI j), v7, v8] [.int D] X := by
  refine N113_49 ⟨fun z => N113_75 ?_, fun z => ?_⟩
  · have hi8 : i < 8 := by
      apply Nat.lt_of_le_of_ne hi
      intro w
      exact z (by rw [w]; rfl)
    have hD := hD hi8
    subst hD
    refine ⟨fun z2 => N113_135 ?_, fun z2 => ?_⟩
    · have h15 : ¬ dgt p i = 15 := fun w => z2 (by rw [w]; rfl)
      rw [Rr_o hi8 hj h15] at hq
      refine ⟨fun z3 => N113_184 (N113_185 ?_), fun z3 => ?_⟩
      · have : j = 8 := by
          have := (nI_leI (a := 8) (b := j) (by decide) (by omega)).mp z3
          omega
        rw [decide_eq_false (show ¬ j < 8 by omega), Bool.false_and] at hq
        exact hq
      · have hj8 : j < 8 := by
          apply Nat.lt_of_not_le
          intro w
          exact z3 (nI_le (a := 8) w (by omega))
        rw [decide_eq_true hj8, Bool.true_and] at hq
        have key : (decide (dgt p i = 14) || decide (dgt p i = dgt k j)) = true → TM gc m M (d + 1) 113 q 160 [.ref m, .int p, .int k, .int (nI a), .int (nI b), .int (nI i), .int (nI j), v7, .int (nI (dgt p i))] [] X := fun hk => by
          rw [hk, Bool.true_and] at hq
          have ht := t2 hi8 hj8
          unfold Tb at ht
          refine N113_160 ?_
          rw [nI_1, mul9, nI_add, nI_1, nI_clamp (by omega)]
          refine ⟨nI_pos (by omega), by omega, ?_⟩
          rw [show (i + 1) * 9 + j + 1 = (i + 1) * 9 + (j + 1) by omega, ht]
          refine ⟨fun w => N113_184 (N113_185 ?_), fun w => N113_185 ?_⟩
          · rw [b2i_z.mp w] at hq; exact hq
          · rw [b2i_nz w] at hq; exact hq
        refine ⟨fun z4 => key ?_, fun z4 => ⟨_, n_digit hj8, ?_⟩⟩
        · rw [decide_eq_true ((nI_eq (b := 14) (by have := dgt_lt (p := p) (i := i); omega) (by decide)).mp z4)]; rfl
        · rintro r X3 ⟨rfl, rfl⟩
          have l1 := dgt_lt (p := p) (i := i)
          have l2 := dgt_lt (p := k) (i := j)
          refine ⟨_, rfl, fun z5 => N113_184 (N113_185 ?_), fun z5 => key ?_⟩
          · rw [decide_eq_false (fun w => z4 (by rw [w]; rfl)), decide_eq_false (fun w => z5 (by rw [w])), Bool.or_false, Bool.false_and] at hq
            exact hq
          · rw [decide_eq_true (show dgt p i = dgt k j from (nI_eq (by omega) (by omega)).mp z5), Bool.or_true]
    · have h15 : dgt p i = 15 := (nI_eq (b := 15) (by have := dgt_lt (p := p) (i := i); omega) (by decide)).mp z2
      rw [Rr_15 hi8 hj h15] at hq
      have ht := t1 hi8
      unfold Tb at ht
      rw [nI_1, mul9, nI_add, nI_clamp (by omega), ht]
      refine ⟨nI_pos (by omega), by omega, fun w => N113_125 (N113_130 ?_), fun w => ⟨fun z3 => N113_129 (N113_130 ?_), fun z3 => ?_⟩⟩
      · rw [b2i_nz w, Bool.true_or] at hq; exact hq
      · have : j = 8 := by
          have := (nI_leI (a := 8) (b := j) (by decide) (by omega)).mp z3
          omega
        rw [b2i_z.mp w, decide_eq_false (show ¬ j < 8 by omega), Bool.false_and] at hq
        exact hq
      · have hj8 : j < 8 := by
          apply Nat.lt_of_not_le
          intro w
          exact z3 (nI_le (a := 8) w (by omega))
        rw [b2i_z.mp w, decide_eq_true hj8, Bool.true_and, Bool.false_or] at hq
        have ht3 := t3 hi8 hj8
        unfold Tb at ht3
        rw [mul9, nI_add, nI_1, nI_clamp (by omega), show i * 9 + j + 1 = i * 9 + (j + 1) by omega, ht3]
        refine ⟨nI_pos (by omega), by omega, fun w2 => N113_129 (N113_130 ?_), fun w2 => N113_125 (N113_130 ?_)⟩
        · rw [b2i_z.mp w2] at hq; exact hq
        · rw [b2i_nz w2] at hq; exact hq
  · have hi8 : i = 8 := (nI_eq (b := 8) (by omega) (by decide)).mp z
    subst hi8
    rw [Rr_8 hj] at hq
    refine ⟨fun z2 => N113_69 (N113_70 ?_), fun z2 => N113_70 ?_⟩
    · rw [decide_eq_false (fun w => z2 (by rw [w]; rfl))] at hq; exact hq
    · rw [decide_eq_true (show j = 8 from (nI_eq (b := 8) (by omega) (by decide)).mp z2)] at hq; exact hq
def p41 (k : Nat) : Bool := k == 41
/-- one row, from the end -/
theorem mi_loop {gc : Nat → Nat} {m : Nat} {M : Nat → Nat} {d : Nat} {X0 : XT} {q : QT} {p k : Int32} {a b i : Nat} (hi : i ≤ 8) (hb : b ≤ 8) : ∀ n (X : XT) (v7 v8 : Value), b + n ≤ 9 → Ag p41 X0 X → (∀ i' j, i < i' → i' ≤ 8 → b ≤ j → j ≤ 8 → Tb X p k i' j) → (∀ j, b + n ≤ j → j ≤ 8 → Tb X p k i j) → (∀ Y x6 v7 v8, Ag p41 X0 Y → (∀ i' j, i ≤ i' → i' ≤ 8 → b ≤ j → j ≤ 8 → Tb Y p k i' j) → TM gc m M (d + 1) 113 q 208 [.ref m, .int p, .int k, .int (nI a), .int (nI b), .int (nI i), .int x6, v7, v8] [] Y) → TM gc m M (d + 1) 113 q 25 [.ref m, .int p, .int k, .int (nI a), .int (nI b), .int (nI i), .int (nI (b + n) - 1), v7, v8] [] X := by
  intro n
  induction n with
  | zero =>
    intro X v7 v8 hn ha h1 h2 hq
    refine N113_25 ⟨fun _ => hq X _ v7 v8 ha (fun i' j w1 w2 w3 w4 => ?_), fun z => absurd (pred_lt (by omega)) z⟩
    by_cases hz : i' = i
    · subst hz; exact h2 j w3 w4
    · exact h1 i' j (by omega) w2 w3 w4
  | succ n ih =>
    intro X v7 v8 hn ha h1 h2 hq
    rw [show b + (n + 1) = b + n + 1 by omega, nI_pred]
    have cell : ∀ D v8, (i < 8 → D = nI (dgt p i)) → TM gc m M (d + 1) 113 q 49 [.ref m, .int p, .int k, .int (nI a), .int (nI b), .int (nI i), .int (nI (b + n)), v7, v8] [.int D] X := fun D v8 hD => by
      refine mc hi (by omega) hD (fun w => h1 (i + 1) (b + n) (by omega) (by omega) (by omega) (by omega)) (fun w w2 => h1 (i + 1) (b + n + 1) (by omega) (by omega) (by omega) (by omega)) (fun w w2 => h2 (b + n + 1) (by omega) (by omega)) (N113_187 ?_)
      rw [mul9, nI_add, nI_clamp (by omega)]
      refine ⟨nI_pos (by omega), by omega, b2i_01 _, fun Y e => ?_⟩
      rw [ne_1]
      have hT : ∀ i' j', j' ≤ 8 → ¬ (i' = i ∧ j' = b + n) → Tb X p k i' j' → Tb Y p k i' j' := fun i' j' w1 w2 w3 => by
        unfold Tb at w3 ⊢
        rw [e, wr_i (by omega)]
        exact w3
      refine ih Y _ _ (by omega) (by rw [e]; exact ha.wr rfl) (fun i' j w1 w2 w3 w4 => hT i' j w4 (by omega) (h1 i' j w1 w2 w3 w4)) (fun j w1 w2 => ?_) hq
      by_cases hz : j = b + n
      · subst hz
        unfold Tb
        rw [e, wr_s]
      · exact hT i j w2 (by omega) (h2 j (by omega) w2)
    refine N113_25 ⟨fun z => absurd z (nI_nlt (by omega) (by omega)), fun _ => ⟨fun z => N113_48 (cell 0 v8 (fun w => ?_)), fun z => ⟨_, n_digit (p := p) (i := i) ?_, ?_⟩⟩⟩
    · have := (nI_leI (a := 8) (b := i) (by decide) (by omega)).mp z
      omega
    · apply Nat.lt_of_not_le
      intro w
      exact z (nI_le (a := 8) w (by omega))
    · rintro r X3 ⟨rfl, rfl⟩
      exact ⟨_, rfl, cell _ v8 (fun _ => rfl)⟩
theorem mo_loop {gc : Nat → Nat} {m : Nat} {M : Nat → Nat} {d : Nat} {X0 : XT} {q : QT} {p k : Int32} {a b : Nat} (ha8 : a ≤ 8) (hb : b ≤ 8) : ∀ n (X : XT) (v6 v7 v8 : Value), a + n ≤ 9 → Ag p41 X0 X → (∀ i' j, a + n ≤ i' → i' ≤ 8 → b ≤ j → j ≤ 8 → Tb X p k i' j) → (∀ Y, Ag p41 X0 Y → Tb Y p k a b → q (some (.int (b2i (Rr p k a b)))) Y) → TM gc m M (d + 1) 113 q 15 [.ref m, .int p, .int k, .int (nI a), .int (nI b), .int (nI (a + n) - 1), v6, v7, v8] [] X := by
  intro n
  induction n with
  | zero =>
    intro X v6 v7 v8 hn ha h1 hq
    refine N113_15 ⟨fun _ => N113_214 ?_, fun z => absurd (pred_lt (by omega)) z⟩
    have hT := h1 a b (by omega) (by omega) (by omega) (by omega)
    have hT0 := hT
    unfold Tb at hT
    rw [mul9, nI_add, nI_clamp (by omega), hT]
    exact ⟨nI_pos (by omega), by omega, b2i_01 _, hq X ha hT0⟩
  | succ n ih =>
    intro X v6 v7 v8 hn ha h1 hq
    rw [show a + (n + 1) = a + n + 1 by omega, nI_pred]
    refine N113_15 ⟨fun z => absurd z (nI_nlt (by omega) (by omega)), fun _ => ?_⟩
    have h8 : (8 : Int32) = nI (b + (9 - b)) - 1 := by rw [show b + (9 - b) = 8 + 1 by omega, nI_pred]; rfl
    rw [h8]
    refine mi_loop (X0 := X0) (by omega) hb (9 - b) X v7 v8 (by omega) ha (fun i' j w1 w2 w3 w4 => h1 i' j (by omega) w2 w3 w4) (fun j w1 w2 => by omega) (fun Y x6 v7 v8 g1 g2 => N113_208 ?_)
    rw [ne_1]
    exact ih Y _ _ _ (by omega) g1 (fun i' j w1 w2 w3 w4 => g2 i' j (by omega) w2 w3 w4) hq
theorem n_matches {gc : Nat → Nat} {m : Nat} {M : Nat → Nat} {d : Nat} {X : XT} {p k : Int32} (hp : isPat p = true) (hk : isPat k = true) : WM gc m M (d + 3) 113 [.ref m, .int p, .int k] X (fun r X' => r = some (.int (b2i (isM p k))) ∧ Ag p41 X X') := by
  refine N113 ⟨_, n_first, ?_⟩
  rintro r X3 ⟨rfl, rfl⟩
  refine ⟨_, rfl, _, n_first, ?_⟩
  rintro r X4 ⟨rfl, rfl⟩
  have fp := pat_eq (p := p)
  have fk := pat_eq (p := k)
  refine ⟨_, rfl, ?_⟩
  have h8 : (8 : Int32) = nI (fd p + (9 - fd p)) - 1 := by rw [show fd p + (9 - fd p) = 8 + 1 by omega, nI_pred]; rfl
  rw [h8]
  refine mo_loop (d := d + 1) (X0 := X4) fp.2.2.2 fk.2.2.2 (9 - fd p) X4 _ _ _ (by omega) (Ag.refl _ _) (fun i' j w1 w2 w3 w4 => by omega) (fun Y g1 g2 => ⟨?_, g1⟩)
  unfold Rr isM
  rw [fp.2.1 hp, fk.2.1 hk, show 8 - (8 - ct p) = ct p by omega, show 8 - (8 - ct k) = ct k by omega]
def p42 (k : Nat) : Bool := k == 41 || k == 42
def aF (p : Nat → Bool) : Nat → Nat → Bool → Bool
  | 0, _, a => a
  | n + 1, i, a => aF p n (i + 1) (a || p i)
theorem aF_eq {p : Nat → Bool} : ∀ n i a, aF p n i a = true ↔ a = true ∨ ∃ j, i ≤ j ∧ j < i + n ∧ p j = true := by
  intro n
  induction n with
  | zero => intro i a; exact ⟨fun h => Or.inl h, fun h => h.elim id (fun ⟨j, h1, h2, _⟩ => by omega)⟩
  | succ n ih =>
    intro i a
    show aF p n (i + 1) (a || p i) = true ↔ _
    rw [ih, Bool.or_eq_true]
    refine ⟨fun h => ?_, fun h => ?_⟩
    · rcases h with (h | h) | ⟨j, h1, h2, h3⟩
      · exact Or.inl h
      · exact Or.inr ⟨i, by omega, by omega, h⟩
      · exact Or.inr ⟨j, by omega, by omega, h3⟩
    · rcases h with h | ⟨j, h1, h2, h3⟩
      · exact Or.inl (Or.inl h)
      · by_cases hz : j = i
        · subst hz; exact Or.inl (Or.inr h3)
        · exact Or.inr ⟨j, by omega, by omega, h3⟩
/-- does a binding choose, as the reference asks -/
def chR (ty : Int32) (e w : Nat) (key : Int32) (b : Bnd) : Bool := decide (b.1 = nI e) && (decide (b.2.1 = nI w) && (decide (ty = 1) || ((decide (ty = 0) && decide (b.2.2 = key)) || (decide (ty = 2) && isM b.2.2 key))))
theorem chR_eq {ty : Int32} {e w t : Nat} {key : Int32} {b : Bnd} (ht : t < 3) (hty : ty = nI t) (hk : isKeyB key = true) : chR ty e w key b = chB ty e w key b := by
  unfold chR chB
  congr 2
  subst hty
  match t, ht with
  | 0, _ =>
    rw [decide_eq_false (show ¬ nI 0 = 1 by decide), decide_eq_true (show nI 0 = 0 by decide), decide_eq_false (show ¬ nI 0 = 2 by decide)]
    rfl
  | 1, _ =>
    rw [decide_eq_true (show nI 1 = 1 by decide)]
    rfl
  | 2, _ =>
    rw [decide_eq_false (show ¬ nI 2 = 1 by decide), decide_eq_false (show ¬ nI 2 = 0 by decide), decide_eq_true (show nI 2 = 2 by decide), Bool.false_and, Bool.false_or, Bool.true_and]
    by_cases hp : b.2.2 = key
    · rw [hp, isM_self hk, decide_eq_true rfl]
      rfl
    · rw [decide_eq_false hp, Bool.false_or]
      rfl
theorem ch_loop {gc : Nat → Nat} {m : Nat} {M : Nat → Nat} {d : Nat} {X0 : XT} {q : QT} {key : Int32} {e w n : Nat} {g : Int32} (he : e < 5) (hw : w < 6) (hn : X0 8 0 = nI n) (hn2 : n ≤ 24) (hk : isPat key = true) (hp : ∀ i, i < n → isPat (X0 7 i) = true) : ∀ l i (X : XT) (a : Bool), i + l = n → Ag p42 X0 X → X 42 w = b2i a → (∀ w', w' ≠ w → X 42 w' = X0 42 w') → (∀ Y x5, Ag p42 X0 Y → Y 42 w = b2i (aF (fun i => chR (X0 0 e) e w key (bnA X0 i)) l i a) → (∀ w', w' ≠ w → Y 42 w' = X0 42 w') → TM gc m M (d + 3) 112 q 127 [.ref m, .int (nI e), .int key, .int g, .int (nI w), .int x5] [] Y) → TM gc m M (d + 3) 112 q 23 [.ref m, .int (nI e), .int key, .int g, .int (nI w), .int (nI i)] [] X := by
  intro l
  induction l with
  | zero =>
    intro i X a hi ha h1 h2 hq
    exact N112_23 ⟨fun _ => hq X _ ha h1 h2, fun z => absurd (by rw [ha 8 rfl, hn]; exact nI_le (by omega) (by omega)) z⟩
  | succ l ih =>
    intro i X a hi ha h1 h2 hq
    have hcl : (nI i).toNatClampNeg = i := nI_clamp (by omega)
    have hce : (nI e).toNatClampNeg = e := nI_clamp (by omega)
    have hcw : (nI w).toNatClampNeg = w := nI_clamp (by omega)
    have hu : aF (fun i => chR (X0 0 e) e w key (bnA X0 i)) (l + 1) i a = aF (fun i => chR (X0 0 e) e w key (bnA X0 i)) l (i + 1) (a || chR (X0 0 e) e w key (bnA X0 i)) := rfl
    rw [hu] at hq
    have no : ∀ Y, Ag p42 X0 Y → Y 42 w = b2i a → (∀ w', w' ≠ w → Y 42 w' = X0 42 w') → chR (X0 0 e) e w key (bnA X0 i) = false → TM gc m M (d + 3) 112 q 121 [.ref m, .int (nI e), .int key, .int g, .int (nI w), .int (nI i)] [] Y := fun Y y1 y2 y3 y4 => by
      rw [y4, Bool.or_false] at hq
      refine N112_121 ?_
      rw [nI_1]
      exact ih (i + 1) Y a (by omega) y1 y2 y3 hq
    have yes : ∀ Y, Ag p42 X0 Y → (∀ w', w' ≠ w → Y 42 w' = X0 42 w') → chR (X0 0 e) e w key (bnA X0 i) = true → TM gc m M (d + 3) 112 q 113 [.ref m, .int (nI e), .int key, .int g, .int (nI w), .int (nI i)] [] Y := fun Y y1 y3 y4 => by
      rw [y4, Bool.or_true] at hq
      refine N112_113 ?_
      rw [hcw]
      refine ⟨nI_pos (by omega), hw, Or.inr rfl, fun Z e1 => N112_121 ?_⟩
      rw [nI_1]
      refine ih (i + 1) Z true (by omega) (by rw [e1]; exact y1.wr rfl) (by rw [e1, wr_s]; rfl) (fun w' hw' => ?_) hq
      rw [e1, wr_i hw']
      exact y3 w' hw'
    have f0 : X 0 = X0 0 := ha 0 rfl
    have f5 : X 5 = X0 5 := ha 5 rfl
    have f6 : X 6 = X0 6 := ha 6 rfl
    have f7 : X 7 = X0 7 := ha 7 rfl
    refine N112_23 ⟨fun z => absurd z (by rw [ha 8 rfl, hn]; exact nI_ge (by omega) (by omega)), fun _ => ⟨nI_pos (by omega), by omega, ?_⟩⟩
    rw [hcl, f5, f6]
    refine ⟨fun z => no X ha h1 h2 ?_, fun z => ⟨nI_pos (by omega), by omega, fun z2 => N112_58 ?_, fun z2 => no X ha h1 h2 ?_⟩⟩
    · unfold chR
      rw [decide_eq_false (show ¬ (bnA X0 i).1 = nI e from z), Bool.false_and]
    · have c1 : chR (X0 0 e) e w key (bnA X0 i) = (decide (X0 0 e = 1) || ((decide (X0 0 e = 0) && decide (X0 7 i = key)) || (decide (X0 0 e = 2) && isM (X0 7 i) key))) := by
        unfold chR
        rw [decide_eq_true (show (bnA X0 i).1 = nI e from z), decide_eq_true (show (bnA X0 i).2.1 = nI w from z2), Bool.true_and, Bool.true_and]
        rfl
      have last : ¬ X0 0 e = 1 → (decide (X0 0 e = 0) && decide (X0 7 i = key)) = false → TM gc m M (d + 3) 112 q 88 [.ref m, .int (nI e), .int key, .int g, .int (nI w), .int (nI i)] [] X := fun n1 n2 => by
        rw [decide_eq_false n1, n2, Bool.false_or, Bool.false_or] at c1
        refine N112_88 ?_
        rw [hce, hcl, f0, f7]
        refine ⟨nI_pos (by omega), he, fun w1 => no X ha h1 h2 (by rw [c1, decide_eq_false w1, Bool.false_and]), fun w1 => ⟨nI_pos (by omega), by omega, _, n_matches (hp i (by omega)) hk, ?_⟩⟩
        rintro r Y ⟨rfl, g1⟩
        have g2 := g1.mono (q := p42) (fun k hk => by
          have : k = 41 := beq_iff_eq.mp hk
          subst this; rfl)
        rw [decide_eq_true w1, Bool.true_and] at c1
        have g3 : Y 42 = X 42 := g1 42 rfl
        refine ⟨_, rfl, fun w2 => no Y (ha.trans g2) (by rw [g3]; exact h1) (by rw [g3]; exact h2) ?_, fun w2 => yes Y (ha.trans g2) (by rw [g3]; exact h2) ?_⟩
        · rw [c1]; exact b2i_z.mp w2
        · rw [c1]; exact b2i_nz w2
      rw [hce, hcl, f0, f7]
      refine ⟨nI_pos (by omega), he, fun w1 => yes X ha h2 ?_, fun w1 => ⟨nI_pos (by omega), he, fun w2 => last w1 (by rw [decide_eq_false w2, Bool.false_and]), fun w2 => ⟨nI_pos (by omega), by omega, fun w3 => yes X ha h2 ?_, fun w3 => last w1 (by rw [decide_eq_false w3, Bool.and_false])⟩⟩⟩
      · rw [c1, decide_eq_true w1, Bool.true_or]
      · rw [c1, decide_eq_true w2, decide_eq_true w3, Bool.and_self, Bool.true_or, Bool.or_true]
    · unfold chR
      rw [decide_eq_false (show ¬ (bnA X0 i).2.1 = nI w from z2), Bool.false_and, Bool.and_false]
theorem ag_bn {p : Nat → Bool} {X Y : XT} (ha : Ag p X Y) (h5 : p 5 = false) (h6 : p 6 = false) (h7 : p 7 = false) {i : Nat} : bnA Y i = bnA X i := by
  unfold bnA
  rw [ha 5 h5, ha 6 h6, ha 7 h7]
/-- what the bindings say of one queue -/
theorem ch_any {X : XT} {s : St} {n e w t : Nat} {key : Int32} (hb : (bnL X n).Perm (uB s.2 0)) (h0 : X 0 e = s.1 (101 + 10 * e)) (ht : t < 3) (hty : s.1 (101 + 10 * e) = nI t) (hk : isKeyB key = true) : aF (fun i => chR (X 0 e) e w key (bnA X i)) n 0 false = isCh s e w key := by
  rw [Bool.eq_iff_iff, aF_eq]
  unfold isCh
  rw [List.any_eq_true]
  refine ⟨fun h => ?_, fun ⟨b, h1, h2⟩ => ?_⟩
  · rcases h with h | ⟨j, -, h2, h3⟩
    · cases h
    · refine ⟨bnA X j, hb.mem_iff.mp (bn_mem.mpr ⟨j, by omega, rfl⟩), ?_⟩
      rw [h0, chR_eq ht hty hk] at h3
      exact h3
  · obtain ⟨j, hj, rfl⟩ := bn_mem.mp (hb.mem_iff.mpr h1)
    refine Or.inr ⟨j, Nat.zero_le _, by omega, ?_⟩
    rw [h0, chR_eq ht hty hk]
    exact h2
theorem co_loop {gc : Nat → Nat} {m : Nat} {M : Nat → Nat} {d : Nat} {X0 : XT} {q : QT} {key : Int32} {e n t : Nat} {s : St} (he : e < 5) (hn : X0 8 0 = nI n) (hn2 : n ≤ 24) (hk : isKeyB key = true) (hp : ∀ i, i < n → isPat (X0 7 i) = true) (hb : (bnL X0 n).Perm (uB s.2 0)) (h0 : X0 0 e = s.1 (101 + 10 * e)) (ht : t < 3) (hty : s.1 (101 + 10 * e) = nI t) : ∀ l w g (X : XT) (v5 : Value), w + l = 6 → Ag p42 X0 X → (∀ w', w' < w → X 42 w' = b2i (isCh s e w' key)) → (∀ Y, Ag p42 X0 Y → (∀ w', w' < 6 → Y 42 w' = b2i (isCh s e w' key)) → q (some (.int (nI (g + ccF s e key l w)))) Y) → TM gc m M (d + 3) 112 q 5 [.ref m, .int (nI e), .int key, .int (nI g), .int (nI w), v5] [] X := by
  have hkp : isPat key = true := by
    unfold isKeyB at hk
    rw [Bool.and_eq_true] at hk
    exact hk.2
  intro l
  induction l with
  | zero =>
    intro w g X v5 hw ha h1 hq
    refine N112_5 ⟨fun _ => N112_146 (hq X ha (fun w' hw' => h1 w' (by omega))), fun z => absurd (nI_le (a := 6) (by omega) (by omega)) z⟩
  | succ l ih =>
    intro w g X v5 hw ha h1 hq
    have hcw : (nI w).toNatClampNeg = w := nI_clamp (by omega)
    refine N112_5 ⟨fun z => absurd z (nI_ge (b := 6) (by omega) (by decide)), fun _ => ?_⟩
    rw [hcw]
    refine ⟨nI_pos (by omega), by omega, Or.inl rfl, fun Y e1 => ?_⟩
    have hY : Ag p42 X0 Y := by rw [e1]; exact ha.wr rfl
    have hYX : ∀ k, k ≠ 42 → Y k = X k := fun k hk => by rw [e1]; exact funext (fun i => wr_k hk)
    have f0 : Y 0 = X0 0 := hY 0 rfl
    refine ch_loop (X0 := Y) he (by omega) (by rw [hY 8 rfl]; exact hn) hn2 hkp (fun i hi => by rw [hY 7 rfl]; exact hp i hi) n 0 Y false (by omega) (Ag.refl _ _) (by rw [e1, wr_s]; rfl) (fun _ _ => rfl) (fun Z x5 z1 z2 z3 => N112_127 ?_)
    have hcc : aF (fun i => chR (Y 0 e) e w key (bnA Y i)) n 0 false = isCh s e w key := by
      refine ch_any ?_ (by rw [f0]; exact h0) ht hty hk
      rw [bn_cg (fun i _ => ag_bn hY rfl rfl rfl)]
      exact hb
    rw [hcc] at z2
    rw [hcw, z2]
    have hccF : ccF s e key (l + 1) w = (isCh s e w key).toNat + ccF s e key l (w + 1) := rfl
    rw [hccF] at hq
    have hw2 : ∀ w', w' < w + 1 → Z 42 w' = b2i (isCh s e w' key) := fun w' hw' => by
      by_cases hz : w' = w
      · subst hz; exact z2
      · rw [z3 w' hz, e1, wr_i hz]
        exact h1 w' (by omega)
    refine ⟨nI_pos (by omega), by omega, fun y => N112_140 ?_, fun y => N112_140 ?_⟩
    · rw [b2i_z.mp y] at hq
      rw [nI_1]
      refine ih (w + 1) g Z _ (by omega) (hY.trans z1) hw2 (fun Y2 u1 u2 => ?_)
      have := hq Y2 u1 u2
      rw [show g + (false.toNat + ccF s e key l (w + 1)) = g + ccF s e key l (w + 1) by show g + (0 + _) = _; omega] at this
      exact this
    · rw [b2i_nz y] at hq
      rw [nI_1, nI_1]
      refine ih (w + 1) (g + 1) Z _ (by omega) (hY.trans z1) hw2 (fun Y2 u1 u2 => ?_)
      have := hq Y2 u1 u2
      rw [show g + (true.toNat + ccF s e key l (w + 1)) = g + 1 + ccF s e key l (w + 1) by show g + (1 + _) = _; omega] at this
      exact this
theorem n_choose {gc : Nat → Nat} {m : Nat} {M : Nat → Nat} {d : Nat} {X : XT} {s : St} {key : Int32} {e : Nat} (hE : sE X s.1) (hB : sB X s.2) (hnt : NT s.1) (hbi : BI s.1 s.2) (he : e < 5) (hd : ¬ s.1 (100 + 10 * e) = 0) (hk : isKeyB key = true) : WM gc m M (d + 4) 112 [.ref m, .int (nI e), .int key] X (fun r X' => r = some (.int (nI (ccF s e key 6 0))) ∧ Ag p42 X X' ∧ ∀ w, w < 6 → X' 42 w = b2i (isCh s e w key)) := by
  obtain ⟨t, ht, hty⟩ := hnt e he hd
  have h0 := (hE e he).1
  rw [if_neg hd] at h0
  refine N112 (co_loop (X0 := X) (n := (uB s.2 0).length) he hB.1 hbi.1 hk (fun i hi => ?_) hB.2 h0 ht hty 6 0 0 X _ rfl (Ag.refl _ _) (fun w' hw' => by omega) (fun Y y1 y2 => ⟨?_, y1, y2⟩))
  · have hm := hB.2.mem_iff.mp (bn_mem.mpr ⟨i, hi, rfl⟩)
    exact (hbi.2 _ hm).1
  · rw [Nat.zero_add]
