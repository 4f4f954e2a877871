/-! THE CLASS'S CELLS. A: the addresses that never change: A 0 the broker; A 1, A 2, A 3 its arrays; A (10+e), A (20+q), A (30+c) exchanges, queues, channels; A (40+i) the lists: 0 bindings, 1 letters, 2+q waiting, 8+q rows, 14+c held, 18+c deeds. I: the numbers: 0 lastPlace, 1 routed, 2 lost; 100+10e.. declared, type, durable; 200+10q.. declared, limit, dead, durable; 300+10c.. prefetch, transaction, lastTag. xs: the lists' elements; le, lc: their places. -/
def sumTo (f : Nat → Nat) : Nat → Nat
  | 0 => 0
  | n + 1 => sumTo f n + f n
theorem sumTo_up {f : Nat → Nat} {i v : Nat} : ∀ n, (i < n → sumTo (va_up f i v) n + f i = sumTo f n + v) ∧ (n ≤ i → sumTo (va_up f i v) n = sumTo f n) := by
  intro n
  induction n with
  | zero => exact ⟨fun h => absurd h (Nat.not_lt_zero _), fun _ => rfl⟩
  | succ n ih =>
    refine ⟨fun h => ?_, fun h => ?_⟩
    · show sumTo (va_up f i v) n + va_up f i v n + f i = sumTo f n + f n + v
      by_cases hi : i = n
      · subst hi
        rw [va_up_self, ih.2 (Nat.le_refl _)]
        omega
      · rw [va_up_ne _ _ (Ne.symm hi)]
        have := ih.1 (by omega)
        omega
    · show sumTo (va_up f i v) n + va_up f i v n = sumTo f n + f n
      rw [va_up_ne _ _ (by omega), ih.2 (by omega)]
theorem sumTo_le {f : Nat → Nat} {b : Nat} : ∀ n, (∀ i, i < n → f i ≤ b) → sumTo f n ≤ n * b := by
  intro n
  induction n with
  | zero => intro _; exact Nat.zero_le _
  | succ n ih =>
    intro h
    have h1 := ih (fun i hi => h i (by omega))
    have h2 := h n (by omega)
    show sumTo f n + f n ≤ (n + 1) * b
    rw [Nat.succ_mul]
    omega
def cb (i : Nat) : Nat := if i = 1 then 700 else 100
def sm (lc : Nat → Nat) : Nat := sumTo lc 22
def sm2 (lc : Nat → Nat) : Nat := sumTo (fun i => lc i * lc i) 22
theorem sumTo_two {f : Nat → Nat} {b c : Nat} : ∀ n, (∀ i, i < n → f i ≤ (if i = 1 then c else b)) → b ≤ c → sumTo f n ≤ n * b + (c - b) := by
  intro n
  induction n with
  | zero => intro _ _; exact Nat.zero_le _
  | succ n ih =>
    intro h hbc
    have h2 := h n (by omega)
    show sumTo f n + f n ≤ (n + 1) * b + (c - b)
    rw [Nat.succ_mul]
    by_cases hn : n = 1
    · subst hn
      rw [if_pos rfl] at h2
      have h3 : sumTo f 1 ≤ b := by
        have := h 0 (by omega)
        rw [if_neg (by decide)] at this
        show 0 + f 0 ≤ b
        omega
      omega
    · rw [if_neg hn] at h2
      have h1 := ih (fun i hi => h i (by omega)) hbc
      omega
theorem sm_le {lc : Nat → Nat} (h : ∀ i, i < 22 → lc i ≤ cb i) : sm lc ≤ 2800 := by
  have := sumTo_two (f := lc) (b := 100) (c := 700) 22 (fun i hi => h i hi) (by decide)
  unfold sm
  omega
theorem sm2_le {lc : Nat → Nat} (h : ∀ i, i < 22 → lc i ≤ cb i) : sm2 lc ≤ 700000 := by
  have := sumTo_two (f := fun i => lc i * lc i) (b := 10000) (c := 490000) 22 (fun i hi => by
    have h1 := h i hi
    unfold cb at h1
    by_cases hz : i = 1
    · rw [if_pos hz] at h1 ⊢
      exact Nat.mul_le_mul h1 h1
    · rw [if_neg hz] at h1 ⊢
      exact Nat.mul_le_mul h1 h1) (by decide)
  unfold sm2
  omega
def AOK (A : Nat → Nat) : Prop := (∀ i j, i < 5 → j < 5 → A (10 + i) = A (10 + j) → i = j) ∧ (∀ i j, i < 6 → j < 6 → A (20 + i) = A (20 + j) → i = j) ∧ (∀ i j, i < 4 → j < 4 → A (30 + i) = A (30 + j) → i = j) ∧ ∀ i j, i < 22 → j < 22 → A (40 + i) = A (40 + j) → i = j
/-- the fixed objects -/
def RF (gc : Nat → Nat) (h : AH) (A : Nat → Nat) (I : Nat → Int32) : Prop :=
  at_ h (gc 1) 201 [] ∧ at_ h (A 0) 9 [.ref (A 1), .ref (A 2), .ref (A 3), .ref (A 40), .ref (A 41), .int (I 0), .int (I 1), .int (I 2)] ∧
  at_ h (A 1) 100 [.ref (A 10), .ref (A 11), .ref (A 12), .ref (A 13), .ref (A 14)] ∧ at_ h (A 2) 101 [.ref (A 20), .ref (A 21), .ref (A 22), .ref (A 23), .ref (A 24), .ref (A 25)] ∧ at_ h (A 3) 102 [.ref (A 30), .ref (A 31), .ref (A 32), .ref (A 33)] ∧
  (∀ e, e < 5 → at_ h (A (10 + e)) 6 [.int (I (100 + 10 * e)), .int (I (101 + 10 * e)), .int (I (102 + 10 * e))]) ∧
  (∀ q, q < 6 → at_ h (A (20 + q)) 8 [.int (I (200 + 10 * q)), .int (I (201 + 10 * q)), .int (I (202 + 10 * q)), .int (I (203 + 10 * q)), .ref (A (42 + q)), .ref (A (48 + q))]) ∧
  ∀ c, c < 4 → at_ h (A (30 + c)) 2 [.int (I (300 + 10 * c)), .int (I (301 + 10 * c)), .int (I (302 + 10 * c)), .ref (A (54 + c)), .ref (A (58 + c))]
/-- the lists -/
def RL (gc : Nat → Nat) (h : AH) (A : Nat → Nat) (le lc : Nat → Nat) (xs : Nat → List Nat) : Prop :=
  (∀ i, i < 22 → Lst gc h (A (40 + i)) (le i) (lc i) (xs i) ∧ lc i ≤ cb i) ∧ ∀ i j, i < 22 → j < 22 → 0 < lc i → 0 < lc j → le i = le j → i = j
/-- all of it, with nc cells and ns slots at hand -/
def RS (gc : Nat → Nat) (h : AH) (A : Nat → Nat) (I : Nat → Int32) (xs : Nat → List Nat) (nc ns : Nat) : Prop :=
  AOK A ∧ Fr h ∧ RF gc h A I ∧ ∃ le lc : Nat → Nat, RL gc h A le lc xs ∧ nc ≤ h.2.1 + sm lc ∧ ns ≤ h.2.2.1 + sm2 lc
/-- what a list's method leaves alone -/
def KL (h h' : AH) : Prop := ∀ (b t : Nat) (vs : List Value), t ≠ 0 → t ≠ 10 → t ≠ 103 → at_ h b t vs → at_ h' b t vs
theorem KL.refl {h : AH} : KL h h := fun _ _ _ _ _ _ h => h
theorem KL.trans {h h' h'' : AH} (h1 : KL h h') (h2 : KL h' h'') : KL h h'' := fun b t vs z1 z2 z3 hb => h2 b t vs z1 z2 z3 (h1 b t vs z1 z2 z3 hb)
theorem RF.kl {gc : Nat → Nat} {h h' : AH} {A : Nat → Nat} {I : Nat → Int32} (hR : RF gc h A I) (hk : KL h h') : RF gc h' A I := by
  obtain ⟨h1, h2, h3, h4, h5, h6, h7, h8⟩ := hR
  exact ⟨hk _ _ _ (by decide) (by decide) (by decide) h1, hk _ _ _ (by decide) (by decide) (by decide) h2, hk _ _ _ (by decide) (by decide) (by decide) h3, hk _ _ _ (by decide) (by decide) (by decide) h4, hk _ _ _ (by decide) (by decide) (by decide) h5, fun e he => hk _ _ _ (by decide) (by decide) (by decide) (h6 e he), fun q hq => hk _ _ _ (by decide) (by decide) (by decide) (h7 q hq), fun c hc => hk _ _ _ (by decide) (by decide) (by decide) (h8 c hc)⟩
theorem El.kl {h h' : AH} {xs : List Nat} (he : El h xs) (hk : KL h h') : El h' xs := fun x hx => by
  obtain ⟨t, ws, h1, h2⟩ := he x hx
  have := asg_n0 h2
  exact ⟨t, ws, hk _ _ _ this.1 this.2.1 this.2.2.1 h1, h2⟩
/-- a list stays where neither its cell nor its places were written -/
theorem Lst.keep {gc : Nat → Nat} {h h' : AH} {a e cap : Nat} {xs : List Nat} (hL : Lst gc h a e cap xs) (h1 : ∀ vs, at_ h a 10 vs → at_ h' a 10 vs) (h2 : 0 < cap → ∀ vs, at_ h e 103 vs → at_ h' e 103 vs) (hk : KL h h') : Lst gc h' a e cap xs := by
  obtain ⟨⟨m, g1⟩, g2, g3, g4, g5⟩ := hL
  refine ⟨⟨m, h1 _ g1⟩, g2, g3, ?_, g5.kl hk⟩
  rcases g4 with ⟨z1, z2, z3⟩ | ⟨z1, z3⟩
  · exact Or.inl ⟨z1, z2, hk _ _ _ (by decide) (by decide) (by decide) z3⟩
  · exact Or.inr ⟨z1, h2 z1 _ z3⟩
theorem Lst.tag {gc : Nat → Nat} {h : AH} {a e cap : Nat} {xs : List Nat} (hL : Lst gc h a e cap xs) : (∃ vs, at_ h a 10 vs) ∧ (0 < cap → ∃ vs, at_ h e 103 vs) := by
  obtain ⟨⟨m, g1⟩, g2, g3, g4, g5⟩ := hL
  refine ⟨⟨_, g1⟩, fun z => ?_⟩
  rcases g4 with ⟨z1, -⟩ | ⟨-, z3⟩
  · omega
  · exact ⟨_, z3⟩
theorem Chg.kl {gc : Nat → Nat} {h h' : AH} {a e cap : Nat} {xs : List Nat} (hf : Fr h) (hL : Lst gc h a e cap xs) (hc : Chg h h' (fun b => b = a ∨ (b = e ∧ 0 < cap))) : KL h h' := by
  intro b t vs z1 z2 z3 hb
  refine hc.at hf hb z1 (fun hz => ?_)
  obtain ⟨⟨v1, g1⟩, g2⟩ := hL.tag
  rcases hz with rfl | ⟨rfl, hz⟩
  · exact z2 (at_eq hb g1).1
  · obtain ⟨v2, g2⟩ := g2 hz
    exact z3 (at_eq hb g2).1
/-- one list changed -/
theorem RL.step {gc : Nat → Nat} {h h' : AH} {A le lc : Nat → Nat} {xs : Nat → List Nat} {i e' c' : Nat} {ys : List Nat} (hA : AOK A) (hf : Fr h) (hR : RL gc h A le lc xs) (hi : i < 22) (hc : Chg h h' (fun b => b = A (40 + i) ∨ (b = le i ∧ 0 < lc i))) (hL : Lst gc h' (A (40 + i)) e' c' ys) (hb : c' ≤ cb i) (he : (e' = le i ∧ c' = lc i) ∨ h.1 ≤ e') : RL gc h' A (va_up le i e') (va_up lc i c') (va_up xs i ys) := by
  have hk := Chg.kl hf (hR.1 i hi).1 hc
  refine ⟨fun j hj => ?_, fun j k hj hk2 z1 z2 z3 => ?_⟩
  · by_cases hij : j = i
    · subst hij
      rw [va_up_self, va_up_self, va_up_self]
      exact ⟨hL, hb⟩
    · rw [va_up_ne _ _ hij, va_up_ne _ _ hij, va_up_ne _ _ hij]
      obtain ⟨g1, g2⟩ := hR.1 j hj
      refine ⟨g1.keep (fun vs hv => hc.at hf hv (by decide) (fun z => ?_)) (fun hz vs hv => hc.at hf hv (by decide) (fun z => ?_)) hk, g2⟩
      · rcases z with z | ⟨z, z2⟩
        · exact hij (hA.2.2.2 j i hj hi z)
        · obtain ⟨v2, w2⟩ := (hR.1 i hi).1.tag.2 z2
          rw [z] at hv
          exact absurd (at_eq hv w2).1 (by decide)
      · rcases z with z | ⟨z, z2⟩
        · obtain ⟨v2, w2⟩ := (hR.1 i hi).1.tag.1
          rw [z] at hv
          exact absurd (at_eq hv w2).1 (by decide)
        · exact hij (hR.2 j i hj hi hz z2 z)
  · have lt : ∀ j, j < 22 → 0 < lc j → le j < h.1 := fun j hj hz => by
      obtain ⟨v2, w2⟩ := (hR.1 j hj).1.tag.2 hz
      exact hf.lt w2 (by decide)
    by_cases h1 : j = i <;> by_cases h2 : k = i
    · omega
    · subst h1
      rw [va_up_self, va_up_ne _ _ h2] at z3
      rw [va_up_ne _ _ h2] at z2
      have := lt k hk2 z2
      rcases he with ⟨he, he2⟩ | he
      · rw [va_up_self, he2] at z1
        exact hR.2 j k hj hk2 z1 z2 (by rw [← he]; exact z3)
      · omega
    · subst h2
      rw [va_up_self, va_up_ne _ _ h1] at z3
      rw [va_up_ne _ _ h1] at z1
      have := lt j hj z1
      rcases he with ⟨he, he2⟩ | he
      · rw [va_up_self, he2] at z2
        exact hR.2 j k hj hk2 z1 z2 (by rw [← he]; exact z3)
      · omega
    · rw [va_up_ne _ _ h1, va_up_ne _ _ h2] at z3
      rw [va_up_ne _ _ h1] at z1
      rw [va_up_ne _ _ h2] at z2
      exact hR.2 j k hj hk2 z1 z2 z3
theorem sm_up {lc : Nat → Nat} {i c : Nat} (hi : i < 22) : sm (va_up lc i c) + lc i = sm lc + c := (sumTo_up 22).1 hi
theorem sm2_up {lc : Nat → Nat} {i c : Nat} (hi : i < 22) : sm2 (va_up lc i c) + lc i * lc i = sm2 lc + c * c := by
  unfold sm2
  have h1 : (fun j => va_up lc i c j * va_up lc i c j) = va_up (fun j => lc j * lc j) i (c * c) := by
    funext j
    by_cases hj : j = i
    · subst hj; rw [va_up_self, va_up_self]
    · rw [va_up_ne _ _ hj, va_up_ne _ _ hj]
  rw [h1]
  exact (sumTo_up (f := fun j => lc j * lc j) 22).1 hi
