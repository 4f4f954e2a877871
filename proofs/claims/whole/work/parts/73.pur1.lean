/-! lists: counting, finding, taking one out, order -/
theorem er_perm {α : Type} : ∀ {l : List α} {i : Nat} (h : i < l.length), (l[i] :: l.eraseIdx i).Perm l := by
  intro l
  induction l with
  | nil => intro i h; exact absurd h (Nat.not_lt_zero _)
  | cons a l ih =>
    intro i h
    cases i with
    | zero => exact List.Perm.refl _
    | succ i =>
      have h : i < l.length := Nat.lt_of_succ_lt_succ h
      exact (List.Perm.swap a l[i] (l.eraseIdx i)).trans ((ih h).cons a)
theorem set_perm {α : Type} {l : List α} {i : Nat} {y : α} (h : i < l.length) : (l.set i y).Perm (y :: l.eraseIdx i) := by
  have h1 : i < (l.set i y).length := by rw [List.length_set]; exact h
  have := er_perm h1
  rw [List.getElem_set_self, List.eraseIdx_set_eq] at this
  exact this.symm
/-- the last one takes the place of the one that goes -/
theorem sw_perm {α : Type} (f : Nat → α) {n i : Nat} (h : i ≤ n) : ((List.range (n + 1)).map f).Perm (f i :: (List.range n).map (fun j => if j = i then f n else f j)) := by
  rw [List.range_succ, List.map_append]
  refine List.perm_append_comm.trans ?_
  show (f n :: (List.range n).map f).Perm _
  by_cases hi : i = n
  · subst hi
    have : (List.range i).map (fun j => if j = i then f i else f j) = (List.range i).map f := List.map_congr_left (fun j hj => if_neg (Nat.ne_of_lt (List.mem_range.mp hj)))
    rw [this]
  · have hi : i < n := by omega
    have hl : i < ((List.range n).map f).length := by rw [List.length_map, List.length_range]; exact hi
    have e1 : (List.range n).map (fun j => if j = i then f n else f j) = ((List.range n).map f).set i (f n) := by
      apply List.ext_getElem?
      intro j
      rw [List.getElem?_set, List.getElem?_map, List.getElem?_map]
      by_cases hj : j < n
      · rw [List.getElem?_range hj]
        by_cases hij : i = j
        · subst hij
          rw [if_pos rfl, if_pos hl]
          exact congrArg some (if_pos rfl)
        · rw [if_neg hij]
          exact congrArg some (if_neg (Ne.symm hij))
      · rw [List.getElem?_eq_none (by rw [List.length_range]; omega), if_neg (by omega)]
        rfl
    rw [e1]
    have e2 : ((List.range n).map f)[i] = f i := by rw [List.getElem_map, List.getElem_range]
    have h1 := er_perm hl
    rw [e2] at h1
    exact ((h1.symm.cons (f n)).trans (List.Perm.swap _ _ _)).trans ((set_perm hl).symm.cons (f i))
def Srt {α : Type} (k : α → Int) (l : List α) : Prop := l.Pairwise (fun a b => k a < k b)
theorem Srt.lt {α : Type} {k : α → Int} {l : List α} (h : Srt k l) {i j : Nat} (hij : i < j) (hj : j < l.length) : k (l[i]'(Nat.lt_trans hij hj)) < k l[j] := List.pairwise_iff_getElem.mp h i j (Nat.lt_trans hij hj) hj hij
theorem Srt.inj {α : Type} {k : α → Int} {l : List α} (h : Srt k l) {i j : Nat} (hi : i < l.length) (hj : j < l.length) (he : k l[i] = k l[j]) : i = j := by
  rcases Nat.lt_trichotomy i j with z | z | z
  · have := h.lt z hj; omega
  · exact z
  · have := h.lt z hi; omega
theorem Srt.cnt {α : Type} {k : α → Int} : ∀ {l : List α} (_ : Srt k l) {i : Nat} (hi : i < l.length), l.countP (fun y => decide (k y < k l[i])) = i := by
  intro l
  induction l with
  | nil => intro _ i hi; exact absurd hi (Nat.not_lt_zero _)
  | cons a l ih =>
    intro h i hi
    obtain ⟨h1, h2⟩ := List.pairwise_cons.mp h
    cases i with
    | zero =>
      rw [List.countP_eq_zero]
      intro y hy
      rw [decide_eq_true_eq]
      show ¬ k y < k a
      rcases List.mem_cons.mp hy with rfl | hy
      · omega
      · have := h1 y hy; omega
    | succ i =>
      have hi : i < l.length := Nat.lt_of_succ_lt_succ hi
      have := ih h2 hi
      rw [List.countP_cons]
      show l.countP (fun y => decide (k y < k l[i])) + _ = _
      rw [this, if_pos]
      rw [decide_eq_true_eq]
      exact h1 _ (List.getElem_mem hi)
/-- how many of i, i + 1, .. (n of them) -/
def cF (p : Nat → Bool) : Nat → Nat → Nat
  | 0, _ => 0
  | n + 1, i => (if p i then 1 else 0) + cF p n (i + 1)
theorem cF_eq {p : Nat → Bool} : ∀ n i, cF p n i = (List.range' i n).countP p := by
  intro n
  induction n with
  | zero => intro i; rfl
  | succ n ih =>
    intro i
    rw [List.range'_succ, List.countP_cons, ← ih]
    exact Nat.add_comm _ _
theorem cF_0 {p : Nat → Bool} {n : Nat} : cF p n 0 = (List.range n).countP p := by rw [cF_eq, List.range_eq_range']
theorem cF_map {α : Type} {p : α → Bool} {f : Nat → α} {n : Nat} : cF (fun i => p (f i)) n 0 = ((List.range n).map f).countP p := by
  rw [cF_0, List.countP_map]
  rfl
theorem cF_cg {p q : Nat → Bool} : ∀ n i, (∀ j, i ≤ j → j < i + n → p j = q j) → cF p n i = cF q n i := by
  intro n
  induction n with
  | zero => intro i _; rfl
  | succ n ih =>
    intro i h
    show (if p i then 1 else 0) + cF p n (i + 1) = (if q i then 1 else 0) + cF q n (i + 1)
    rw [h i (by omega) (by omega), ih (i + 1) (fun j h1 h2 => h j (by omega) (by omega))]
theorem cF_le {p : Nat → Bool} : ∀ n i, cF p n i ≤ n := by
  intro n
  induction n with
  | zero => intro i; exact Nat.le_refl _
  | succ n ih =>
    intro i
    show (if p i then 1 else 0) + cF p n (i + 1) ≤ n + 1
    have := ih (i + 1)
    split <;> omega
/-- the first of i, i + 1, .. (n of them) -/
def fF (p : Nat → Bool) : Nat → Nat → Option Nat
  | 0, _ => none
  | n + 1, i => if p i then some i else fF p n (i + 1)
theorem fF_some {p : Nat → Bool} : ∀ n i j, fF p n i = some j → i ≤ j ∧ j < i + n ∧ p j = true ∧ ∀ l, i ≤ l → l < j → p l = false := by
  intro n
  induction n with
  | zero => intro i j h; cases h
  | succ n ih =>
    intro i j h
    unfold fF at h
    split at h
    · rename_i hp
      cases h
      exact ⟨Nat.le_refl _, by omega, hp, fun l h1 h2 => by omega⟩
    · rename_i hp
      obtain ⟨h1, h2, h3, h4⟩ := ih (i + 1) j h
      refine ⟨by omega, by omega, h3, fun l w1 w2 => ?_⟩
      by_cases hl : l = i
      · subst hl; exact Bool.eq_false_iff.mpr hp
      · exact h4 l (by omega) w2
theorem fF_none {p : Nat → Bool} : ∀ n i, fF p n i = none → ∀ j, i ≤ j → j < i + n → p j = false := by
  intro n
  induction n with
  | zero => intro i _ j h1 h2; omega
  | succ n ih =>
    intro i h j h1 h2
    unfold fF at h
    split at h
    · cases h
    · rename_i hp
      by_cases hl : j = i
      · subst hl; exact Bool.eq_false_iff.mpr hp
      · exact ih (i + 1) h j (by omega) (by omega)
theorem fF_cg {p q : Nat → Bool} : ∀ n i, (∀ j, i ≤ j → j < i + n → p j = q j) → fF p n i = fF q n i := by
  intro n
  induction n with
  | zero => intro i _; rfl
  | succ n ih =>
    intro i h
    show (if p i then some i else fF p n (i + 1)) = (if q i then some i else fF q n (i + 1))
    rw [h i (by omega) (by omega), ih (i + 1) (fun j h1 h2 => h j (by omega) (by omega))]
