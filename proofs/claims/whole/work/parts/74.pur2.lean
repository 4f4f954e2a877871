/-! the reference's copies: one list for all that wait or are held -/
abbrev Cp : Type := Int32 × Int32 × Int32 × Int32 × Int32 × Int32 × Int32 × Int32 × Int32 × Int32
def cpA (X : XT) (i : Nat) : Cp := (X 21 i, X 22 i, X 23 i, X 24 i, X 25 i, X 26 i, X 27 i, X 28 i, X 29 i, X 30 i)
def cQ (x : Cp) : Int32 := x.2.2.2.1
def cP (x : Cp) : Int32 := x.2.2.2.2.1
def cH (x : Cp) : Int32 := x.2.2.2.2.2.1
def cT (x : Cp) : Int32 := x.2.2.2.2.2.2.1
def cD (x : Cp) : Int32 := x.2.2.2.2.2.2.2.1
def cpL (X : XT) (n : Nat) : List Cp := (List.range n).map (cpA X)
def wCp (r : Rec) : Cp := ((rM r).1, mKey (rM r), mHops (rM r), rQ r, rP r, -1, rT r, 0, b2i (mPers (rM r)), b2i (rRet r))
def hCp (c : Nat) (r : Rec) : Cp := ((rM r).1, mKey (rM r), mHops (rM r), rQ r, rP r, nI c, rT r, rD r + 1, b2i (mPers (rM r)), b2i (rRet r))
def mp (k : Nat) (r : Rec) : Cp := if k < 8 then wCp r else hCp (k - 14) r
def isP (k : Nat) : Bool := (decide (2 ≤ k) && decide (k < 8)) || (decide (14 ≤ k) && decide (k < 18))
def fl (v : Mu) : Nat → List Cp
  | 0 => []
  | n + 1 => fl v n ++ (if isP n then (uC v n).map (mp n) else [])
def flat (v : Mu) : List Cp := fl v 18
theorem fl_up {v : Mu} {k : Nat} {l : List Rec} {a b : List Cp} (hk : isP k = true) (h : (l.map (mp k) ++ a).Perm ((uC v k).map (mp k) ++ b)) : ∀ n, (n ≤ k → fl (upC v k l) n = fl v n) ∧ (k < n → (fl (upC v k l) n ++ a).Perm (fl v n ++ b)) := by
  intro n
  induction n with
  | zero => exact ⟨fun _ => rfl, fun h => absurd h (Nat.not_lt_zero _)⟩
  | succ n ih =>
    refine ⟨fun hn => ?_, fun hn => ?_⟩
    · show fl (upC v k l) n ++ _ = fl v n ++ _
      rw [ih.1 (by omega), uC_n (by omega)]
    · show (fl (upC v k l) n ++ _ ++ a).Perm (fl v n ++ _ ++ b)
      by_cases hz : n = k
      · subst hz
        rw [ih.1 (Nat.le_refl _), hk, if_pos rfl, uC_s, List.append_assoc, List.append_assoc]
        exact h.append_left _
      · rw [uC_n hz]
        generalize (if isP n then (uC v n).map (mp n) else []) = Z
        rw [List.append_assoc, List.append_assoc]
        refine (List.perm_append_comm.append_left _).trans ?_
        rw [← List.append_assoc]
        refine ((ih.2 (by omega)).append_right Z).trans ?_
        rw [List.append_assoc]
        exact List.perm_append_comm.append_left _
theorem isP_lt {k : Nat} (h : isP k = true) : (2 ≤ k ∧ k < 8) ∨ (14 ≤ k ∧ k < 18) := by
  unfold isP at h
  rw [Bool.or_eq_true, Bool.and_eq_true, Bool.and_eq_true, decide_eq_true_eq, decide_eq_true_eq, decide_eq_true_eq, decide_eq_true_eq] at h
  exact h
theorem flat_up {v : Mu} {k : Nat} {l : List Rec} {a b : List Cp} (hk : isP k = true) (h : (l.map (mp k) ++ a).Perm ((uC v k).map (mp k) ++ b)) : (flat (upC v k l) ++ a).Perm (flat v ++ b) := (fl_up hk h 18).2 (by have := isP_lt hk; omega)
theorem isP_q {q : Nat} (h : q < 6) : isP (2 + q) = true := by
  unfold isP
  rw [decide_eq_true (show 2 ≤ 2 + q by omega), decide_eq_true (show 2 + q < 8 by omega)]
  rfl
theorem isP_c {c : Nat} (h : c < 4) : isP (14 + c) = true := by
  unfold isP
  rw [decide_eq_true (show 14 ≤ 14 + c by omega), decide_eq_true (show 14 + c < 18 by omega), Bool.and_self, Bool.or_true]
theorem mp_q {q : Nat} (h : q < 6) {r : Rec} : mp (2 + q) r = wCp r := if_pos (by omega)
theorem mp_c {c : Nat} {r : Rec} : mp (14 + c) r = hCp c r := by
  unfold mp
  rw [if_neg (by omega), show 14 + c - 14 = c by omega]
/-- what picks one list's copies only -/
theorem fl_sel {v : Mu} {p : Cp → Bool} {k : Nat} (hk : isP k = true) (h1 : ∀ r, r ∈ uC v k → p (mp k r) = true) (h2 : ∀ j, isP j = true → j ≠ k → ∀ r, r ∈ uC v j → p (mp j r) = false) : ∀ n, (fl v n).filter p = if k < n then (uC v k).map (mp k) else [] := by
  intro n
  induction n with
  | zero => rfl
  | succ n ih =>
    show (fl v n ++ _).filter p = _
    rw [List.filter_append, ih]
    by_cases hz : n = k
    · subst hz
      rw [if_neg (Nat.lt_irrefl _), hk, if_pos rfl, if_pos (Nat.lt_succ_self _), List.nil_append]
      exact List.filter_eq_self.mpr (fun x hx => by
        obtain ⟨r, hr, rfl⟩ := List.mem_map.mp hx
        exact h1 r hr)
    · have e : (if isP n then (uC v n).map (mp n) else []).filter p = [] := by
        by_cases hp : isP n = true
        · rw [if_pos hp]
          exact List.filter_eq_nil_iff.mpr (fun x hx => by
            obtain ⟨r, hr, rfl⟩ := List.mem_map.mp hx
            rw [h2 n hp hz r hr]
            decide)
        · rw [if_neg hp]; rfl
      rw [e, List.append_nil]
      by_cases hn : k < n
      · rw [if_pos hn, if_pos (by omega)]
      · rw [if_neg hn, if_neg (by omega)]
theorem flat_sel {v : Mu} {p : Cp → Bool} {k : Nat} (hk : isP k = true) (h1 : ∀ r, r ∈ uC v k → p (mp k r) = true) (h2 : ∀ j, isP j = true → j ≠ k → ∀ r, r ∈ uC v j → p (mp j r) = false) : (flat v).filter p = (uC v k).map (mp k) := by
  unfold flat
  rw [fl_sel hk h1 h2 18, if_pos (by have := isP_lt hk; omega)]
theorem fl_mem {v : Mu} {x : Cp} : ∀ n, x ∈ fl v n ↔ ∃ k, k < n ∧ isP k = true ∧ ∃ r, r ∈ uC v k ∧ mp k r = x := by
  intro n
  induction n with
  | zero => exact ⟨fun h => absurd h List.not_mem_nil, fun ⟨k, h, _⟩ => absurd h (Nat.not_lt_zero _)⟩
  | succ n ih =>
    show x ∈ fl v n ++ _ ↔ _
    rw [List.mem_append, ih]
    refine ⟨fun h => ?_, fun ⟨k, h1, h2, r, h3, h4⟩ => ?_⟩
    · rcases h with ⟨k, h1, h2⟩ | h
      · exact ⟨k, by omega, h2⟩
      · by_cases hp : isP n = true
        · rw [if_pos hp] at h
          obtain ⟨r, h1, h2⟩ := List.mem_map.mp h
          exact ⟨n, by omega, hp, r, h1, h2⟩
        · rw [if_neg hp] at h
          exact absurd h List.not_mem_nil
    · by_cases hz : k = n
      · subst hz
        refine Or.inr ?_
        rw [if_pos h2]
        exact List.mem_map.mpr ⟨r, h3, h4⟩
      · exact Or.inl ⟨k, by omega, h2, r, h3, h4⟩
theorem flat_mem {v : Mu} {x : Cp} : x ∈ flat v ↔ ∃ k, isP k = true ∧ ∃ r, r ∈ uC v k ∧ mp k r = x := by
  unfold flat
  rw [fl_mem]
  exact ⟨fun ⟨k, _, h⟩ => ⟨k, h⟩, fun ⟨k, h, h2⟩ => ⟨k, by have := isP_lt h; omega, h, h2⟩⟩
theorem fl_cg {v w : Mu} (h : ∀ k, isP k = true → uC w k = uC v k) : ∀ n, fl w n = fl v n := by
  intro n
  induction n with
  | zero => rfl
  | succ n ih =>
    show fl w n ++ _ = fl v n ++ _
    rw [ih]
    by_cases hp : isP n = true
    · rw [if_pos hp, if_pos hp, h n hp]
    · rw [if_neg hp, if_neg hp]
theorem flat_cg {v w : Mu} (h : ∀ k, isP k = true → uC w k = uC v k) : flat w = flat v := fl_cg h 18
/-- a copy leaves list k -/
theorem flat_er {v : Mu} {k j : Nat} (hk : isP k = true) (hj : j < (uC v k).length) : (mp k (uC v k)[j] :: flat (upC v k ((uC v k).eraseIdx j))).Perm (flat v) := by
  have h1 := flat_up (v := v) (l := (uC v k).eraseIdx j) (a := [mp k (uC v k)[j]]) (b := []) hk (by
    rw [List.append_nil]
    refine (List.perm_append_singleton _ _).trans ?_
    rw [← List.map_cons]
    exact (er_perm hj).map (mp k))
  rw [List.append_nil] at h1
  exact (List.perm_append_singleton _ _).symm.trans h1
/-- a copy comes to list k -/
theorem flat_add {v : Mu} {k : Nat} {l : List Rec} {r : Rec} (hk : isP k = true) (h : l.Perm (r :: uC v k)) : (flat (upC v k l)).Perm (mp k r :: flat v) := by
  have h1 := flat_up (v := v) (l := l) (a := []) (b := [mp k r]) hk (by
    rw [List.append_nil]
    refine List.Perm.trans ?_ (List.perm_append_singleton _ _).symm
    rw [← List.map_cons]
    exact h.map (mp k))
  rw [List.append_nil] at h1
  exact h1.trans (List.perm_append_singleton _ _)
/-- the same many, each changed -/
theorem cpL_len {X : XT} {n : Nat} : (cpL X n).length = n := by
  unfold cpL
  rw [List.length_map, List.length_range]
theorem cpL_get {X : XT} {n i : Nat} (h : i < n) : (cpL X n)[i]? = some (cpA X i) := by
  unfold cpL
  rw [List.getElem?_map, List.getElem?_range h]
  rfl
theorem cpL_mem {X : XT} {n : Nat} {x : Cp} : x ∈ cpL X n ↔ ∃ i, i < n ∧ cpA X i = x := by
  unfold cpL
  rw [List.mem_map]
  exact ⟨fun ⟨i, h1, h2⟩ => ⟨i, List.mem_range.mp h1, h2⟩, fun ⟨i, h1, h2⟩ => ⟨i, List.mem_range.mpr h1, h2⟩⟩
theorem cpL_cg {X Y : XT} {n : Nat} (h : ∀ i, i < n → cpA Y i = cpA X i) : cpL Y n = cpL X n := List.map_congr_left (fun i hi => h i (List.mem_range.mp hi))
theorem cpA_cg {X Y : XT} {i : Nat} (h : ∀ k, 21 ≤ k → k ≤ 30 → Y k i = X k i) : cpA Y i = cpA X i := by
  unfold cpA
  rw [h 21 (by omega) (by omega), h 22 (by omega) (by omega), h 23 (by omega) (by omega), h 24 (by omega) (by omega), h 25 (by omega) (by omega), h 26 (by omega) (by omega), h 27 (by omega) (by omega), h 28 (by omega) (by omega), h 29 (by omega) (by omega), h 30 (by omega) (by omega)]
