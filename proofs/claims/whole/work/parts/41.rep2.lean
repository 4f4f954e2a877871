/-! lists within the class's cells -/
theorem RS.lst {gc : Nat → Nat} {h : AH} {A : Nat → Nat} {I : Nat → Int32} {xs : Nat → List Nat} {nc ns : Nat} (hR : RS gc h A I xs nc ns) {i : Nat} (hi : i < 22) : ∃ e cap, Lst gc h (A (40 + i)) e cap (xs i) := by
  obtain ⟨-, -, -, le, lc, h1, -⟩ := hR
  exact ⟨_, _, (h1.1 i hi).1⟩
theorem rs_size {gc : Nat → Nat} {d : Nat} {h : AH} {A : Nat → Nat} {I : Nat → Int32} {xs : Nat → List Nat} {nc ns i : Nat} (hR : RS gc h A I xs nc ns) (hi : i < 22) : WP gc (d + 1) 17 [.ref (A (40 + i))] h (fun r h' => r = some (.int (nI (xs i).length)) ∧ h' = h) := by
  obtain ⟨e, cap, hL⟩ := hR.lst hi
  exact k_size hL
theorem rs_isEmpty {gc : Nat → Nat} {d : Nat} {h : AH} {A : Nat → Nat} {I : Nat → Int32} {xs : Nat → List Nat} {nc ns i : Nat} (hR : RS gc h A I xs nc ns) (hi : i < 22) : WP gc (d + 1) 63 [.ref (A (40 + i))] h (fun r h' => r = some (.int (if xs i = [] then 1 else 0)) ∧ h' = h) := by
  obtain ⟨e, cap, hL⟩ := hR.lst hi
  exact k_isEmpty hL
theorem rs_get {gc : Nat → Nat} {d : Nat} {h : AH} {A : Nat → Nat} {I : Nat → Int32} {xs : Nat → List Nat} {nc ns i j : Nat} (hR : RS gc h A I xs nc ns) (hi : i < 22) (hj : j < (xs i).length) : WP gc (d + 3) 18 [.ref (A (40 + i)), .int (nI j)] h (fun r h' => r = some (.ref (xs i)[j]) ∧ h' = h) := by
  obtain ⟨e, cap, hL⟩ := hR.lst hi
  exact k_get hL hj
theorem gr_sq {c : Nat} : gr c + c * c ≤ gr c * gr c ∧ c + 1 ≤ gr c := by
  have h1 : c + 1 ≤ gr c := by
    unfold gr
    split <;> (try split) <;> omega
  refine ⟨?_, h1⟩
  obtain ⟨k, hk⟩ : ∃ k, gr c = c + 1 + k := ⟨gr c - (c + 1), by omega⟩
  rw [hk]
  have : (c + 1 + k) * (c + 1 + k) = c * c + (c + 1 + k) + (c + (c + 1 + k) * k + c * k) := by
    simp only [Nat.mul_add, Nat.add_mul, Nat.one_mul, Nat.mul_one]
    have := Nat.mul_comm c k
    omega
  omega
/-- a full list's new places are within bounds, if it is not too long -/
theorem gr_cb {i n c : Nat} (hs : n ≤ (if i = 1 then 449 else 65)) (hc : c = n) : gr c ≤ cb i := by
  unfold gr cb
  subst hc
  split at hs <;> rename_i hz
  · rw [if_pos hz]
    split <;> (try split) <;> omega
  · rw [if_neg hz]
    split <;> (try split) <;> omega
/-- a list has grown by LPost -/
theorem RS.post {gc : Nat → Nat} {h h' : AH} {A le lc : Nat → Nat} {I : Nat → Int32} {xs : Nat → List Nat} {nc ns i : Nat} {ys : List Nat} (hA : AOK A) (hf : Fr h) (hF : RF gc h A I) (hL : RL gc h A le lc xs) (b1 : nc ≤ h.2.1 + sm lc) (b2 : ns ≤ h.2.2.1 + sm2 lc) (hi : i < 22) (hs : (xs i).length ≤ (if i = 1 then 449 else 65)) (hP : LPost gc h (A (40 + i)) (le i) (lc i) (xs i).length ys h') : RS gc h' A I (va_up xs i ys) nc ns ∧ KL h h' ∧ h.1 ≤ h'.1 := by
  obtain ⟨e', cap', g1, g2, g3⟩ := hP
  have hk := Chg.kl hf (hL.1 i hi).1 g2
  refine ⟨⟨hA, g2.2.1, hF.kl hk, va_up le i e', va_up lc i cap', hL.step hA hf hi g2 g1 ?_ ?_, ?_⟩, hk, g2.1⟩
  · rcases g3 with ⟨-, z, -⟩ | ⟨-, z, z2, -⟩
    · rw [z]; exact (hL.1 i hi).2
    · rw [z]; exact gr_cb hs z2
  · rcases g3 with ⟨z1, z2, -⟩ | ⟨z1, -⟩
    · exact Or.inl ⟨z1, z2⟩
    · exact Or.inr (by omega)
  · have s1 := sm_up (lc := lc) (c := cap') hi
    have s2 := sm2_up (lc := lc) (c := cap') hi
    rcases g3 with ⟨-, z, -, z3, z4⟩ | ⟨-, z, -, -, z3, z4⟩
    · subst z
      rw [z3, z4]
      exact ⟨by omega, by omega⟩
    · subst z
      obtain ⟨q1, q2⟩ := gr_sq (c := lc i)
      exact ⟨by omega, by omega⟩
theorem rs_room {gc : Nat → Nat} {h : AH} {A le lc : Nat → Nat} {xs : Nat → List Nat} {nc ns : Nat} (hL : RL gc h A le lc xs) (b1 : nc ≤ h.2.1 + sm lc) (b2 : ns ≤ h.2.2.1 + sm2 lc) (r1 : 3000 ≤ nc) (r2 : 800000 ≤ ns) : 100 ≤ h.2.1 ∧ 100000 ≤ h.2.2.1 := by
  have s1 := sm_le (fun i hi => (hL.1 i hi).2)
  have s2 := sm2_le (fun i hi => (hL.1 i hi).2)
  exact ⟨by omega, by omega⟩
theorem cb_le {i : Nat} : cb i ≤ 700 := by
  unfold cb
  split <;> omega
theorem rs_add {gc : Nat → Nat} {d : Nat} {h : AH} {A : Nat → Nat} {I : Nat → Int32} {xs : Nat → List Nat} {nc ns i y ty : Nat} {wy : List Value} (hR : RS gc h A I xs nc ns) (hi : i < 22) (hs : (xs i).length ≤ (if i = 1 then 449 else 65)) (r1 : 3000 ≤ nc) (r2 : 800000 ≤ ns) (hy : at_ h y ty wy) (ht : asg 103 ty = true) :
    WP gc (d + 6) 23 [.ref (A (40 + i)), .ref y] h (fun r h' => r = some (.int 1) ∧ RS gc h' A I (va_up xs i (xs i ++ [y])) nc ns ∧ KL h h' ∧ h.1 ≤ h'.1) := by
  obtain ⟨hA, hf, hF, le, lc, hL, b1, b2⟩ := hR
  obtain ⟨q1, q2⟩ := rs_room hL b1 b2 r1 r2
  have hc := (hL.1 i hi).2
  have hc2 := cb_le (i := i)
  refine WP_post (k_add hf (hL.1 i hi).1 (by omega) hy ht (by omega) (by omega)) ?_
  rintro r h' ⟨rfl, hP⟩
  exact ⟨rfl, RS.post hA hf hF hL b1 b2 hi hs hP⟩
theorem rs_insert {gc : Nat → Nat} {d : Nat} {h : AH} {A : Nat → Nat} {I : Nat → Int32} {xs : Nat → List Nat} {nc ns i j y ty : Nat} {wy : List Value} (hR : RS gc h A I xs nc ns) (hi : i < 22) (hs : (xs i).length ≤ (if i = 1 then 449 else 65)) (hj : j ≤ (xs i).length) (r1 : 3000 ≤ nc) (r2 : 800000 ≤ ns) (hy : at_ h y ty wy) (ht : asg 103 ty = true) :
    WP gc (d + 5) 52 [.ref (A (40 + i)), .int (nI j), .ref y] h (fun r h' => r = none ∧ RS gc h' A I (va_up xs i (ins (xs i) j y)) nc ns ∧ KL h h' ∧ h.1 ≤ h'.1) := by
  obtain ⟨hA, hf, hF, le, lc, hL, b1, b2⟩ := hR
  obtain ⟨q1, q2⟩ := rs_room hL b1 b2 r1 r2
  have hc := (hL.1 i hi).2
  have hc2 := cb_le (i := i)
  refine WP_post (k_insert hf (hL.1 i hi).1 (by omega) hj hy ht (by omega) (by omega)) ?_
  rintro r h' ⟨rfl, hP⟩
  exact ⟨rfl, RS.post hA hf hF hL b1 b2 hi hs hP⟩
theorem RS.same {gc : Nat → Nat} {h h' : AH} {A le lc : Nat → Nat} {I : Nat → Int32} {xs : Nat → List Nat} {nc ns i : Nat} {ys : List Nat} (hA : AOK A) (hf : Fr h) (hF : RF gc h A I) (hL : RL gc h A le lc xs) (b1 : nc ≤ h.2.1 + sm lc) (b2 : ns ≤ h.2.2.1 + sm2 lc) (hi : i < 22) (g1 : Lst gc h' (A (40 + i)) (le i) (lc i) ys) (g2 : Chg h h' (fun b => b = A (40 + i) ∨ (b = le i ∧ 0 < lc i))) (z1 : h'.2.1 = h.2.1) (z2 : h'.2.2.1 = h.2.2.1) : RS gc h' A I (va_up xs i ys) nc ns ∧ KL h h' ∧ h.1 ≤ h'.1 := by
  have hk := Chg.kl hf (hL.1 i hi).1 g2
  refine ⟨⟨hA, g2.2.1, hF.kl hk, va_up le i (le i), va_up lc i (lc i), hL.step hA hf hi g2 g1 (hL.1 i hi).2 (Or.inl ⟨rfl, rfl⟩), ?_⟩, hk, g2.1⟩
  have s1 := sm_up (lc := lc) (c := lc i) hi
  have s2 := sm2_up (lc := lc) (c := lc i) hi
  rw [z1, z2]
  exact ⟨by omega, by omega⟩
theorem rs_remove {gc : Nat → Nat} {d : Nat} {h : AH} {A : Nat → Nat} {I : Nat → Int32} {xs : Nat → List Nat} {nc ns i j : Nat} (hR : RS gc h A I xs nc ns) (hi : i < 22) (hj : j < (xs i).length) :
    WP gc (d + 3) 32 [.ref (A (40 + i)), .int (nI j)] h (fun r h' => r = some (.ref (xs i)[j]) ∧ RS gc h' A I (va_up xs i ((xs i).eraseIdx j)) nc ns ∧ KL h h' ∧ h.1 ≤ h'.1) := by
  obtain ⟨hA, hf, hF, le, lc, hL, b1, b2⟩ := hR
  refine WP_post (k_remove hf (hL.1 i hi).1 hj) ?_
  rintro r h' ⟨rfl, g1, g2, -, g4, g5⟩
  exact ⟨rfl, RS.same hA hf hF hL b1 b2 hi g1 g2 g4 g5⟩
theorem rs_clear {gc : Nat → Nat} {d : Nat} {h : AH} {A : Nat → Nat} {I : Nat → Int32} {xs : Nat → List Nat} {nc ns i : Nat} (hR : RS gc h A I xs nc ns) (hi : i < 22) :
    WP gc (d + 1) 38 [.ref (A (40 + i))] h (fun r h' => r = none ∧ RS gc h' A I (va_up xs i []) nc ns ∧ KL h h' ∧ h.1 ≤ h'.1) := by
  obtain ⟨hA, hf, hF, le, lc, hL, b1, b2⟩ := hR
  refine WP_post (k_clear hf (hL.1 i hi).1) ?_
  rintro r h' ⟨rfl, g1, g2, -, g4, g5⟩
  exact ⟨rfl, RS.same hA hf hF hL b1 b2 hi g1 g2 g4 g5⟩
