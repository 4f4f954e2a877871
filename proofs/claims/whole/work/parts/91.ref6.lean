/-! the reference: counting and finding copies, taking one out -/
theorem nn_lt {x : Int32} : ¬ 0 ≤ x ↔ x < 0 := by
  rw [Int32.le_iff_toInt_le, Int32.lt_iff_toInt_lt]
  omega
theorem n_le_lt {x y : Int32} : ¬ x ≤ y ↔ y < x := by
  rw [Int32.le_iff_toInt_le, Int32.lt_iff_toInt_lt]
  omega
theorem rcn_loop {gc : Nat → Nat} {m : Nat} {M : Nat → Nat} {d : Nat} {X : XT} {q : QT} {n w : Nat} (hn : X 31 0 = nI n) (hn2 : n ≤ 400) : ∀ l i g, i + l = n → q (some (.int (nI (g + cF (fun i => rdQ w (cpA X i)) l i)))) X → TM gc m M d 116 q 4 [.ref m, .int (nI w), .int (nI g), .int (nI i)] [] X := by
  intro l
  induction l with
  | zero =>
    intro i g hi hq
    exact N116_4 ⟨fun _ => N116_40 hq, fun z => absurd (by rw [hn]; exact nI_le (by omega) (by omega)) z⟩
  | succ l ih =>
    intro i g hi hq
    have hcl : (nI i).toNatClampNeg = i := nI_clamp (by omega)
    have hu : cF (fun i => rdQ w (cpA X i)) (l + 1) i = (if rdQ w (cpA X i) then 1 else 0) + cF (fun i => rdQ w (cpA X i)) l (i + 1) := rfl
    rw [hu] at hq
    have no : rdQ w (cpA X i) = false → TM gc m M d 116 q 34 [.ref m, .int (nI w), .int (nI g), .int (nI i)] [] X := fun hb => by
      rw [hb, if_neg (by decide), Nat.zero_add] at hq
      refine N116_34 ?_
      rw [nI_1]
      exact ih (i + 1) g (by omega) hq
    refine N116_4 ⟨fun z => absurd z (by rw [hn]; exact nI_ge (by omega) (by omega)), fun _ => ⟨nI_pos (by omega), by omega, ?_⟩⟩
    rw [hcl]
    refine ⟨fun z => no ?_, fun z => ⟨nI_pos (by omega), by omega, fun z2 => no ?_, fun z2 => N116_34 ?_⟩⟩
    · unfold rdQ
      rw [decide_eq_false (show ¬ cQ (cpA X i) = nI w from z), Bool.false_and]
    · unfold rdQ
      rw [decide_eq_false (show ¬ cH (cpA X i) < 0 from fun y => nn_lt.mpr y z2), Bool.and_false]
    · have hb : rdQ w (cpA X i) = true := by
        unfold rdQ
        rw [decide_eq_true (show cQ (cpA X i) = nI w from z), decide_eq_true (show cH (cpA X i) < 0 from nn_lt.mp z2)]
        rfl
      rw [hb, if_pos rfl, ← Nat.add_assoc] at hq
      rw [nI_1, nI_1]
      exact ih (i + 1) (g + 1) (by omega) hq
theorem n_readyCount {gc : Nat → Nat} {m : Nat} {M : Nat → Nat} {d : Nat} {X : XT} {n w : Nat} (hn : X 31 0 = nI n) (hn2 : n ≤ 400) : WM gc m M (d + 1) 116 [.ref m, .int (nI w)] X (fun r X' => r = some (.int (nI (cF (fun i => rdQ w (cpA X i)) n 0))) ∧ X' = X) := by
  refine N116 (rcn_loop hn hn2 n 0 0 (by omega) ⟨?_, rfl⟩)
  rw [Nat.zero_add]
theorem hcn_loop {gc : Nat → Nat} {m : Nat} {M : Nat → Nat} {d : Nat} {X : XT} {q : QT} {n c : Nat} (hn : X 31 0 = nI n) (hn2 : n ≤ 400) : ∀ l i g, i + l = n → q (some (.int (nI (g + cF (fun i => hdC c (cpA X i)) l i)))) X → TM gc m M d 125 q 4 [.ref m, .int (nI c), .int (nI g), .int (nI i)] [] X := by
  intro l
  induction l with
  | zero =>
    intro i g hi hq
    exact N125_4 ⟨fun _ => N125_31 hq, fun z => absurd (by rw [hn]; exact nI_le (by omega) (by omega)) z⟩
  | succ l ih =>
    intro i g hi hq
    have hcl : (nI i).toNatClampNeg = i := nI_clamp (by omega)
    have hu : cF (fun i => hdC c (cpA X i)) (l + 1) i = (if hdC c (cpA X i) then 1 else 0) + cF (fun i => hdC c (cpA X i)) l (i + 1) := rfl
    rw [hu] at hq
    refine N125_4 ⟨fun z => absurd z (by rw [hn]; exact nI_ge (by omega) (by omega)), fun _ => ⟨nI_pos (by omega), by omega, ?_⟩⟩
    rw [hcl]
    refine ⟨fun z => N125_25 ?_, fun z => N125_25 ?_⟩
    · rw [show hdC c (cpA X i) = false from decide_eq_false z, if_neg (by decide), Nat.zero_add] at hq
      rw [nI_1]
      exact ih (i + 1) g (by omega) hq
    · rw [show hdC c (cpA X i) = true from decide_eq_true z, if_pos rfl, ← Nat.add_assoc] at hq
      rw [nI_1, nI_1]
      exact ih (i + 1) (g + 1) (by omega) hq
theorem n_heldCount {gc : Nat → Nat} {m : Nat} {M : Nat → Nat} {d : Nat} {X : XT} {n c : Nat} (hn : X 31 0 = nI n) (hn2 : n ≤ 400) : WM gc m M (d + 1) 125 [.ref m, .int (nI c)] X (fun r X' => r = some (.int (nI (cF (fun i => hdC c (cpA X i)) n 0))) ∧ X' = X) := by
  refine N125 (hcn_loop hn hn2 n 0 0 (by omega) ⟨?_, rfl⟩)
  rw [Nat.zero_add]
theorem ra_in {gc : Nat → Nat} {m : Nat} {M : Nat → Nat} {d : Nat} {X : XT} {q : QT} {n w c : Nat} {x2 : Int32} (hn : X 31 0 = nI n) (hn2 : n ≤ 400) (hc : c < n) : ∀ l i g, i + l = n → (∀ x5, TM gc m M d 117 q 93 [.ref m, .int (nI w), .int x2, .int (nI c), .int (nI (g + cF (fun o => rdQ w (cpA X o) && decide (cP (cpA X o) < cP (cpA X c))) l i)), .int x5] [] X) → TM gc m M d 117 q 38 [.ref m, .int (nI w), .int x2, .int (nI c), .int (nI g), .int (nI i)] [] X := by
  intro l
  induction l with
  | zero =>
    intro i g hi hq
    exact N117_38 ⟨fun _ => hq _, fun z => absurd (by rw [hn]; exact nI_le (by omega) (by omega)) z⟩
  | succ l ih =>
    intro i g hi hq
    have hcl : (nI i).toNatClampNeg = i := nI_clamp (by omega)
    have hcc : (nI c).toNatClampNeg = c := nI_clamp (by omega)
    have hu : cF (fun o => rdQ w (cpA X o) && decide (cP (cpA X o) < cP (cpA X c))) (l + 1) i = (if (rdQ w (cpA X i) && decide (cP (cpA X i) < cP (cpA X c))) then 1 else 0) + cF (fun o => rdQ w (cpA X o) && decide (cP (cpA X o) < cP (cpA X c))) l (i + 1) := rfl
    rw [hu] at hq
    have no : (rdQ w (cpA X i) && decide (cP (cpA X i) < cP (cpA X c))) = false → TM gc m M d 117 q 87 [.ref m, .int (nI w), .int x2, .int (nI c), .int (nI g), .int (nI i)] [] X := fun hb => by
      rw [hb, if_neg (by decide), Nat.zero_add] at hq
      refine N117_87 ?_
      rw [nI_1]
      exact ih (i + 1) g (by omega) hq
    refine N117_38 ⟨fun z => absurd z (by rw [hn]; exact nI_ge (by omega) (by omega)), fun _ => ⟨nI_pos (by omega), by omega, ?_⟩⟩
    rw [hcl, hcc]
    refine ⟨fun z => no ?_, fun z => ⟨nI_pos (by omega), by omega, fun z2 => no ?_, fun z2 => ⟨nI_pos (by omega), by omega, nI_pos (by omega), by omega, fun z3 => no ?_, fun z3 => N117_87 ?_⟩⟩⟩
    · unfold rdQ
      rw [decide_eq_false (show ¬ cQ (cpA X i) = nI w from z), Bool.false_and, Bool.false_and]
    · unfold rdQ
      rw [decide_eq_false (show ¬ cH (cpA X i) < 0 from fun y => nn_lt.mpr y z2), Bool.and_false, Bool.false_and]
    · rw [decide_eq_false (show ¬ cP (cpA X i) < cP (cpA X c) from fun y => n_le_lt.mpr y z3), Bool.and_false]
    · have hb : rdQ w (cpA X i) = true := by
        unfold rdQ
        rw [decide_eq_true (show cQ (cpA X i) = nI w from z), decide_eq_true (show cH (cpA X i) < 0 from nn_lt.mp z2)]
        rfl
      rw [hb, decide_eq_true (show cP (cpA X i) < cP (cpA X c) from n_le_lt.mp z3), Bool.and_self, if_pos rfl, ← Nat.add_assoc] at hq
      rw [nI_1, nI_1]
      exact ih (i + 1) (g + 1) (by omega) hq
theorem ra_out {gc : Nat → Nat} {m : Nat} {M : Nat → Nat} {d : Nat} {X : XT} {q : QT} {n w nth : Nat} (hn : X 31 0 = nI n) (hn2 : n ≤ 400) (ht : nth < 2 ^ 31) : ∀ l i v4 v5, i + l = n → q (some (.int (oI (fF (fun i => rdQ w (cpA X i) && decide (cF (fun o => rdQ w (cpA X o) && decide (cP (cpA X o) < cP (cpA X i))) n 0 = nth)) l i)))) X → TM gc m M d 117 q 2 [.ref m, .int (nI w), .int (nI nth), .int (nI i), v4, v5] [] X := by
  intro l
  induction l with
  | zero =>
    intro i v4 v5 hi hq
    exact N117_2 ⟨fun _ => N117_107 hq, fun z => absurd (by rw [hn]; exact nI_le (by omega) (by omega)) z⟩
  | succ l ih =>
    intro i v4 v5 hi hq
    have hcl : (nI i).toNatClampNeg = i := nI_clamp (by omega)
    generalize hf : (fun i => rdQ w (cpA X i) && decide (cF (fun o => rdQ w (cpA X o) && decide (cP (cpA X o) < cP (cpA X i))) n 0 = nth)) = f at hq ih
    have hfi : f i = (rdQ w (cpA X i) && decide (cF (fun o => rdQ w (cpA X o) && decide (cP (cpA X o) < cP (cpA X i))) n 0 = nth)) := by rw [← hf]
    have hu : fF f (l + 1) i = if f i then some i else fF f l (i + 1) := rfl
    rw [hu] at hq
    have no : ∀ v4 v5, f i = false → TM gc m M d 117 q 101 [.ref m, .int (nI w), .int (nI nth), .int (nI i), v4, v5] [] X := fun v4 v5 hb => by
      rw [hb, if_neg (by decide)] at hq
      refine N117_101 ?_
      rw [nI_1]
      exact ih (i + 1) v4 v5 (by omega) hq
    refine N117_2 ⟨fun z => absurd z (by rw [hn]; exact nI_ge (by omega) (by omega)), fun _ => ⟨nI_pos (by omega), by omega, ?_⟩⟩
    rw [hcl]
    refine ⟨fun z => no _ _ ?_, fun z => ⟨nI_pos (by omega), by omega, fun z2 => N117_32 (ra_in hn hn2 (by omega) n 0 0 (by omega) (fun x5 => N117_93 ?_)), fun z2 => no _ _ ?_⟩⟩
    · rw [hfi]
      unfold rdQ
      rw [decide_eq_false (show ¬ cQ (cpA X i) = nI w from z), Bool.false_and, Bool.false_and]
    · rw [Nat.zero_add]
      have hb : rdQ w (cpA X i) = true := by
        unfold rdQ
        rw [decide_eq_true (show cQ (cpA X i) = nI w from z), decide_eq_true (show cH (cpA X i) < 0 from z2)]
        rfl
      rw [hb, Bool.true_and] at hfi
      have hcnt := cF_le (p := fun o => rdQ w (cpA X o) && decide (cP (cpA X o) < cP (cpA X i))) n 0
      refine ⟨fun z3 => no _ _ ?_, fun z3 => ?_⟩
      · rw [hfi]
        exact decide_eq_false (fun y => z3 (by rw [y]))
      · rw [hfi, decide_eq_true ((nI_eq (by omega) ht).mp z3), if_pos rfl] at hq
        exact hq
    · rw [hfi]
      unfold rdQ
      rw [decide_eq_false (show ¬ cH (cpA X i) < 0 from z2), Bool.and_false, Bool.false_and]
theorem n_readyAt {gc : Nat → Nat} {m : Nat} {M : Nat → Nat} {d : Nat} {X : XT} {n w nth : Nat} (hn : X 31 0 = nI n) (hn2 : n ≤ 400) (ht : nth < 2 ^ 31) : WM gc m M (d + 1) 117 [.ref m, .int (nI w), .int (nI nth)] X (fun r X' => r = some (.int (oI (fF (fun i => rdQ w (cpA X i) && decide (cF (fun o => rdQ w (cpA X o) && decide (cP (cpA X o) < cP (cpA X i))) n 0 = nth)) n 0))) ∧ X' = X) := N117 (ra_out hn hn2 ht n 0 _ _ (by omega) ⟨rfl, rfl⟩)
theorem ha_in {gc : Nat → Nat} {m : Nat} {M : Nat → Nat} {d : Nat} {X : XT} {q : QT} {n w c : Nat} {x2 : Int32} (hn : X 31 0 = nI n) (hn2 : n ≤ 400) (hc : c < n) : ∀ l i g, i + l = n → (∀ x5, TM gc m M d 140 q 74 [.ref m, .int (nI w), .int x2, .int (nI c), .int (nI (g + cF (fun o => hdC w (cpA X o) && decide (cT (cpA X o) < cT (cpA X c))) l i)), .int x5] [] X) → TM gc m M d 140 q 29 [.ref m, .int (nI w), .int x2, .int (nI c), .int (nI g), .int (nI i)] [] X := by
  intro l
  induction l with
  | zero =>
    intro i g hi hq
    exact N140_29 ⟨fun _ => hq _, fun z => absurd (by rw [hn]; exact nI_le (by omega) (by omega)) z⟩
  | succ l ih =>
    intro i g hi hq
    have hcl : (nI i).toNatClampNeg = i := nI_clamp (by omega)
    have hcc : (nI c).toNatClampNeg = c := nI_clamp (by omega)
    have hu : cF (fun o => hdC w (cpA X o) && decide (cT (cpA X o) < cT (cpA X c))) (l + 1) i = (if (hdC w (cpA X i) && decide (cT (cpA X i) < cT (cpA X c))) then 1 else 0) + cF (fun o => hdC w (cpA X o) && decide (cT (cpA X o) < cT (cpA X c))) l (i + 1) := rfl
    rw [hu] at hq
    have no : (hdC w (cpA X i) && decide (cT (cpA X i) < cT (cpA X c))) = false → TM gc m M d 140 q 68 [.ref m, .int (nI w), .int x2, .int (nI c), .int (nI g), .int (nI i)] [] X := fun hb => by
      rw [hb, if_neg (by decide), Nat.zero_add] at hq
      refine N140_68 ?_
      rw [nI_1]
      exact ih (i + 1) g (by omega) hq
    refine N140_29 ⟨fun z => absurd z (by rw [hn]; exact nI_ge (by omega) (by omega)), fun _ => ⟨nI_pos (by omega), by omega, ?_⟩⟩
    rw [hcl, hcc]
    refine ⟨fun z => no ?_, fun z => ⟨nI_pos (by omega), by omega, nI_pos (by omega), by omega, fun z3 => no ?_, fun z3 => N140_68 ?_⟩⟩
    · rw [show hdC w (cpA X i) = false from decide_eq_false z, Bool.false_and]
    · rw [decide_eq_false (show ¬ cT (cpA X i) < cT (cpA X c) from fun y => n_le_lt.mpr y z3), Bool.and_false]
    · rw [show hdC w (cpA X i) = true from decide_eq_true z, decide_eq_true (show cT (cpA X i) < cT (cpA X c) from n_le_lt.mp z3), Bool.and_self, if_pos rfl, ← Nat.add_assoc] at hq
      rw [nI_1, nI_1]
      exact ih (i + 1) (g + 1) (by omega) hq
theorem ha_out {gc : Nat → Nat} {m : Nat} {M : Nat → Nat} {d : Nat} {X : XT} {q : QT} {n w nth : Nat} (hn : X 31 0 = nI n) (hn2 : n ≤ 400) (ht : nth < 2 ^ 31) : ∀ l i v4 v5, i + l = n → q (some (.int (oI (fF (fun i => hdC w (cpA X i) && decide (cF (fun o => hdC w (cpA X o) && decide (cT (cpA X o) < cT (cpA X i))) n 0 = nth)) l i)))) X → TM gc m M d 140 q 2 [.ref m, .int (nI w), .int (nI nth), .int (nI i), v4, v5] [] X := by
  intro l
  induction l with
  | zero =>
    intro i v4 v5 hi hq
    exact N140_2 ⟨fun _ => N140_88 hq, fun z => absurd (by rw [hn]; exact nI_le (by omega) (by omega)) z⟩
  | succ l ih =>
    intro i v4 v5 hi hq
    have hcl : (nI i).toNatClampNeg = i := nI_clamp (by omega)
    generalize hf : (fun i => hdC w (cpA X i) && decide (cF (fun o => hdC w (cpA X o) && decide (cT (cpA X o) < cT (cpA X i))) n 0 = nth)) = f at hq ih
    have hfi : f i = (hdC w (cpA X i) && decide (cF (fun o => hdC w (cpA X o) && decide (cT (cpA X o) < cT (cpA X i))) n 0 = nth)) := by rw [← hf]
    have hu : fF f (l + 1) i = if f i then some i else fF f l (i + 1) := rfl
    rw [hu] at hq
    have no : ∀ v4 v5, f i = false → TM gc m M d 140 q 82 [.ref m, .int (nI w), .int (nI nth), .int (nI i), v4, v5] [] X := fun v4 v5 hb => by
      rw [hb, if_neg (by decide)] at hq
      refine N140_82 ?_
      rw [nI_1]
      exact ih (i + 1) v4 v5 (by omega) hq
    refine N140_2 ⟨fun z => absurd z (by rw [hn]; exact nI_ge (by omega) (by omega)), fun _ => ⟨nI_pos (by omega), by omega, ?_⟩⟩
    rw [hcl]
    refine ⟨fun z => N140_23 (ha_in hn hn2 (by omega) n 0 0 (by omega) (fun x5 => N140_74 ?_)), fun z => no _ _ ?_⟩
    · rw [Nat.zero_add]
      rw [show hdC w (cpA X i) = true from decide_eq_true z, Bool.true_and] at hfi
      have hcnt := cF_le (p := fun o => hdC w (cpA X o) && decide (cT (cpA X o) < cT (cpA X i))) n 0
      refine ⟨fun z3 => no _ _ ?_, fun z3 => ?_⟩
      · rw [hfi]
        exact decide_eq_false (fun y => z3 (by rw [y]))
      · rw [hfi, decide_eq_true ((nI_eq (by omega) ht).mp z3), if_pos rfl] at hq
        exact hq
    · rw [hfi, show hdC w (cpA X i) = false from decide_eq_false z, Bool.false_and]
theorem n_heldAt {gc : Nat → Nat} {m : Nat} {M : Nat → Nat} {d : Nat} {X : XT} {n w nth : Nat} (hn : X 31 0 = nI n) (hn2 : n ≤ 400) (ht : nth < 2 ^ 31) : WM gc m M (d + 1) 140 [.ref m, .int (nI w), .int (nI nth)] X (fun r X' => r = some (.int (oI (fF (fun i => hdC w (cpA X i) && decide (cF (fun o => hdC w (cpA X o) && decide (cT (cpA X o) < cT (cpA X i))) n 0 = nth)) n 0))) ∧ X' = X) := N140 (ha_out hn hn2 ht n 0 _ _ (by omega) ⟨rfl, rfl⟩)
def pP (k : Nat) : Bool := decide (21 ≤ k) && decide (k ≤ 31)
theorem pP_f {k : Nat} (h : ¬ (21 ≤ k ∧ k ≤ 31)) : pP k = false := by
  unfold pP
  rw [← Bool.decide_and]
  exact decide_eq_false h
/-- element i takes what the last one had -/
def swX (X : XT) (n i : Nat) : XT := fun k j => if k = 31 then (if j = 0 then nI n else X 31 j) else if 21 ≤ k ∧ k ≤ 30 ∧ j = i then X k n else X k j
theorem n_remove {gc : Nat → Nat} {m : Nat} {M : Nat → Nat} {d : Nat} {X : XT} {n i : Nat} (hn : X 31 0 = nI (n + 1)) (hn2 : n < 400) (hi : i ≤ n) (h29 : X 29 n = 0 ∨ X 29 n = 1) (h30 : X 30 n = 0 ∨ X 30 n = 1) : WM gc m M (d + 1) 107 [.ref m, .int (nI i)] X (fun r X' => r = none ∧ Ag pP X X' ∧ X' 31 0 = nI n ∧ ∀ j, cpA X' j = if j = i then cpA X n else cpA X j) := by
  have hcl : (nI i).toNatClampNeg = i := nI_clamp (by omega)
  have hcn : (nI n).toNatClampNeg = n := nI_clamp (by omega)
  have hi4 : i < 400 := by omega
  have pi : ¬ nI i < 0 := nI_pos (by omega)
  have pn : ¬ nI n < 0 := nI_pos (by omega)
  refine N107 (fun Y0 e0 => ?_)
  have q0 : Y0 31 0 = nI n := by rw [e0, wr_s, hn, nI_pred]
  rw [q0, hcl, hcn]
  refine ⟨pn, hn2, pi, hi4, fun Y1 e1 => ?_⟩
  have q1 : Y1 31 0 = nI n := by rw [e1, wr_k (by decide)]; exact q0
  rw [q1, hcn]
  refine ⟨pn, hn2, pi, hi4, fun Y2 e2 => ?_⟩
  have q2 : Y2 31 0 = nI n := by rw [e2, wr_k (by decide)]; exact q1
  rw [q2, hcn]
  refine ⟨pn, hn2, pi, hi4, fun Y3 e3 => ?_⟩
  have q3 : Y3 31 0 = nI n := by rw [e3, wr_k (by decide)]; exact q2
  rw [q3, hcn]
  refine ⟨pn, hn2, pi, hi4, fun Y4 e4 => ?_⟩
  have q4 : Y4 31 0 = nI n := by rw [e4, wr_k (by decide)]; exact q3
  rw [q4, hcn]
  refine ⟨pn, hn2, pi, hi4, fun Y5 e5 => ?_⟩
  have q5 : Y5 31 0 = nI n := by rw [e5, wr_k (by decide)]; exact q4
  rw [q5, hcn]
  refine ⟨pn, hn2, pi, hi4, fun Y6 e6 => ?_⟩
  have q6 : Y6 31 0 = nI n := by rw [e6, wr_k (by decide)]; exact q5
  rw [q6, hcn]
  refine ⟨pn, hn2, pi, hi4, fun Y7 e7 => ?_⟩
  have q7 : Y7 31 0 = nI n := by rw [e7, wr_k (by decide)]; exact q6
  rw [q7, hcn]
  refine ⟨pn, hn2, pi, hi4, fun Y8 e8 => ?_⟩
  have q8 : Y8 31 0 = nI n := by rw [e8, wr_k (by decide)]; exact q7
  have k8 : ∀ k, 29 ≤ k → k ≤ 30 → Y8 k = X k := fun k w1 w2 => by
    rw [e8, e7, e6, e5, e4, e3, e2, e1, e0]
    funext j
    rw [wr_k (by omega), wr_k (by omega), wr_k (by omega), wr_k (by omega), wr_k (by omega), wr_k (by omega), wr_k (by omega), wr_k (by omega), wr_k (by omega)]
  rw [q8, hcn]
  refine ⟨pn, hn2, pi, hi4, by rw [k8 29 (by decide) (by decide)]; exact h29, fun Y9 e9 => ?_⟩
  have q9 : Y9 31 0 = nI n := by rw [e9, wr_k (by decide)]; exact q8
  rw [q9, hcn]
  have k9 : Y9 30 = X 30 := by
    rw [← k8 30 (by decide) (by decide), e9]
    exact funext (fun j => wr_k (by decide))
  refine ⟨pn, hn2, pi, hi4, by rw [k9]; exact h30, fun Y10 e10 => ⟨rfl, ?_, ?_, fun j => ?_⟩⟩
  · rw [e10, e9, e8, e7, e6, e5, e4, e3, e2, e1, e0]
    exact ((((((((((((Ag.refl _ _).wr rfl).wr rfl).wr rfl).wr rfl).wr rfl).wr rfl).wr rfl).wr rfl).wr rfl).wr rfl).wr rfl)
  · rw [e10, wr_k (by decide)]; exact q9
  · by_cases hj : j = i
    · subst hj
      rw [if_pos rfl]
      unfold cpA
      rw [e10, e9, e8, e7, e6, e5, e4, e3, e2, e1, e0]
      simp [wr]
    · rw [if_neg hj]
      unfold cpA
      rw [e10, e9, e8, e7, e6, e5, e4, e3, e2, e1, e0]
      simp [wr, hj]
theorem cp_sw {X Y : XT} {n i : Nat} (hi : i ≤ n) (h : ∀ j, cpA Y j = if j = i then cpA X n else cpA X j) : (cpL X (n + 1)).Perm (cpA X i :: cpL Y n) := by
  have := sw_perm (cpA X) hi
  unfold cpL
  rw [show (List.range n).map (cpA Y) = (List.range n).map (fun j => if j = i then cpA X n else cpA X j) from List.map_congr_left (fun j _ => h j)]
  exact this
/-- the flags of a copy are flags -/
theorem sP_01 {X : XT} {v : Mu} (h : sP X v) {i : Nat} (hi : i < (flat v).length) : (X 29 i = 0 ∨ X 29 i = 1) ∧ (X 30 i = 0 ∨ X 30 i = 1) := by
  have h1 := h.2.mem_iff.mp (cpL_mem.mpr ⟨i, hi, rfl⟩)
  obtain ⟨k, -, r, -, he⟩ := flat_mem.mp h1
  have e1 : X 29 i = b2i (mPers (rM r)) := by
    have := congrArg (fun z : Cp => z.2.2.2.2.2.2.2.2.1) he
    have this : (mp k r).2.2.2.2.2.2.2.2.1 = X 29 i := this
    rw [← this]
    unfold mp
    split <;> rfl
  have e2 : X 30 i = b2i (rRet r) := by
    have := congrArg (fun z : Cp => z.2.2.2.2.2.2.2.2.2) he
    have this : (mp k r).2.2.2.2.2.2.2.2.2 = X 30 i := this
    rw [← this]
    unfold mp
    split <;> rfl
  rw [e1, e2]
  exact ⟨b2i_01 _, b2i_01 _⟩
/-- what is left when a copy of list k is taken out -/
theorem sP.er {X Y : XT} {v : Mu} {k j n i : Nat} (h : sP X v) (hk : isP k = true) (hj : j < (uC v k).length) (hn : (flat v).length = n + 1) (hi : i ≤ n) (he : cpA X i = mp k (uC v k)[j]) (h31 : Y 31 0 = nI n) (hs : ∀ j, cpA Y j = if j = i then cpA X n else cpA X j) : sP Y (upC v k ((uC v k).eraseIdx j)) := by
  have p1 := flat_er hk hj
  have hl : (flat (upC v k ((uC v k).eraseIdx j))).length = n := by
    have := p1.length_eq
    rw [List.length_cons, hn] at this
    omega
  unfold sP
  rw [hl]
  refine ⟨h31, ?_⟩
  have p2 := h.2
  rw [hn] at p2
  have p3 := (cp_sw hi hs).symm.trans p2
  rw [he] at p3
  exact (p3.trans p1.symm).cons_inv
