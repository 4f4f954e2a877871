/-! the reference: bindings -/
def oI : Option Nat → Int32
  | none => -1
  | some i => nI i
def pB (k : Nat) : Bool := decide (5 ≤ k) && decide (k ≤ 8)
theorem pB_f {k : Nat} (h : ¬ (5 ≤ k ∧ k ≤ 8)) : pB k = false := by
  unfold pB
  rw [← Bool.decide_and]
  exact decide_eq_false h
theorem SX.bI {k : Nat} {X Y : XT} {s : St} {l : List Bnd} (h : SX k X s) (ha : Ag pB X Y) (hb : sB Y (upB s.2 0 l)) : SX k Y (s.1, upB s.2 0 l) := by
  obtain ⟨h1, h2, h3, h4, h5, h6, h7, h8, h9, h10⟩ := h
  refine ⟨h1.ag ha rfl rfl, h2.ag ha rfl rfl rfl, hb, h4.ag ha rfl rfl rfl rfl, h5.ag ha (fun k _ _ => pB_f (by omega)), ?_, ?_, h8.ag ha (fun k _ _ => pB_f (by omega)), ?_, ?_⟩
  · have := h6.ag ha (fun k _ _ => pB_f (by omega))
    unfold sP at this ⊢
    rw [show flat (s.1, upB s.2 0 l).2 = flat s.2 from flat_cg (fun _ _ => rfl)]
    exact this
  · rw [ha 32 rfl]; exact h7
  · rw [ha 39 rfl]; exact h9
  · rw [ha 40 rfl]; exact h10
theorem bd_loop {gc : Nat → Nat} {m : Nat} {M : Nat → Nat} {d : Nat} {X : XT} {q : QT} {x1 x2 x3 : Int32} {n : Nat} (hn : X 8 0 = nI n) (hn2 : n ≤ 24) : ∀ l i, i + l = n → q (some (.int (oI (fF (fun i => bEq x1 x2 x3 (bnA X i)) l i)))) X → TM gc m M d 103 q 3 [.ref m, .int x1, .int x2, .int x3, .int (nI i)] [] X := by
  intro l
  induction l with
  | zero =>
    intro i hi hq
    refine N103_3 ⟨fun _ => N103_54 hq, fun z => absurd (by rw [hn]; exact nI_le (by omega) (by omega)) z⟩
  | succ l ih =>
    intro i hi hq
    have hcl : (nI i).toNatClampNeg = i := nI_clamp (by omega)
    have hu : fF (fun i => bEq x1 x2 x3 (bnA X i)) (l + 1) i = if bEq x1 x2 x3 (bnA X i) then some i else fF (fun i => bEq x1 x2 x3 (bnA X i)) l (i + 1) := rfl
    have no : bEq x1 x2 x3 (bnA X i) = false → TM gc m M d 103 q 48 [.ref m, .int x1, .int x2, .int x3, .int (nI i)] [] X := fun hb => by
      rw [hu, hb, if_neg (by decide)] at hq
      refine N103_48 ?_
      rw [nI_1]
      exact ih (i + 1) (by omega) hq
    refine N103_3 ⟨fun z => absurd z (by rw [hn]; exact nI_ge (by omega) (by omega)), fun _ => ⟨nI_pos (by omega), by omega, ?_⟩⟩
    rw [hcl]
    refine ⟨fun z => no (decide_eq_false (fun w => z w.1)), fun z => ⟨nI_pos (by omega), by omega, fun z2 => no (decide_eq_false (fun w => z2 w.2.1)), fun z2 => ⟨nI_pos (by omega), by omega, fun z3 => no (decide_eq_false (fun w => z3 w.2.2)), fun z3 => ?_⟩⟩⟩
    rw [hu, show bEq x1 x2 x3 (bnA X i) = true from decide_eq_true ⟨z, z2, z3⟩, if_pos rfl] at hq
    exact hq
theorem n_binding {gc : Nat → Nat} {m : Nat} {M : Nat → Nat} {d : Nat} {X : XT} {x1 x2 x3 : Int32} {n : Nat} (hn : X 8 0 = nI n) (hn2 : n ≤ 24) : WM gc m M (d + 1) 103 [.ref m, .int x1, .int x2, .int x3] X (fun r X' => r = some (.int (oI (fF (fun i => bEq x1 x2 x3 (bnA X i)) n 0))) ∧ X' = X) := N103 (bd_loop hn hn2 n 0 (by omega) ⟨rfl, rfl⟩)
theorem bn_mem {X : XT} {n : Nat} {x : Bnd} : x ∈ bnL X n ↔ ∃ i, i < n ∧ bnA X i = x := by
  unfold bnL
  rw [List.mem_map]
  exact ⟨fun ⟨i, h1, h2⟩ => ⟨i, List.mem_range.mp h1, h2⟩, fun ⟨i, h1, h2⟩ => ⟨i, List.mem_range.mpr h1, h2⟩⟩
theorem ix_lt {α : Type} {p : α → Bool} : ∀ {l : List α}, (∃ x, x ∈ l ∧ p x = true) → ix p l < l.length := by
  intro l
  induction l with
  | nil => rintro ⟨x, hx, -⟩; cases hx
  | cons y l ih =>
    rintro ⟨x, hx, hp⟩
    unfold ix
    split
    · exact Nat.succ_pos _
    · rename_i hy
      rcases List.mem_cons.mp hx with rfl | hx
      · exact absurd hp hy
      · exact Nat.succ_lt_succ (ih ⟨x, hx, hp⟩)
/-- what is found in one is found in the other -/
theorem bn_find {X : XT} {n : Nat} {l : List Bnd} {p : Bnd → Bool} (h : (bnL X n).Perm l) : (fF (fun i => p (bnA X i)) n 0 = none ∧ ¬ ix p l < l.length) ∨ ∃ i, fF (fun i => p (bnA X i)) n 0 = some i ∧ i < n ∧ p (bnA X i) = true ∧ ix p l < l.length := by
  cases hf : fF (fun i => p (bnA X i)) n 0 with
  | none =>
    refine Or.inl ⟨rfl, fun hl => ?_⟩
    have hg := List.getElem?_eq_getElem hl
    obtain ⟨w1, w2⟩ := ix_get hg
    obtain ⟨i, hi, he⟩ := bn_mem.mp (h.mem_iff.mpr w2)
    have := fF_none n 0 hf i (Nat.zero_le _) (by omega)
    rw [he, w1] at this
    cases this
  | some i =>
    obtain ⟨h1, h2, h3, h4⟩ := fF_some n 0 i hf
    exact Or.inr ⟨i, rfl, by omega, h3, ix_lt ⟨bnA X i, h.mem_iff.mp (bn_mem.mpr ⟨i, by omega, rfl⟩), h3⟩⟩
theorem bn_cg {X Y : XT} {n : Nat} (h : ∀ i, i < n → bnA Y i = bnA X i) : bnL Y n = bnL X n := List.map_congr_left (fun i hi => h i (List.mem_range.mp hi))
theorem n_bind {gc : Nat → Nat} {m : Nat} {M : Nat → Nat} {d : Nat} {X : XT} {s : St} {P T : Nat} {x1 x2 x3 : Int32} (h : SX 0 X s) (hv : IV P T s) : WM gc m M (d + 4) 98 [.ref m, .int x1, .int x2, .int x3] X (fun r X' => r = some (.int (opBd s.1 s.2 x1 x2 x3).1) ∧ SX 0 X' (s.1, (opBd s.1 s.2 x1 x2 x3).2)) := by
  have hb := hv.1.2.2.2.2.2.2.1
  obtain ⟨hb1, hb2⟩ := h.2.2.1
  have hn := hb.1
  have bad : (isEx s.1 x1 && isQu s.1 x2 && isPat x3) = false → TM gc m M (d + 3) 98 (fun r X' => r = some (.int (opBd s.1 s.2 x1 x2 x3).1) ∧ SX 0 X' (s.1, (opBd s.1 s.2 x1 x2 x3).2)) 23 [.ref m, .int x1, .int x2, .int x3] [] X := fun hb => by
    have ho : opBd s.1 s.2 x1 x2 x3 = (-1, s.2) := by
      unfold opBd
      rw [hb]
      rfl
    rw [ho]
    exact N98_23 ⟨rfl, h⟩
  refine N98 ⟨_, n_isE h.1 hv.1.2.1, ?_⟩
  rintro r X3 ⟨rfl, rfl⟩
  refine ⟨_, rfl, fun z => bad (by rw [show isEx s.1 x1 = false from b2i_z.mp z]; rfl), fun z => ⟨_, n_isQ h.2.1 hv.1.1, ?_⟩⟩
  rintro r X4 ⟨rfl, rfl⟩
  refine ⟨_, rfl, fun z2 => bad (by rw [show isQu s.1 x2 = false from b2i_z.mp z2, Bool.and_false, Bool.false_and]), fun z2 => ⟨_, n_isPattern, ?_⟩⟩
  rintro r X5 ⟨rfl, rfl⟩
  refine ⟨_, rfl, fun z3 => N98_25 ⟨_, n_binding hb1 hn, ?_⟩, fun z3 => bad (by rw [show isPat x3 = false from b2i_z.mp z3, Bool.and_false])⟩
  rintro r X6 ⟨rfl, rfl⟩
  have ho : opBd s.1 s.2 x1 x2 x3 = if ix (bEq x1 x2 x3) (uB s.2 0) < (uB s.2 0).length then (-3, s.2) else if (uB s.2 0).length < 24 then (0, upB s.2 0 (uB s.2 0 ++ [(x1, x2, x3)])) else (-2, s.2) := by
    unfold opBd
    rw [show isEx s.1 x1 = true from b2i_nz z, show isQu s.1 x2 = true from b2i_nz z2, show isPat x3 = true from b2i_nz z3]
    rfl
  rw [ho]
  refine ⟨_, rfl, fun w => N98_38 ?_, fun w => ?_⟩
  · rcases bn_find (p := bEq x1 x2 x3) hb2 with ⟨f1, f2⟩ | ⟨i, f1, f2, f3, f4⟩
    · rw [if_neg f2, hb1]
      refine ⟨fun y => N98_50 ?_, fun y => ?_⟩
      · have hl : (uB s.2 0).length < 24 := by
          apply Nat.lt_of_le_of_ne hn
          intro y2
          exact y (by rw [y2]; rfl)
        have hcl : (nI (uB s.2 0).length).toNatClampNeg = (uB s.2 0).length := nI_clamp (by omega)
        rw [if_pos hl, hb1, hcl]
        refine ⟨nI_pos (by omega), hl, fun Y1 e1 => ?_⟩
        have q1 : Y1 8 0 = nI (uB s.2 0).length := by rw [e1, wr_k (by decide)]; exact hb1
        rw [q1, hcl]
        refine ⟨nI_pos (by omega), hl, fun Y2 e2 => ?_⟩
        have q2 : Y2 8 0 = nI (uB s.2 0).length := by rw [e2, wr_k (by decide)]; exact q1
        rw [q2, hcl]
        refine ⟨nI_pos (by omega), hl, fun Y3 e3 Y4 e4 => ⟨rfl, ?_⟩⟩
        have q3 : Y3 8 0 = nI (uB s.2 0).length := by rw [e3, wr_k (by decide)]; exact q2
        rw [q3, nI_1] at e4
        subst e4 e3 e2 e1
        refine h.bI (((((Ag.refl _ _).wr rfl).wr rfl).wr rfl).wr rfl) ?_
        unfold sB
        rw [uB_s, List.length_append, List.length_singleton]
        refine ⟨wr_s, ?_⟩
        unfold bnL
        rw [List.range_succ, List.map_append]
        have e5 : bnA (wr (wr (wr (wr X6 5 (uB s.2 0).length x1) 6 (uB s.2 0).length x2) 7 (uB s.2 0).length x3) 8 0 (nI ((uB s.2 0).length + 1))) (uB s.2 0).length = (x1, x2, x3) := by
          unfold bnA
          rw [wr_k (by decide), wr_k (by decide), wr_k (by decide), wr_s, wr_k (by decide), wr_k (by decide), wr_s, wr_k (by decide), wr_s]
        show (bnL _ (uB s.2 0).length ++ [bnA _ (uB s.2 0).length]).Perm _
        rw [e5, bn_cg (X := X6) (fun i hi => by
          unfold bnA
          have : i ≠ (uB s.2 0).length := by omega
          rw [wr_k (by decide), wr_i this, wr_i this, wr_i this, wr_k (by decide), wr_i this, wr_i this, wr_i this, wr_k (by decide), wr_i this, wr_i this, wr_i this])]
        exact hb2.append_right _
      · have : (uB s.2 0).length = 24 := (nI_eq (by omega) (by decide)).mp y
        rw [if_neg (by omega)]
        exact ⟨rfl, h⟩
    · rw [f1] at w
      exact absurd w (nI_pos (by omega))
  · rcases bn_find (p := bEq x1 x2 x3) hb2 with ⟨f1, f2⟩ | ⟨i, f1, f2, f3, f4⟩
    · rw [f1] at w
      exact absurd (by decide : (-1 : Int32) < 0) w
    · rw [if_pos f4]
      exact ⟨rfl, h⟩
theorem n_unbindAt {gc : Nat → Nat} {m : Nat} {M : Nat → Nat} {d : Nat} {X : XT} {n i : Nat} (hn : X 8 0 = nI (n + 1)) (hn2 : n < 24) (hi : i ≤ n) : WM gc m M (d + 1) 105 [.ref m, .int (nI i)] X (fun r X' => r = none ∧ Ag pB X X' ∧ X' 8 0 = nI n ∧ ∀ j, bnA X' j = if j = i then bnA X n else bnA X j) := by
  have hcl : (nI i).toNatClampNeg = i := nI_clamp (by omega)
  have hcn : (nI n).toNatClampNeg = n := nI_clamp (by omega)
  refine N105 (fun Y0 e0 => ?_)
  have q0 : Y0 8 0 = nI n := by rw [e0, wr_s, hn, nI_pred]
  rw [q0, hcl, hcn]
  refine ⟨nI_pos (by omega), hn2, nI_pos (by omega), by omega, fun Y1 e1 => ?_⟩
  have q1 : Y1 8 0 = nI n := by rw [e1, wr_k (by decide)]; exact q0
  rw [q1, hcn]
  refine ⟨nI_pos (by omega), hn2, nI_pos (by omega), by omega, fun Y2 e2 => ?_⟩
  have q2 : Y2 8 0 = nI n := by rw [e2, wr_k (by decide)]; exact q1
  rw [q2, hcn]
  refine ⟨nI_pos (by omega), hn2, nI_pos (by omega), by omega, fun Y3 e3 => ⟨rfl, ?_, ?_, fun j => ?_⟩⟩
  · rw [e3, e2, e1, e0]
    exact ((((Ag.refl _ _).wr rfl).wr rfl).wr rfl).wr rfl
  · rw [e3, wr_k (by decide)]; exact q2
  · have g5 : ∀ j, Y0 5 j = X 5 j ∧ Y0 6 j = X 6 j ∧ Y0 7 j = X 7 j := fun j => by rw [e0, wr_k (by decide), wr_k (by decide), wr_k (by decide)]; exact ⟨rfl, rfl, rfl⟩
    have h5 : ∀ j, Y3 5 j = if j = i then X 5 n else X 5 j := fun j => by
      rw [e3, wr_k (by decide), e2, wr_k (by decide), e1]
      by_cases hj : j = i
      · subst hj; rw [wr_s, if_pos rfl, (g5 n).1]
      · rw [wr_i hj, if_neg hj, (g5 j).1]
    have h6 : ∀ j, Y3 6 j = if j = i then X 6 n else X 6 j := fun j => by
      rw [e3, wr_k (by decide), e2]
      by_cases hj : j = i
      · subst hj; rw [wr_s, if_pos rfl, e1, wr_k (by decide), (g5 n).2.1]
      · rw [wr_i hj, if_neg hj, e1, wr_k (by decide), (g5 j).2.1]
    have h7 : ∀ j, Y3 7 j = if j = i then X 7 n else X 7 j := fun j => by
      rw [e3]
      by_cases hj : j = i
      · subst hj; rw [wr_s, if_pos rfl, e2, wr_k (by decide), e1, wr_k (by decide), (g5 n).2.2]
      · rw [wr_i hj, if_neg hj, e2, wr_k (by decide), e1, wr_k (by decide), (g5 j).2.2]
    unfold bnA
    rw [h5, h6, h7]
    by_cases hj : j = i
    · rw [if_pos hj, if_pos hj, if_pos hj, if_pos hj]
    · rw [if_neg hj, if_neg hj, if_neg hj, if_neg hj]
theorem bn_sw {X Y : XT} {n i : Nat} (hi : i ≤ n) (h : ∀ j, bnA Y j = if j = i then bnA X n else bnA X j) : (bnL X (n + 1)).Perm (bnA X i :: bnL Y n) := by
  have := sw_perm (bnA X) hi
  unfold bnL
  rw [show (List.range n).map (bnA Y) = (List.range n).map (fun j => if j = i then bnA X n else bnA X j) from List.map_congr_left (fun j _ => h j)]
  exact this
theorem bEq_eq {x1 x2 x3 : Int32} {b : Bnd} (h : bEq x1 x2 x3 b = true) : b = (x1, x2, x3) := by
  obtain ⟨h1, h2, h3⟩ := of_decide_eq_true h
  obtain ⟨b1, b2, b3⟩ := b
  dsimp only at h1 h2 h3
  rw [h1, h2, h3]
theorem n_unbind {gc : Nat → Nat} {m : Nat} {M : Nat → Nat} {d : Nat} {X : XT} {s : St} {P T : Nat} {x1 x2 x3 : Int32} (h : SX 0 X s) (hv : IV P T s) : WM gc m M (d + 4) 104 [.ref m, .int x1, .int x2, .int x3] X (fun r X' => r = some (.int (opUb s.1 s.2 x1 x2 x3).1) ∧ SX 0 X' (s.1, (opUb s.1 s.2 x1 x2 x3).2)) := by
  have hb := hv.1.2.2.2.2.2.2.1
  obtain ⟨hb1, hb2⟩ := h.2.2.1
  have hn := hb.1
  have bad : (isEx s.1 x1 && isQu s.1 x2 && isPat x3) = false → TM gc m M (d + 3) 104 (fun r X' => r = some (.int (opUb s.1 s.2 x1 x2 x3).1) ∧ SX 0 X' (s.1, (opUb s.1 s.2 x1 x2 x3).2)) 23 [.ref m, .int x1, .int x2, .int x3, .retAddr 0] [] X := fun hb => by
    have ho : opUb s.1 s.2 x1 x2 x3 = (-1, s.2) := by
      unfold opUb
      rw [hb]
      rfl
    rw [ho]
    exact N104_23 ⟨rfl, h⟩
  refine N104 ⟨_, n_isE h.1 hv.1.2.1, ?_⟩
  rintro r X3 ⟨rfl, rfl⟩
  refine ⟨_, rfl, fun z => bad (by rw [show isEx s.1 x1 = false from b2i_z.mp z]; rfl), fun z => ⟨_, n_isQ h.2.1 hv.1.1, ?_⟩⟩
  rintro r X4 ⟨rfl, rfl⟩
  refine ⟨_, rfl, fun z2 => bad (by rw [show isQu s.1 x2 = false from b2i_z.mp z2, Bool.and_false, Bool.false_and]), fun z2 => ⟨_, n_isPattern, ?_⟩⟩
  rintro r X5 ⟨rfl, rfl⟩
  refine ⟨_, rfl, fun z3 => N104_25 ⟨_, n_binding hb1 hn, ?_⟩, fun z3 => bad (by rw [show isPat x3 = false from b2i_z.mp z3, Bool.and_false])⟩
  rintro r X6 ⟨rfl, rfl⟩
  have ho : opUb s.1 s.2 x1 x2 x3 = if ix (bEq x1 x2 x3) (uB s.2 0) < (uB s.2 0).length then (0, upB s.2 0 ((uB s.2 0).eraseIdx (ix (bEq x1 x2 x3) (uB s.2 0)))) else (-3, s.2) := by
    unfold opUb
    rw [show isEx s.1 x1 = true from b2i_nz z, show isQu s.1 x2 = true from b2i_nz z2, show isPat x3 = true from b2i_nz z3]
    rfl
  rw [ho]
  refine ⟨_, rfl, fun w => ?_, fun w => ?_⟩
  · rcases bn_find (p := bEq x1 x2 x3) hb2 with ⟨f1, f2⟩ | ⟨i, f1, f2, f3, f4⟩
    · rw [f1] at w
      exact absurd w (by decide)
    · rw [if_pos f4, f1]
      obtain ⟨n, hnn⟩ : ∃ n, (uB s.2 0).length = n + 1 := ⟨(uB s.2 0).length - 1, by omega⟩
      rw [hnn] at hb1 hb2 f2
      refine N104_42 ⟨_, n_unbindAt hb1 (by omega) (by omega), ?_⟩
      rintro r X7 ⟨rfl, g1, g2, g3⟩
      refine ⟨rfl, rfl, h.bI g1 ?_⟩
      unfold sB
      rw [uB_s, List.length_eraseIdx_of_lt f4, hnn, Nat.add_sub_cancel]
      refine ⟨g2, ?_⟩
      have p1 := (bn_sw (by omega) g3).symm.trans hb2
      have hg := List.getElem?_eq_getElem f4
      obtain ⟨w1, -⟩ := ix_get hg
      have p2 := er_perm f4
      rw [bEq_eq w1] at p2
      rw [bEq_eq f3] at p1
      exact (p1.trans p2.symm).cons_inv
  · rcases bn_find (p := bEq x1 x2 x3) hb2 with ⟨f1, f2⟩ | ⟨i, f1, f2, f3, f4⟩
    · rw [if_neg f2]
      exact ⟨rfl, h⟩
    · rw [f1] at w
      exact absurd (nI_le (a := 0) (by omega) (by omega)) w
