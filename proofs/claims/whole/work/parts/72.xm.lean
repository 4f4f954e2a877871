/-! THE REFERENCE'S NUMBERS. X k i: element i of the array in field k; X k 0: the number in field k. M: the arrays' addresses. -/
abbrev XT : Type := Nat → Nat → Int32
abbrev QT : Type := Option Value → XT → Prop
def wr (X : XT) (k i : Nat) (x : Int32) : XT := fun k' i' => if k' = k ∧ i' = i then x else X k' i'
theorem wr_s {X : XT} {k i : Nat} {x : Int32} : wr X k i x k i = x := if_pos ⟨rfl, rfl⟩
theorem wr_k {X : XT} {k i k' i' : Nat} {x : Int32} (h : k' ≠ k) : wr X k i x k' i' = X k' i' := if_neg (fun z => h z.1)
theorem wr_i {X : XT} {k i k' i' : Nat} {x : Int32} (h : i' ≠ i) : wr X k i x k' i' = X k' i' := if_neg (fun z => h z.2)
def xsz (k : Nat) : Nat := ([5, 6, 6, 5, 6, 24, 24, 24, 0, 25, 25, 25, 0, 4, 4, 4, 4, 16, 16, 16, 16, 400, 400, 400, 400, 400, 400, 400, 400, 400, 400, 0, 0, 450, 450, 450, 450, 450, 0, 0, 0, 81, 6] : List Nat).getD k 0
def xty (k : Nat) : Nat := ([104, 104, 104, 105, 105, 104, 104, 104, 0, 104, 104, 105, 0, 104, 104, 104, 105, 104, 104, 104, 104, 104, 104, 104, 104, 104, 104, 104, 104, 105, 105, 0, 0, 104, 104, 104, 104, 105, 0, 0, 0, 105, 105] : List Nat).getD k 0
def ar (n : Nat) (f : Nat → Int32) : List Value := (List.range n).map (fun i => .int (f i))
def xfl (M : Nat → Nat) (X : XT) : List Value := [.ref (M 0), .ref (M 1), .ref (M 2), .ref (M 3), .ref (M 4), .ref (M 5), .ref (M 6), .ref (M 7), .int (X 8 0), .ref (M 9), .ref (M 10), .ref (M 11), .int (X 12 0), .ref (M 13), .ref (M 14), .ref (M 15), .ref (M 16), .ref (M 17), .ref (M 18), .ref (M 19), .ref (M 20), .ref (M 21), .ref (M 22), .ref (M 23), .ref (M 24), .ref (M 25), .ref (M 26), .ref (M 27), .ref (M 28), .ref (M 29), .ref (M 30), .int (X 31 0), .int (X 32 0), .ref (M 33), .ref (M 34), .ref (M 35), .ref (M 36), .ref (M 37), .int (X 38 0), .int (X 39 0), .int (X 40 0), .ref (M 41), .ref (M 42)]
def RM (h : AH) (m : Nat) (M : Nat → Nat) (X : XT) : Prop := at_ h m 11 (xfl M X) ∧ (∀ k, ¬ xty k = 0 → at_ h (M k) (xty k) (ar (xsz k) (X k))) ∧ ∀ j k, ¬ xty j = 0 → ¬ xty k = 0 → M j = M k → j = k
/-- the reference writes its own only, and makes nothing -/
def KXm (h h' : AH) : Prop := h'.1 = h.1 ∧ h'.2.1 = h.2.1 ∧ h'.2.2.1 = h.2.2.1 ∧ ∀ b, (h'.2.2.2 b).1 = (h.2.2.2 b).1 ∧ ((h.2.2.2 b).1 ≠ 11 → (h.2.2.2 b).1 ≠ 104 → (h.2.2.2 b).1 ≠ 105 → h'.2.2.2 b = h.2.2.2 b)
theorem KXm.refl (h : AH) : KXm h h := ⟨rfl, rfl, rfl, fun _ => ⟨rfl, fun _ _ _ => rfl⟩⟩
theorem KXm.trans {h h' h'' : AH} (h1 : KXm h h') (h2 : KXm h' h'') : KXm h h'' := by
  obtain ⟨a1, a2, a3, a4⟩ := h1
  obtain ⟨b1, b2, b3, b4⟩ := h2
  refine ⟨b1.trans a1, b2.trans a2, b3.trans a3, fun b => ⟨(b4 b).1.trans (a4 b).1, fun z1 z2 z3 => ?_⟩⟩
  have e := (a4 b).1
  exact ((b4 b).2 (by rw [e]; exact z1) (by rw [e]; exact z2) (by rw [e]; exact z3)).trans ((a4 b).2 z1 z2 z3)
theorem KXm.w {h0 h h' : AH} {a t : Nat} {vs vs' : List Value} (hK : KXm h0 h) (ha : at_ h a t vs) (ht : t = 11 ∨ t = 104 ∨ t = 105) (e : h' = ah_set h a (t, vs')) : KXm h0 h' := by
  refine hK.trans ?_
  subst e
  refine ⟨rfl, rfl, rfl, fun b => ?_⟩
  unfold at_ at ha
  show (ah_up h.2.2.2 a (t, vs') b).1 = _ ∧ (_ → _ → _ → ah_up h.2.2.2 a (t, vs') b = _)
  unfold ah_up
  by_cases hb : b = a
  · subst hb
    rw [if_pos rfl, ha]
    exact ⟨rfl, fun z1 z2 z3 => by
      rcases ht with z | z | z
      · exact absurd z z1
      · exact absurd z z2
      · exact absurd z z3⟩
  · rw [if_neg hb]
    exact ⟨rfl, fun _ _ _ => rfl⟩
theorem KXm.wf {h0 h h' : AH} {a : Nat} {vs vs' : List Value} (hK : KXm h0 h) (ha : at_ h a 11 vs) (e : h' = ah_set h a (11, vs')) : KXm h0 h' := hK.w ha (Or.inl rfl) e
theorem KXm.wi {h0 h h' : AH} {a : Nat} {vs vs' : List Value} (hK : KXm h0 h) (ha : at_ h a 104 vs) (e : h' = ah_set h a (104, vs')) : KXm h0 h' := hK.w ha (Or.inr (Or.inl rfl)) e
theorem KXm.wb {h0 h h' : AH} {a : Nat} {vs vs' : List Value} (hK : KXm h0 h) (ha : at_ h a 105 vs) (e : h' = ah_set h a (105, vs')) : KXm h0 h' := hK.w ha (Or.inr (Or.inr rfl)) e
theorem KXm.at {h h' : AH} {b t : Nat} {vs : List Value} (hK : KXm h h') (hb : at_ h b t vs) (h1 : t ≠ 11) (h2 : t ≠ 104) (h3 : t ≠ 105) : at_ h' b t vs := by
  unfold at_ at hb ⊢
  have := (hK.2.2.2 b).2
  rw [hb] at this
  exact this h1 h2 h3
theorem KXm.fr {h h' : AH} (hK : KXm h h') (hf : Fr h) : Fr h' := fun b hb => by
  have h1 := hf b (by rw [← hK.1]; exact hb)
  have := (hK.2.2.2 b).2
  rw [h1] at this
  exact this (by decide) (by decide) (by decide)
theorem ar_len' {n i : Nat} {f : Nat → Int32} (h : i < n) : i < (ar n f).length := by
  unfold ar
  rw [List.length_map, List.length_range]
  exact h
theorem ar_get' {n i : Nat} {f : Nat → Int32} (h : i < n) : (ar n f)[i]? = some (.int (f i)) := by
  unfold ar
  rw [List.getElem?_map, List.getElem?_range h]
  rfl
theorem ar_len {k i : Nat} {f : Nat → Int32} (h : i < xsz k) : i < (ar (xsz k) f).length := ar_len' h
theorem ar_get {k i : Nat} {f : Nat → Int32} (h : i < xsz k) : (ar (xsz k) f)[i]? = some (.int (f i)) := ar_get' h
theorem ar_set {n i : Nat} {f g : Nat → Int32} {x : Int32} (h1 : g i = x) (h2 : ∀ j, j ≠ i → g j = f j) : (ar n f).set i (.int x) = ar n g := by
  apply List.ext_getElem?
  intro j
  rw [List.getElem?_set]
  have hl : (ar n f).length = n := by unfold ar; rw [List.length_map, List.length_range]
  by_cases hj : j < n
  · rw [ar_get' (f := g) hj]
    by_cases hi : i = j
    · subst hi
      rw [if_pos rfl, if_pos (by rw [hl]; exact hj), h1]
    · rw [if_neg hi, ar_get' (f := f) hj, h2 j (Ne.symm hi)]
  · rw [List.getElem?_eq_none (l := ar n g) (by unfold ar; rw [List.length_map, List.length_range]; omega)]
    by_cases hi : i = j
    · rw [if_pos hi, if_neg (by rw [hl]; omega)]
    · rw [if_neg hi, List.getElem?_eq_none (by rw [hl]; omega)]
theorem RM.i {h : AH} {m : Nat} {M : Nat → Nat} {X : XT} {k : Nat} (hR : RM h m M X) (hk : xty k = 104) : at_ h (M k) 104 (ar (xsz k) (X k)) := by
  have := hR.2.1 k (by rw [hk]; decide)
  rw [hk] at this
  exact this
theorem RM.b {h : AH} {m : Nat} {M : Nat → Nat} {X : XT} {k : Nat} (hR : RM h m M X) (hk : xty k = 105) : at_ h (M k) 105 (ar (xsz k) (X k)) := by
  have := hR.2.1 k (by rw [hk]; decide)
  rw [hk] at this
  exact this
theorem xty_c {k : Nat} (h : ¬ xty k = 0) : k ≠ 8 ∧ k ≠ 12 ∧ k ≠ 31 ∧ k ≠ 32 ∧ k ≠ 38 ∧ k ≠ 39 ∧ k ≠ 40 :=
  ⟨fun z => h (by rw [z]; rfl), fun z => h (by rw [z]; rfl), fun z => h (by rw [z]; rfl), fun z => h (by rw [z]; rfl), fun z => h (by rw [z]; rfl), fun z => h (by rw [z]; rfl), fun z => h (by rw [z]; rfl)⟩
theorem RM.wa {h h' : AH} {m : Nat} {M : Nat → Nat} {X : XT} {k i t : Nat} {x : Int32} (hR : RM h m M X) (hk : xty k = t) (ht : t = 104 ∨ t = 105) (e : h' = ah_set h (M k) (t, (ar (xsz k) (X k)).set i (.int x))) : RM h' m M (wr X k i x) := by
  obtain ⟨h1, h2, h3⟩ := hR
  have hk0 : ¬ xty k = 0 := by rw [hk]; omega
  have h2k := h2 k hk0
  subst e
  obtain ⟨c1, c2, c3, c4, c5, c6, c7⟩ := xty_c hk0
  refine ⟨?_, fun j hj => ?_, h3⟩
  · have e : xfl M (wr X k i x) = xfl M X := by
      unfold xfl
      rw [wr_k (Ne.symm c1), wr_k (Ne.symm c2), wr_k (Ne.symm c3), wr_k (Ne.symm c4), wr_k (Ne.symm c5), wr_k (Ne.symm c6), wr_k (Ne.symm c7)]
    rw [e]
    exact at_n h1 (at_ne h1 h2k (by rw [hk]; omega))
  · by_cases hj2 : j = k
    · subst hj2
      rw [hk, ar_set (g := wr X j i x j) wr_s (fun l hl => wr_i hl)]
      exact at_s
    · have : wr X k i x j = X j := funext (fun l => wr_k hj2)
      rw [this]
      exact at_n (h2 j hj) (fun z => hj2 (h3 j k hj hk0 z))
theorem RM.wi {h h' : AH} {m : Nat} {M : Nat → Nat} {X : XT} {k i : Nat} {x : Int32} (hR : RM h m M X) (hk : xty k = 104) (e : h' = ah_set h (M k) (104, (ar (xsz k) (X k)).set i (.int x))) : RM h' m M (wr X k i x) := hR.wa hk (Or.inl rfl) e
theorem RM.wb {h h' : AH} {m : Nat} {M : Nat → Nat} {X : XT} {k i : Nat} {x : Int32} (hR : RM h m M X) (hk : xty k = 105) (e : h' = ah_set h (M k) (105, (ar (xsz k) (X k)).set i (.int x))) : RM h' m M (wr X k i x) := hR.wa hk (Or.inr rfl) e
theorem xty_v (k : Nat) : xty k = 0 ∨ xty k = 104 ∨ xty k = 105 := by
  by_cases hk : k < 43
  · have : ∀ i : Fin 43, xty i.1 = 0 ∨ xty i.1 = 104 ∨ xty i.1 = 105 := by decide
    exact this ⟨k, hk⟩
  · refine Or.inl ?_
    unfold xty
    rw [List.getD_eq_getElem?_getD, List.getElem?_eq_none (by show 43 ≤ k; omega)]
    rfl
theorem RM.wf {h h' : AH} {m : Nat} {M : Nat → Nat} {X : XT} {k : Nat} {x : Int32} {vs : List Value} (hR : RM h m M X) (hk : xty k = 0) (hv : vs = xfl M (wr X k 0 x)) (e : h' = ah_set h m (11, vs)) : RM h' m M (wr X k 0 x) := by
  obtain ⟨h1, h2, h3⟩ := hR
  subst e
  refine ⟨by rw [hv]; exact at_s, fun j hj => ?_, h3⟩
  have hjk : j ≠ k := fun z => hj (by rw [z]; exact hk)
  have : wr X k 0 x j = X j := funext (fun l => wr_k hjk)
  rw [this]
  refine at_n (h2 j hj) (at_ne (h2 j hj) h1 ?_)
  intro z
  rcases xty_v j with w | w | w <;> rw [w] at z <;> omega
theorem RM.wf8 {h h' : AH} {m : Nat} {M : Nat → Nat} {X : XT} {x : Int32} (hR : RM h m M X) (e : h' = ah_set h m (11, (xfl M X).set 8 (.int x))) : RM h' m M (wr X 8 0 x) := hR.wf (k := 8) rfl rfl e
theorem RM.wf12 {h h' : AH} {m : Nat} {M : Nat → Nat} {X : XT} {x : Int32} (hR : RM h m M X) (e : h' = ah_set h m (11, (xfl M X).set 12 (.int x))) : RM h' m M (wr X 12 0 x) := hR.wf (k := 12) rfl rfl e
theorem RM.wf31 {h h' : AH} {m : Nat} {M : Nat → Nat} {X : XT} {x : Int32} (hR : RM h m M X) (e : h' = ah_set h m (11, (xfl M X).set 31 (.int x))) : RM h' m M (wr X 31 0 x) := hR.wf (k := 31) rfl rfl e
theorem RM.wf32 {h h' : AH} {m : Nat} {M : Nat → Nat} {X : XT} {x : Int32} (hR : RM h m M X) (e : h' = ah_set h m (11, (xfl M X).set 32 (.int x))) : RM h' m M (wr X 32 0 x) := hR.wf (k := 32) rfl rfl e
theorem RM.wf38 {h h' : AH} {m : Nat} {M : Nat → Nat} {X : XT} {x : Int32} (hR : RM h m M X) (e : h' = ah_set h m (11, (xfl M X).set 38 (.int x))) : RM h' m M (wr X 38 0 x) := hR.wf (k := 38) rfl rfl e
theorem RM.wf39 {h h' : AH} {m : Nat} {M : Nat → Nat} {X : XT} {x : Int32} (hR : RM h m M X) (e : h' = ah_set h m (11, (xfl M X).set 39 (.int x))) : RM h' m M (wr X 39 0 x) := hR.wf (k := 39) rfl rfl e
theorem RM.wf40 {h h' : AH} {m : Nat} {M : Nat → Nat} {X : XT} {x : Int32} (hR : RM h m M X) (e : h' = ah_set h m (11, (xfl M X).set 40 (.int x))) : RM h' m M (wr X 40 0 x) := hR.wf (k := 40) rfl rfl e
abbrev lq (m : Nat) (M : Nat → Nat) (h0 : AH) (q : QT) : PT := fun r h' => ∃ X : XT, RM h' m M X ∧ KXm h0 h' ∧ q r X
theorem lq_in {m : Nat} {M : Nat → Nat} {h0 h : AH} {q : QT} {r : Option Value} {X : XT} (hR : RM h m M X) (hK : KXm h0 h) (hq : q r X) : lq m M h0 q r h := ⟨X, hR, hK, hq⟩
def TM (gc : Nat → Nat) (m : Nat) (M : Nat → Nat) (d j : Nat) (q : QT) (pc : Nat) (L S : List Value) (X : XT) : Prop := ∀ h0 h : AH, RM h m M X → KXm h0 h → TT gc d j (lq m M h0 q) pc L S h
def WM (gc : Nat → Nat) (m : Nat) (M : Nat → Nat) (d j : Nat) (as : List Value) (X : XT) (q : QT) : Prop := ∀ h : AH, RM h m M X → WP gc d j as h (lq m M h q)
theorem WM_post {gc : Nat → Nat} {m : Nat} {M : Nat → Nat} {d j : Nat} {as : List Value} {X : XT} {q q' : QT} (hw : WM gc m M d j as X q) (hq : ∀ r X', q r X' → q' r X') : WM gc m M d j as X q' := fun h hR => WP_post (hw h hR) (fun r h' ⟨X', a1, a2, a3⟩ => ⟨X', a1, a2, hq r X' a3⟩)
