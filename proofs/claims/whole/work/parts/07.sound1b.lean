/-! locals -/
def prs1 (i : Nat) : Option Value → Option (Nat × Value)
  | some (.retAddr _) => none
  | some v => some (i, v)
  | none => none
def prs (L : List Value) : List (Nat × Value) := (List.range L.length).filterMap (fun i => prs1 i L[i]?)
def noRA (v : Value) : Prop := ∀ n, v ≠ .retAddr n
theorem mem_prs {L : List Value} {i : Nat} {v : Value} : (i, v) ∈ prs L ↔ L[i]? = some v ∧ noRA v := by
  unfold prs
  rw [List.mem_filterMap]
  constructor
  · rintro ⟨j, hj, h⟩
    cases hL : L[j]? with
    | none => rw [hL] at h; cases h
    | some w =>
      rw [hL] at h
      cases w <;> first | (cases h; done) | (simp only [prs1, Option.some.injEq, Prod.mk.injEq] at h; obtain ⟨rfl, rfl⟩ := h; exact ⟨hL, fun n z => by cases z⟩)
  · rintro ⟨h1, h2⟩
    refine ⟨i, List.mem_range.mpr (List.getElem?_eq_some_iff.mp h1).1, ?_⟩
    rw [h1]
    cases v <;> first | rfl | exact absurd rfl (h2 _)
def lvl (ls : Array Slot) (L : List Value) : Prop := lv_has ls L.length (prs L) ∧ ∀ v ∈ L, v.category = 1
theorem lvl_at {ls : Array Slot} {L : List Value} {i : Nat} {v : Value} (h : lvl ls L) (hv : L[i]? = some v) (hn : noRA v) : ls[i]? = some (.val v) := h.1.2.2 (i, v) (mem_prs.mpr ⟨hv, hn⟩)
theorem lvl_set {ls : Array Slot} {L : List Value} {x : Nat} {v : Value} (h : lv_has ls L.length ((x, v) :: (prs L).filter (fun q => !(q.1 == x) && !(q.1 + 1 == x && q.2.category == 2)))) (hc : ∀ w ∈ L, w.category = 1) (hv : v.category = 1) (hx : x < L.length) : lvl ls (L.set x v) := by
  refine ⟨⟨by rw [List.length_set]; exact h.1, h.2.1, fun q hq => ?_⟩, fun w hw => ?_⟩
  · obtain ⟨j, w⟩ := q
    obtain ⟨h1, h2⟩ := mem_prs.mp hq
    by_cases e : j = x
    · subst e
      rw [List.getElem?_set_self hx] at h1
      cases h1
      exact h.2.2 _ List.mem_cons_self
    · rw [List.getElem?_set_ne (Ne.symm e)] at h1
      refine h.2.2 (j, w) (List.mem_cons_of_mem _ (List.mem_filter.mpr ⟨mem_prs.mpr ⟨h1, h2⟩, ?_⟩))
      have := hc w (List.mem_of_getElem? h1)
      simp [e, this]
  · rcases List.mem_or_eq_of_mem_set hw with g | g
    · exact hc w g
    · rw [g]; exact hv
/-! the heap by the picture -/
theorem gfk_elim {kd : Nat} {h : AH} {a t k : Nat} {nx : Value → Prop} (g : gfk kd h a t k nx) : ∃ (vs : List Value) (v : Value), at_ h a t vs ∧ vs[k]? = some v ∧ nx v := by
  match kd, g with
  | 0, ⟨vs, x, h1, h2, h3⟩ => exact ⟨vs, _, h1, h2, h3⟩
  | 1, ⟨vs, x, h1, h2, h3⟩ => exact ⟨vs, _, h1, h2, h3⟩
  | 2, Or.inl ⟨vs, h1, h2, h3⟩ => exact ⟨vs, _, h1, h2, h3⟩
  | 2, Or.inr ⟨vs, x, h1, h2, h3⟩ => exact ⟨vs, _, h1, h2, h3⟩
theorem ce_obj {D : va_G} {tys : List (ClassId × FieldType)} {H0 H : Heap} {LC LS : Nat} {h : AH} {a t : Nat} {vs : List Value} (hR : Rl D vwc tys H0 LC LS h H) (ha : at_ h a t vs) (h1 : 1 ≤ t) (h2 : t < 100) :
    H0.size ≤ a ∧ a < h.1 ∧ ∃ r : vw_C, vwc[t - 1]? = some r ∧ vs.length = r.2.2 ∧ t_OB a (D.1 (t - 1)) r.2.2 (D.2 (t - 1)) H (vp_V vs) := by
  obtain ⟨-, -, -, -, -, h6⟩ := hR
  have h7 := h6 a (by rw [show h.2.2.2 a = (t, vs) from ha]; show t ≠ 0; omega)
  rw [show h.2.2.2 a = (t, vs) from ha] at h7
  obtain ⟨⟨g1, g2⟩, g3⟩ := h7
  refine ⟨?_, g1, ?_⟩
  · apply Nat.le_of_not_lt
    intro z
    rcases g2 z with g | g
    · have : (200 : Nat) ≤ t := g
      omega
    · have : 100 ≤ t := g.1
      omega
  · unfold ce_at at g3
    rw [if_pos (show t < 100 from h2)] at g3
    exact g3
theorem ce_arr {D : va_G} {tys : List (ClassId × FieldType)} {H0 H : Heap} {LC LS : Nat} {h : AH} {a t : Nat} {vs : List Value} (hR : Rl D vwc tys H0 LC LS h H) (ha : at_ h a t vs) (h1 : 100 ≤ t) (h2 : t < 200) :
    (vs ≠ [] → H0.size ≤ a) ∧ a < h.1 ∧ ∃ q : ClassId × FieldType, tys[t - 100]? = some q ∧ H[a]? = some (arrV q.1 vs.length (vp_V vs)) := by
  obtain ⟨-, -, -, -, -, h6⟩ := hR
  have h7 := h6 a (by rw [show h.2.2.2 a = (t, vs) from ha]; show t ≠ 0; omega)
  rw [show h.2.2.2 a = (t, vs) from ha] at h7
  obtain ⟨⟨g1, g2⟩, g3⟩ := h7
  refine ⟨fun hne => ?_, g1, ?_⟩
  · apply Nat.le_of_not_lt
    intro z
    rcases g2 z with g | g
    · have : (200 : Nat) ≤ t := g
      omega
    · exact hne g.2
  · unfold ce_at at g3
    rw [if_neg (show ¬ t < 100 by omega), if_pos (show t < 200 from h2)] at g3
    exact g3
theorem aks_at {tys : List (ClassId × FieldType)} (h : tys.map (fun q => q.2) = aks) {j : Nat} {q : ClassId × FieldType} (hq : tys[j]? = some q) : aks[j]? = some q.2 := by
  rw [← h, List.getElem?_map, hq]
  rfl
