/-! THE WHOLE HEAP AS ONE PICTURE. h : AH = (top, cells left, slots left, what lies at each address): (0, _) nothing; (t, fields) with 0 < t < 100 an object of class number t - 1; (100 + j, contents) an array of kind j; (200, contents) the law's script; (201, []) the JDK's array of no places. What was there before the law (H0) is never written. -/
abbrev AH : Type := Nat × Nat × Nat × (Nat → Nat × List Value)
def ah_up (f : Nat → Nat × List Value) (a : Nat) (e : Nat × List Value) : Nat → Nat × List Value := fun b => if b = a then e else f b
def ah_set (h : AH) (a : Nat) (e : Nat × List Value) : AH := (h.1, h.2.1, h.2.2.1, ah_up h.2.2.2 a e)
def ah_new (h : AH) (e : Nat × List Value) : AH := (h.1 + 1, h.2.1 - 1, h.2.2.1 - e.2.length, ah_up h.2.2.2 h.1 e)
/-- what lies at a -/
def at_ (h : AH) (a t : Nat) (vs : List Value) : Prop := h.2.2.2 a = (t, vs)
def sl_sum (B : Nat) (H : Heap) : Nat := ((H.toList.drop B).map (fun c => c.slots.size)).sum
def ce_at (D : va_G) (cl : List vw_C) (tys : List (ClassId × FieldType)) (a : Nat) (e : Nat × List Value) (H : Heap) : Prop :=
  if e.1 < 100 then ∃ r : vw_C, cl[e.1 - 1]? = some r ∧ e.2.length = r.2.2 ∧ t_OB a (D.1 (e.1 - 1)) r.2.2 (D.2 (e.1 - 1)) H (vp_V e.2)
  else if e.1 < 200 then ∃ q : ClassId × FieldType, tys[e.1 - 100]? = some q ∧ H[a]? = some (arrV q.1 e.2.length (vp_V e.2))
  else ∃ scr : Cell, H[a]? = some scr ∧ (e.1 = 200 → scr.slots = e.2.toArray)
def Rl (D : va_G) (cl : List vw_C) (tys : List (ClassId × FieldType)) (H0 : Heap) (LC LS : Nat) (h : AH) (H : Heap) : Prop :=
  H.size = h.1 ∧ H0.size ≤ h.1 ∧ h.1 + h.2.1 = H0.size + LC ∧ sl_sum H0.size H + h.2.2.1 = LS ∧ (∀ a : Nat, a < H0.size → H[a]? = H0[a]?) ∧
  ∀ a : Nat, (h.2.2.2 a).1 ≠ 0 → (a < h.1 ∧ (a < H0.size → 200 ≤ (h.2.2.2 a).1 ∨ (100 ≤ (h.2.2.2 a).1 ∧ (h.2.2.2 a).2 = []))) ∧ ce_at D cl tys a (h.2.2.2 a) H
theorem ce_kept {D : va_G} {cl : List vw_C} {tys : List (ClassId × FieldType)} {a : Nat} {e : Nat × List Value} {H H1 : Heap} (h : ce_at D cl tys a e H) (hq : H1[a]? = H[a]?) : ce_at D cl tys a e H1 := by
  unfold ce_at at h ⊢
  split
  · rename_i c1
    rw [if_pos c1] at h
    obtain ⟨r, h1, h2, h3⟩ := h
    exact ⟨r, h1, h2, h3.kept hq⟩
  · rename_i c1
    rw [if_neg c1] at h
    split
    · rename_i c2
      rw [if_pos c2] at h
      obtain ⟨q, h1, h2⟩ := h
      exact ⟨q, h1, hq.trans h2⟩
    · rename_i c2
      rw [if_neg c2] at h
      obtain ⟨scr, h1, h2⟩ := h
      exact ⟨scr, hq.trans h1, h2⟩
/-- old cells keep their sizes -/
def sl_keep (H0 H : Heap) : Prop := ∀ (a : Nat) (c : Cell), H0[a]? = some c → ∃ c' : Cell, H[a]? = some c' ∧ c'.slots.size = c.slots.size
theorem sl_split {B : Nat} {H0 H : Heap} (hB : B ≤ H0.size) (hs : H0.size ≤ H.size) (hk : sl_keep H0 H) : sl_sum B H = sl_sum B H0 + sl_sum H0.size H := by
  have key : ((H.toList.map (fun c => c.slots.size)).take H0.size) = H0.toList.map (fun c => c.slots.size) := by
    apply List.ext_getElem?
    intro i
    by_cases hi : i < H0.size
    · obtain ⟨c', h1, h2⟩ := hk i (H0[i]) (Array.getElem?_eq_getElem hi)
      rw [List.getElem?_take_of_lt hi, List.getElem?_map, List.getElem?_map, Array.getElem?_toList, Array.getElem?_toList, h1, Array.getElem?_eq_getElem hi]
      simp [h2]
    · rw [List.getElem?_eq_none (by rw [List.length_take]; omega), List.getElem?_eq_none (by rw [List.length_map, Array.length_toList]; omega)]
  have e1 : ∀ (b : Nat) (G : Heap), sl_sum b G = ((G.toList.map (fun c => c.slots.size)).drop b).sum := fun b G => by
    unfold sl_sum
    rw [List.map_drop]
  rw [e1, e1, e1]
  have e2 : (H.toList.map (fun c => c.slots.size)) = (H0.toList.map (fun c => c.slots.size)) ++ (H.toList.map (fun c => c.slots.size)).drop H0.size := by
    rw [← key, List.take_append_drop]
  have hl : (H0.toList.map (fun c => c.slots.size)).length = H0.size := by rw [List.length_map, Array.length_toList]
  conv => lhs; rw [e2]
  rw [List.drop_append_of_le_length (by rw [hl]; exact hB), List.sum_append]
theorem sl_same {B : Nat} {H H1 : Heap} (hz : H1.size = H.size) (hk : sl_keep H H1) : sl_sum B H1 = sl_sum B H := by
  unfold sl_sum
  rw [List.map_drop, List.map_drop]
  congr 2
  apply List.ext_getElem?
  intro i
  rw [List.getElem?_map, List.getElem?_map, Array.getElem?_toList, Array.getElem?_toList]
  by_cases hi : i < H.size
  · obtain ⟨c', h1, h2⟩ := hk i (H[i]) (Array.getElem?_eq_getElem hi)
    rw [h1, Array.getElem?_eq_getElem hi]
    simp [h2]
  · rw [Array.getElem?_eq_none (by omega), Array.getElem?_eq_none (by omega)]
theorem sl_push {B : Nat} {H H1 : Heap} {c : Cell} (hB : B ≤ H.size) (hz : H1.size = H.size + 1) (hc : H1[H.size]? = some c) (ho : ∀ q : Nat, q < H.size → H1[q]? = H[q]?) : sl_sum B H1 = sl_sum B H + c.slots.size := by
  have h1 := sl_split (B := B) (H0 := H) (H := H1) hB (by omega) (fun a d hd => ⟨d, by rw [ho a (Array.getElem?_eq_some_iff.mp hd).1]; exact hd, rfl⟩)
  rw [h1]
  congr 1
  unfold sl_sum
  have : H1.toList.drop H.size = [c] := by
    apply List.ext_getElem?
    intro i
    rw [List.getElem?_drop, Array.getElem?_toList]
    cases i with
    | zero => simpa using hc
    | succ n => rw [Array.getElem?_eq_none (by omega)]; simp
  rw [this]
  simp
/-- a cell is written: same class, same size -/
theorem Rl.set {D : va_G} {cl : List vw_C} {tys : List (ClassId × FieldType)} {H0 : Heap} {LC LS : Nat} {h : AH} {H H1 : Heap} {a : Nat} {e : Nat × List Value} (hR : Rl D cl tys H0 LC LS h H) (ha : H0.size ≤ a) (hlt : a < h.1) (hz : H1.size = H.size) (ho : ∀ q : Nat, q ≠ a → H1[q]? = H[q]?) (hs : ∀ c : Cell, H[a]? = some c → ∃ c' : Cell, H1[a]? = some c' ∧ c'.slots.size = c.slots.size) (he : ce_at D cl tys a e H1) : Rl D cl tys H0 LC LS (ah_set h a e) H1 := by
  obtain ⟨h1, h2, h3, h4, h5, h6⟩ := hR
  refine ⟨hz.trans h1, h2, h3, ?_, fun q hq => (ho q (by omega)).trans (h5 q hq), fun q hq => ?_⟩
  · rw [sl_same hz (fun q c hc => ?_)]
    · exact h4
    · by_cases e1 : q = a
      · subst e1; exact hs c hc
      · exact ⟨c, (ho q e1).trans hc, rfl⟩
  · by_cases e1 : q = a
    · subst e1
      have e2 : (ah_set h q e).2.2.2 q = e := by simp [ah_set, ah_up]
      rw [e2]
      exact ⟨⟨hlt, fun h => by omega⟩, he⟩
    · have e2 : (ah_set h a e).2.2.2 q = h.2.2.2 q := by simp [ah_set, ah_up, e1]
      rw [e2] at hq ⊢
      exact ⟨(h6 q hq).1, ce_kept (h6 q hq).2 (ho q e1)⟩
/-- a cell is made -/
theorem Rl.new {D : va_G} {cl : List vw_C} {tys : List (ClassId × FieldType)} {H0 : Heap} {LC LS : Nat} {h : AH} {H H1 : Heap} {c : Cell} {e : Nat × List Value} (hR : Rl D cl tys H0 LC LS h H) (hz : H1.size = H.size + 1) (hc : H1[H.size]? = some c) (ho : ∀ q : Nat, q < H.size → H1[q]? = H[q]?) (hsz : c.slots.size = e.2.length) (he : ce_at D cl tys H.size e H1) (r1 : 1 ≤ h.2.1) (r2 : e.2.length ≤ h.2.2.1) : Rl D cl tys H0 LC LS (ah_new h e) H1 := by
  obtain ⟨h1, h2, h3, h4, h5, h6⟩ := hR
  refine ⟨?_, ?_, ?_, ?_, fun q hq => (ho q (by omega)).trans (h5 q hq), fun q hq => ?_⟩
  · show H1.size = h.1 + 1
    omega
  · show H0.size ≤ h.1 + 1
    omega
  · show h.1 + 1 + (h.2.1 - 1) = _
    omega
  · show sl_sum H0.size H1 + (h.2.2.1 - e.2.length) = LS
    rw [sl_push (by omega) hz hc ho]
    omega
  · by_cases e1 : q = h.1
    · subst e1
      have e2 : (ah_new h e).2.2.2 h.1 = e := by simp [ah_new, ah_up]
      rw [e2]
      exact ⟨⟨by show h.1 < h.1 + 1; omega, fun h => by omega⟩, by rw [← h1]; exact he⟩
    · have e2 : (ah_new h e).2.2.2 q = h.2.2.2 q := by simp [ah_new, ah_up, e1]
      rw [e2] at hq ⊢
      obtain ⟨⟨g1, g2⟩, g3⟩ := h6 q hq
      exact ⟨⟨by show q < h.1 + 1; omega, g2⟩, ce_kept g3 (ho q (by omega))⟩
section QJ
variable {p : Program} {l : Launch} {e : Env} {R : Room} {s : State} {m : MethodId} {args : Array Value} {below : List Frame} {meth : Method} {c : Code}
/-- the counters may be told anew from the heap itself -/
theorem W_tight {H : Heap} {locs : List Loc} {cells slots k n : Nat} {Q : State → Prop} {g : JFrame} (h1 : H.size ≤ s.heap.size + k) (h2 : sl_keep s.heap H → s.heap.size ≤ H.size → sl_sum s.heap.size H ≤ n)
    (kk : W p l e R s m args below meth c H locs k n Q g) : W p l e R s m args below meth c H locs cells slots Q g := by
  intro T hT X
  obtain ⟨a1, a2, a3, a4, a5, a6⟩ := id X.same
  have hh : (T.setVm s.vm).heap = H := hT
  have h3 : sl_sum s.heap.size H ≤ n := h2 (fun a c hc => by
    obtain ⟨c', q1, q2, q3, q4⟩ := a6 a c hc
    rw [hh] at q1
    exact ⟨c', q1, q3⟩) (by rw [← hh]; exact a2)
  exact kk T hT { X with same := ⟨a1, a2, by rw [hh]; exact h1, a4, by rw [hh]; exact h3, a6⟩ }
/-- the judgement over pictures: any heap that shows h -/
def J (p : Program) (l : Launch) (e : Env) (R : Room) (s : State) (m : MethodId) (args : Array Value) (below : List Frame) (meth : Method) (c : Code) (D : va_G) (cl : List vw_C) (tys : List (ClassId × FieldType)) (H0 : Heap) (LC LS : Nat) (Q : State → Prop) (h : AH) (g : JFrame) : Prop :=
  ∀ (H : Heap) (locs : List Loc) (cells slots : Nat), Rl D cl tys H0 LC LS h H → (∀ q ∈ locs, H0.size ≤ q.base) → W p l e R s m args below meth c H locs cells slots Q g
/-- with the counters told from the picture -/
theorem J_tight {D : va_G} {cl : List vw_C} {tys : List (ClassId × FieldType)} {H0 : Heap} {LC LS : Nat} {h0 h : AH} {H : Heap} {locs : List Loc} {cells slots : Nat} {Q : State → Prop} {g : JFrame} (r0 : Rl D cl tys H0 LC LS h0 s.heap) (r : Rl D cl tys H0 LC LS h H)
    (kk : W p l e R s m args below meth c H locs (h0.2.1 - h.2.1) (h0.2.2.1 - h.2.2.1) Q g) : W p l e R s m args below meth c H locs cells slots Q g := by
  obtain ⟨a1, a2, a3, a4, a5, a6⟩ := r0
  obtain ⟨b1, b2, b3, b4, b5, b6⟩ := r
  refine W_tight (by omega) (fun hk hle => ?_) kk
  have := sl_split (B := H0.size) (by omega) hle hk
  omega
end QJ
