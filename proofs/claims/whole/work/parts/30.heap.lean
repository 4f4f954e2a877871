/-! pictures: what a write leaves -/
theorem at_s {h : AH} {a t : Nat} {vs : List Value} : at_ (ah_set h a (t, vs)) a t vs := by
  unfold at_ ah_set ah_up
  simp
theorem at_n {h : AH} {a b t : Nat} {e : Nat × List Value} {vs : List Value} (hb : at_ h b t vs) (hn : b ≠ a) : at_ (ah_set h a e) b t vs := by
  unfold at_ ah_set ah_up at *
  simp [hn, hb]
theorem at_ne {h : AH} {a b t t' : Nat} {vs vs' : List Value} (h1 : at_ h a t vs) (h2 : at_ h b t' vs') (hn : t ≠ t') : a ≠ b := by
  rintro rfl
  unfold at_ at h1 h2
  rw [h1] at h2
  exact hn (Prod.mk.inj h2).1
theorem at_eq {h : AH} {a t t' : Nat} {vs vs' : List Value} (h1 : at_ h a t vs) (h2 : at_ h a t' vs') : t = t' ∧ vs = vs' := by
  unfold at_ at h1 h2
  rw [h1] at h2
  exact Prod.mk.inj h2
/-- nothing lies from the top on -/
def Fr (h : AH) : Prop := ∀ b : Nat, h.1 ≤ b → h.2.2.2 b = (0, [])
theorem Fr.lt {h : AH} (hf : Fr h) {b t : Nat} {vs : List Value} (hb : at_ h b t vs) (ht : t ≠ 0) : b < h.1 := by
  apply Nat.lt_of_not_le
  intro z
  unfold at_ at hb
  rw [hf b z] at hb
  exact ht (Prod.mk.inj hb).1.symm
theorem Fr.set {h : AH} (hf : Fr h) {a t : Nat} {vs : List Value} {e : Nat × List Value} (ha : at_ h a t vs) (ht : t ≠ 0) : Fr (ah_set h a e) := by
  intro b hb
  have hlt := hf.lt ha ht
  have hne : b ≠ a := fun z => by subst z; exact absurd hlt (Nat.not_lt.mpr hb)
  show ah_up h.2.2.2 a e b = _
  unfold ah_up
  rw [if_neg hne]
  exact hf b hb
theorem at_new {h : AH} {t : Nat} {vs : List Value} : at_ (ah_new h (t, vs)) h.1 t vs := by
  unfold at_ ah_new ah_up
  simp
theorem at_old {h : AH} {b t : Nat} {e : Nat × List Value} {vs : List Value} (hf : Fr h) (hb : at_ h b t vs) (ht : t ≠ 0) : at_ (ah_new h e) b t vs := by
  have hne : b ≠ h.1 := Nat.ne_of_lt (hf.lt hb ht)
  unfold at_ ah_new ah_up at *
  simp [hne, hb]
theorem Fr.new {h : AH} (hf : Fr h) {e : Nat × List Value} : Fr (ah_new h e) := by
  intro b hb
  have hb : h.1 + 1 ≤ b := hb
  show ah_up h.2.2.2 h.1 e b = _
  unfold ah_up
  rw [if_neg (by omega)]
  exact hf b (by omega)
/-- what changed lies in S or is new; tags stay -/
def Chg (h h' : AH) (S : Nat → Prop) : Prop := h.1 ≤ h'.1 ∧ Fr h' ∧ ∀ b : Nat, b < h.1 → ¬ S b → h'.2.2.2 b = h.2.2.2 b
theorem Chg.refl {h : AH} {S : Nat → Prop} (hf : Fr h) : Chg h h S := ⟨Nat.le_refl _, hf, fun _ _ _ => rfl⟩
theorem Chg.at {h h' : AH} {S : Nat → Prop} (hc : Chg h h' S) (hf : Fr h) {b t : Nat} {vs : List Value} (hb : at_ h b t vs) (ht : t ≠ 0) (hs : ¬ S b) : at_ h' b t vs := (hc.2.2 b (hf.lt hb ht) hs).trans hb
theorem Chg.trans {h h' h'' : AH} {S : Nat → Prop} (h1 : Chg h h' S) (h2 : Chg h' h'' S) : Chg h h'' S :=
  ⟨Nat.le_trans h1.1 h2.1, h2.2.1, fun b hb hs => (h2.2.2 b (Nat.lt_of_lt_of_le hb h1.1) hs).trans (h1.2.2 b hb hs)⟩
theorem Chg.mono {h h' : AH} {S T : Nat → Prop} (hc : Chg h h' S) (hst : ∀ b, b < h.1 → S b → T b) : Chg h h' T := ⟨hc.1, hc.2.1, fun b hb ht => hc.2.2 b hb (fun z => ht (hst b hb z))⟩
theorem Chg.set {h : AH} {S : Nat → Prop} (hf : Fr h) {a t : Nat} {vs : List Value} {e : Nat × List Value} (ha : at_ h a t vs) (ht : t ≠ 0) (hs : S a) : Chg h (ah_set h a e) S := by
  refine ⟨Nat.le_refl _, hf.set ha ht, fun b hb hn => ?_⟩
  show ah_up h.2.2.2 a e b = _
  unfold ah_up
  rw [if_neg (show ¬ b = a from fun z => hn (by rw [z]; exact hs))]
theorem Chg.new {h : AH} {S : Nat → Prop} (hf : Fr h) {e : Nat × List Value} : Chg h (ah_new h e) S := by
  refine ⟨Nat.le_succ _, hf.new, fun b hb hn => ?_⟩
  show ah_up h.2.2.2 h.1 e b = _
  unfold ah_up
  rw [if_neg (Nat.ne_of_lt hb)]
theorem set_top {h : AH} {a : Nat} {e : Nat × List Value} : (ah_set h a e).1 = h.1 ∧ (ah_set h a e).2.1 = h.2.1 ∧ (ah_set h a e).2.2.1 = h.2.2.1 := ⟨rfl, rfl, rfl⟩
/-! lists of addresses: an ArrayList at a, its places at e (cap of them), its elements xs -/
def El (h : AH) (xs : List Nat) : Prop := ∀ x ∈ xs, ∃ (t : Nat) (ws : List Value), at_ h x t ws ∧ asg 103 t = true
def pl (cap : Nat) (xs : List Nat) : List Value := xs.map Value.ref ++ List.replicate (cap - xs.length) .null
def Lst (gc : Nat → Nat) (h : AH) (a e cap : Nat) (xs : List Nat) : Prop :=
  (∃ m : Int32, at_ h a 10 [.int m, .ref e, .int (nI xs.length)]) ∧ xs.length ≤ cap ∧ cap ≤ 4000 ∧ ((cap = 0 ∧ e = gc 1 ∧ at_ h e 201 []) ∨ (0 < cap ∧ at_ h e 103 (pl cap xs))) ∧ El h xs
theorem asg_t {t : Nat} (h : asg 103 t = true) : t = 1 ∨ t = 3 ∨ t = 4 ∨ t = 5 := by
  unfold asg at h
  split at h <;> first | (cases h; done) | omega
theorem pl_len {cap : Nat} {xs : List Nat} (h : xs.length ≤ cap) : (pl cap xs).length = cap := by
  unfold pl
  rw [List.length_append, List.length_map, List.length_replicate]
  omega
theorem pl_at {cap i : Nat} {xs : List Nat} (h : i < xs.length) : (pl cap xs)[i]? = some (.ref xs[i]) := by
  unfold pl
  rw [List.getElem?_append_left (by rw [List.length_map]; exact h), List.getElem?_map, List.getElem?_eq_getElem h]
  rfl
theorem El.keep {h h' : AH} {xs : List Nat} (hk : ∀ b t ws, at_ h b t ws → asg 103 t = true → ∃ ws', at_ h' b t ws') (he : El h xs) : El h' xs := fun x hx => by
  obtain ⟨t, ws, h1, h2⟩ := he x hx
  obtain ⟨ws', h3⟩ := hk x t ws h1 h2
  exact ⟨t, ws', h3, h2⟩
