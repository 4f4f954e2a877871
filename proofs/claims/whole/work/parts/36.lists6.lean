theorem rep_set {k c : Nat} {vs : List Value} (hk : k < c) (hl : vs.length = c) : (List.replicate k Value.null ++ vs.drop k).set k .null = List.replicate (k + 1) Value.null ++ vs.drop (k + 1) := by
  rw [List.set_append_right _ _ (by rw [List.length_replicate]; exact Nat.le_refl _), List.length_replicate, Nat.sub_self, List.replicate_succ', List.append_assoc]
  congr 1
  rw [List.drop_eq_getElem_cons (by omega)]
  rfl
theorem clear_loop {gc : Nat → Nat} {d a e n c : Nat} {q : PT} {vs : List Value} (hl : vs.length = c) (hn : n ≤ c) (hc : c ≤ 4000) : ∀ (r k : Nat), n = k + r → ∀ h : AH, (0 < n → at_ h e 103 (List.replicate k Value.null ++ vs.drop k)) → (∀ h' : AH, (n = 0 → h' = h) → (0 < n → k < n → h' = ah_set h e (103, List.replicate n Value.null ++ vs.drop n)) → (k = n → h' = h) → q none h') →
    TT gc d 38 q 27 [.ref a, .ref e, .int (nI n), .int (nI k)] [] h := by
  intro r
  induction r with
  | zero =>
    intro k hk h _ hq
    refine B38_27 ⟨fun _ => B38_42 (hq h (fun _ => rfl) (fun _ z => by omega) (fun _ => rfl)), fun z => absurd (nI_le (by omega) (by omega)) z⟩
  | succ r ih =>
    intro k hk h hat hq
    have ek : (nI k).toNatClampNeg = k := nI_clamp (by omega)
    have hat := hat (by omega)
    refine B38_27 ⟨fun z => absurd z (nI_ge (by omega) (by omega)), fun _ => ⟨103, _, hat, rfl, nI_pos (by omega), ?_, ?_⟩⟩
    · rw [ek, List.length_append, List.length_replicate, List.length_drop]
      omega
    · intro h3 e3
      rw [ek, rep_set (by omega) hl] at e3
      rw [nI_1]
      refine ih (k + 1) (by omega) h3 (fun _ => by rw [e3]; exact at_s) (fun h' z1 z2 z3 => hq h' (fun z => by omega) (fun _ _ => ?_) (fun z => by omega))
      by_cases hkn : k + 1 = n
      · rw [z3 hkn, e3, hkn]
      · rw [z2 (by omega) (by omega), e3]
        unfold ah_set ah_up
        congr 3
        funext b
        by_cases hb : b = e
        · simp [hb]
        · simp [hb]
theorem pl_nil {c n : Nat} {vs : List Value} (hv : ∀ j, n ≤ j → j < c → vs[j]? = some .null) (hl : vs.length = c) (hn : n ≤ c) : List.replicate n Value.null ++ vs.drop n = pl c [] := by
  unfold pl
  rw [List.map_nil, List.nil_append, List.length_nil, Nat.sub_zero]
  apply List.ext_getElem?
  intro j
  rw [List.getElem?_replicate]
  by_cases hj : j < n
  · rw [List.getElem?_append_left (by rw [List.length_replicate]; exact hj), List.getElem?_replicate, if_pos hj, if_pos (by omega)]
  · rw [List.getElem?_append_right (by rw [List.length_replicate]; omega), List.length_replicate, List.getElem?_drop, show n + (j - n) = j by omega]
    by_cases h2 : j < c
    · rw [if_pos h2, hv j (by omega) h2]
    · rw [if_neg h2, List.getElem?_eq_none (by omega)]
theorem k_clear {gc : Nat → Nat} {d : Nat} {h : AH} {a e cap : Nat} {xs : List Nat} (hf : Fr h) (hL : Lst gc h a e cap xs) :
    WP gc (d + 1) 38 [.ref a] h (fun r h' => r = none ∧ Lst gc h' a e cap [] ∧ Chg h h' (fun b => b = a ∨ (b = e ∧ 0 < cap)) ∧ h'.1 = h.1 ∧ h'.2.1 = h.2.1 ∧ h'.2.2.1 = h.2.2.1) := by
  obtain ⟨⟨m, h1⟩, h2, h3, h4, h5⟩ := hL
  refine M38 ⟨_, _, h1, rfl, _, h1, Nat.le_of_ble_eq_true rfl, trivial, ?_⟩
  intro hA eA
  have hA1 : at_ hA a 10 [.int (m + 1), .ref e, .int (nI xs.length)] := by rw [eA]; exact at_s
  have hAf : Fr hA := by rw [eA]; exact hf.set h1 (by decide)
  have hAc : Chg h hA (fun b => b = a ∨ (b = e ∧ 0 < cap)) := by rw [eA]; exact Chg.set hf h1 (by decide) (Or.inl rfl)
  refine ⟨_, _, hA1, rfl, _, _, hA1, rfl, _, hA1, Nat.le_of_ble_eq_true rfl, trivial, ?_⟩
  intro hB eB
  have hB1 : at_ hB a 10 [.int (m + 1), .ref e, .int 0] := by rw [eB]; exact at_s
  have hBf : Fr hB := by rw [eB]; exact hAf.set hA1 (by decide)
  have hBc : Chg h hB (fun b => b = a ∨ (b = e ∧ 0 < cap)) := by rw [eB]; exact hAc.trans (Chg.set hAf hA1 (by decide) (Or.inl rfl))
  have t1 : hB.1 = h.1 ∧ hB.2.1 = h.2.1 ∧ hB.2.2.1 = h.2.2.1 := by rw [eB, eA]; exact ⟨rfl, rfl, rfl⟩
  have h4B : (cap = 0 ∧ e = gc 1 ∧ at_ hB e 201 []) ∨ (0 < cap ∧ at_ hB e 103 (pl cap xs)) := by
    rcases h4 with ⟨g1, g2, g3⟩ | ⟨g1, g3⟩
    · refine Or.inl ⟨g1, g2, ?_⟩
      rw [eB, eA]
      exact at_n (at_n g3 (at_ne g3 h1 (by decide))) (at_ne g3 h1 (by decide))
    · refine Or.inr ⟨g1, ?_⟩
      rw [eB, eA]
      exact at_n (at_n g3 (at_ne g3 h1 (by decide))) (at_ne g3 h1 (by decide))
  rcases h4B with ⟨g1, g2, g3⟩ | ⟨g1, g3⟩
  · have hx : xs = [] := List.eq_nil_of_length_eq_zero (by omega)
    subst hx
    refine clear_loop (c := 0) (n := 0) (vs := []) rfl (Nat.le_refl _) (by decide) 0 0 rfl hB (fun z => by omega) (fun h' z1 _ _ => ?_)
    rw [z1 rfl]
    exact ⟨rfl, ⟨⟨_, hB1⟩, by simp, h3, Or.inl ⟨g1, g2, g3⟩, fun x hx => by cases hx⟩, hBc, t1⟩
  · have hl : (pl cap xs).length = cap := pl_len h2
    refine clear_loop (c := cap) (n := xs.length) (vs := pl cap xs) hl h2 h3 xs.length 0 (by omega) hB (fun _ => by simpa using g3) (fun h' z1 z2 z3 => ?_)
    by_cases hx : xs.length = 0
    · have hxs : xs = [] := List.eq_nil_of_length_eq_zero hx
      subst hxs
      rw [z1 rfl]
      exact ⟨rfl, ⟨⟨_, hB1⟩, by simp, h3, Or.inr ⟨g1, g3⟩, fun x hx => by cases hx⟩, hBc, t1⟩
    · have e9 := z2 (by omega) (by omega)
      rw [pl_nil (c := cap) (fun j z1 z2 => by rw [pl_get h2, dif_neg (by omega), if_pos z2]) hl h2] at e9
      rw [e9]
      exact ⟨rfl, ⟨⟨_, at_n hB1 (at_ne hB1 g3 (by decide))⟩, by simp, h3, Or.inr ⟨g1, at_s⟩, fun x hx => by cases hx⟩, hBc.trans (Chg.set hBf g3 (by decide) (Or.inr ⟨rfl, g1⟩)), t1⟩
