theorem pl_get {c : Nat} {xs : List Nat} (h : xs.length ≤ c) (j : Nat) : (pl c xs)[j]? = if hj : j < xs.length then some (.ref xs[j]) else if j < c then some .null else none := by
  by_cases hj : j < xs.length
  · rw [dif_pos hj]
    exact pl_at hj
  · rw [dif_neg hj]
    unfold pl
    rw [List.getElem?_append_right (by rw [List.length_map]; omega), List.getElem?_replicate, List.length_map]
    by_cases h2 : j < c
    · rw [if_pos h2, if_pos (by omega)]
    · rw [if_neg h2, if_neg (by omega)]
theorem pl_V {c : Nat} {xs : List Nat} (h : xs.length ≤ c) (j : Nat) : vp_V (pl c xs) j = if hj : j < xs.length then .ref xs[j] else .null := by
  unfold vp_V
  rw [List.getD_eq_getElem?_getD, pl_get h]
  by_cases hj : j < xs.length
  · rw [dif_pos hj, dif_pos hj]; rfl
  · rw [dif_neg hj, dif_neg hj]
    split <;> rfl
theorem cpyL_get {v0 v1 : List Value} {sp dp n : Nat} (j : Nat) : (cpyL v0 v1 sp dp n)[j]? = if j < v1.length then some (va_cpy (vp_V v0) (vp_V v1) sp dp n j) else none := by
  unfold cpyL
  rw [List.getElem?_map]
  by_cases hj : j < v1.length
  · rw [if_pos hj, List.getElem?_range hj]; rfl
  · rw [if_neg hj, List.getElem?_eq_none (by rw [List.length_range]; omega)]; rfl
theorem rm_pl {c i : Nat} {xs : List Nat} (hi : i < xs.length) (hc : xs.length ≤ c) : (cpyL (pl c xs) (pl c xs) (i + 1) i (xs.length - 1 - i)).set (xs.length - 1) .null = pl c (xs.eraseIdx i) := by
  have hl : (pl c xs).length = c := pl_len hc
  have he : (xs.eraseIdx i).length = xs.length - 1 := List.length_eraseIdx_of_lt hi
  apply List.ext_getElem?
  intro j
  rw [pl_get (by omega), List.getElem?_set, cpyL_len, hl, cpyL_get, hl]
  by_cases h1 : xs.length - 1 = j
  · subst h1
    rw [if_pos rfl, if_pos (by omega), dif_neg (by omega)]
  · rw [if_neg h1]
    by_cases h2 : j < xs.length - 1
    · rw [if_pos (by omega), dif_pos (by omega)]
      congr 1
      by_cases h3 : i ≤ j
      · rw [pk_cpy_in h3 (by omega), pl_V hc, dif_pos (by omega)]
        congr 1
        rw [List.getElem_eraseIdx_of_ge (by omega) h3]
        congr 1
        omega
      · rw [pk_cpy_out (Or.inl (by omega)), pl_V hc, dif_pos (by omega)]
        congr 1
        rw [List.getElem_eraseIdx_of_lt (by omega) (by omega)]
    · rw [dif_neg (by omega)]
      by_cases h4 : j < c
      · rw [if_pos h4, if_pos h4, pk_cpy_out (Or.inr (by omega)), pl_V hc, dif_neg (by omega)]
      · rw [if_neg h4, if_neg h4]
theorem rm_pl1 {c : Nat} {xs : List Nat} (hi : 0 < xs.length) (hc : xs.length ≤ c) : (pl c xs).set (xs.length - 1) .null = pl c (xs.eraseIdx (xs.length - 1)) := by
  rw [← rm_pl (by omega) hc]
  congr 1
  apply List.ext_getElem?
  intro j
  rw [cpyL_get, pl_len hc, pl_get hc]
  by_cases h4 : j < c
  · rw [if_pos h4, pk_cpy_out (by omega), pl_V hc]
    by_cases hj : j < xs.length
    · rw [dif_pos hj, dif_pos hj, if_pos h4]
    · rw [dif_neg hj, dif_neg hj, if_pos h4]
  · rw [if_neg h4, dif_neg (by omega), if_neg h4]
theorem El.sub {h : AH} {xs ys : List Nat} (he : El h xs) (hs : ∀ y ∈ ys, y ∈ xs) : El h ys := fun y hy => he y (hs y hy)
theorem mem_erase {xs : List Nat} {i y : Nat} (h : y ∈ xs.eraseIdx i) : y ∈ xs := List.mem_of_mem_eraseIdx h
theorem k_remove {gc : Nat → Nat} {d i : Nat} {h : AH} {a e cap : Nat} {xs : List Nat} (hf : Fr h) (hL : Lst gc h a e cap xs) (hi : i < xs.length) :
    WP gc (d + 3) 32 [.ref a, .int (nI i)] h (fun r h' => r = some (.ref xs[i]) ∧ Lst gc h' a e cap (xs.eraseIdx i) ∧ Chg h h' (fun b => b = a ∨ (b = e ∧ 0 < cap)) ∧ h'.1 = h.1 ∧ h'.2.1 = h.2.1 ∧ h'.2.2.1 = h.2.2.1) := by
  obtain ⟨⟨m, h1⟩, h2, h3, h4, h5⟩ := hL
  have hc0 : 0 < cap := by omega
  have h4 : at_ h e 103 (pl cap xs) := by
    rcases h4 with ⟨z, -⟩ | ⟨-, z⟩
    · omega
    · exact z
  have ei : (nI i).toNatClampNeg = i := nI_clamp (by omega)
  refine M32 ⟨_, _, h1, rfl, _, k_chk (n := xs.length) hi (by omega), ?_⟩
  rintro r h0 ⟨rfl, rfl⟩
  refine ⟨_, rfl, _, _, h1, rfl, 103, _, _, h4, rfl, nI_pos (by omega), by rw [ei]; exact pl_at hi, ⟨_, h1⟩, fun r h' => r = none ∧ Lst gc h' a e cap (xs.eraseIdx i) ∧ Chg h0 h' (fun b => b = a ∨ (b = e ∧ 0 < cap)) ∧ h'.1 = h0.1 ∧ h'.2.1 = h0.2.1 ∧ h'.2.2.1 = h0.2.2.1, ?_, ?_⟩
  · refine M33 ⟨_, _, h1, rfl, _, h1, Nat.le_of_ble_eq_true rfl, trivial, ?_⟩
    intro hA eA
    have hA1 : at_ hA a 10 [.int (m + 1), .ref e, .int (nI xs.length)] := by rw [eA]; exact at_s
    have hAf : Fr hA := by rw [eA]; exact hf.set h1 (by decide)
    have hAe : El hA xs := by rw [eA]; exact h5.set h1 rfl
    have hAc : Chg h0 hA (fun b => b = a ∨ (b = e ∧ 0 < cap)) := by rw [eA]; exact Chg.set hf h1 (by decide) (Or.inl rfl)
    have t1 : hA.1 = h0.1 ∧ hA.2.1 = h0.2.1 ∧ hA.2.2.1 = h0.2.2.1 := by rw [eA]; exact ⟨rfl, rfl, rfl⟩
    have hA4 : at_ hA e 103 (pl cap xs) := by rw [eA]; exact at_n h4 (at_ne h4 h1 (by decide))
    have e1 : nI xs.length - 1 = nI (xs.length - 1) := by
      have := nI_pred (xs.length - 1)
      rw [show xs.length - 1 + 1 = xs.length by omega] at this
      exact this
    have en : (nI (xs.length - 1)).toNatClampNeg = xs.length - 1 := nI_clamp (by omega)
    -- the last step, from any array that comes to it
    have last : ∀ (hB : AH) (vs : List Value), at_ hB a 10 [.int (m + 1), .ref e, .int (nI xs.length)] → at_ hB e 103 vs → vs.length = cap → vs.set (xs.length - 1) .null = pl cap (xs.eraseIdx i) → Fr hB → El hB xs → Chg h0 hB (fun b => b = a ∨ (b = e ∧ 0 < cap)) → hB.1 = h0.1 ∧ hB.2.1 = h0.2.1 ∧ hB.2.2.1 = h0.2.2.1 →
        TT gc (d + 1) 33 (fun r h' => r = none ∧ Lst gc h' a e cap (xs.eraseIdx i) ∧ Chg h0 h' (fun b => b = a ∨ (b = e ∧ 0 < cap)) ∧ h'.1 = h0.1 ∧ h'.2.1 = h0.2.1 ∧ h'.2.2.1 = h0.2.2.1) 34 [.ref a, .ref e, .int (nI i), .int (nI (xs.length - 1))] [] hB := by
      intro hB vs b1 b2 b3 b4 b5 b6 b7 b8
      refine B33_34 ⟨_, b1, Nat.le_of_ble_eq_true rfl, trivial, ?_⟩
      intro hC eC
      have hC1 : at_ hC a 10 [.int (m + 1), .ref e, .int (nI (xs.length - 1))] := by rw [eC]; exact at_s
      have hC2 : at_ hC e 103 vs := by rw [eC]; exact at_n b2 (at_ne b2 b1 (by decide))
      have hCf : Fr hC := by rw [eC]; exact b5.set b1 (by decide)
      have hCc : Chg h0 hC (fun b => b = a ∨ (b = e ∧ 0 < cap)) := by rw [eC]; exact b7.trans (Chg.set b5 b1 (by decide) (Or.inl rfl))
      refine ⟨103, vs, hC2, rfl, nI_pos (by omega), by rw [en, b3]; omega, ?_⟩
      rintro hD rfl
      rw [en, b4]
      have hle : (xs.eraseIdx i).length = xs.length - 1 := List.length_eraseIdx_of_lt hi
      refine ⟨rfl, ⟨⟨m + 1, ?_⟩, by omega, h3, Or.inr ⟨hc0, at_s⟩, ?_⟩, hCc.trans (Chg.set hCf hC2 (by decide) (Or.inr ⟨rfl, hc0⟩)), ?_⟩
      · rw [hle]
        exact at_n hC1 (at_ne hC1 hC2 (by decide))
      · have hCe : El hC xs := by rw [eC]; exact b6.set b1 rfl
        exact (hCe.set hC2 rfl).sub (fun y hy => mem_erase hy)
      · rw [eC]
        exact b8
    refine ⟨_, _, hA1, rfl, ?_⟩
    rw [e1]
    refine ⟨fun z => ?_, fun z => ?_⟩
    · have hie : i = xs.length - 1 := by
        have := (nI_leI (a := xs.length - 1) (b := i) (by omega) (by omega)).mp z
        omega
      subst hie
      exact last hA _ hA1 hA4 (pl_len h2) (rm_pl1 (by omega) h2) hAf hAe hAc t1
    · have hlt : i < xs.length - 1 := by
        apply Nat.lt_of_not_le
        intro z2
        exact z (nI_le z2 (by omega))
      have e2 : nI (xs.length - 1) - nI i = nI (xs.length - 1 - i) := pk_sub (by omega)
      have e3 : (nI (xs.length - 1 - i)).toNatClampNeg = xs.length - 1 - i := nI_clamp (by omega)
      have e4 : (nI (i + 1)).toNatClampNeg = i + 1 := nI_clamp (by omega)
      rw [nI_1, e2]
      refine ⟨_, _, hA4, hA4, nI_pos (by omega), nI_pos (by omega), nI_pos (by omega), by rw [e3, e4, pl_len h2]; omega, by rw [e3, ei, pl_len h2]; omega, by rw [pl_len h2]; omega, pl_el hAe, ?_⟩
      intro hB eB
      rw [e3, e4, ei] at eB
      refine last hB _ ?_ (by rw [eB]; exact at_s) (by rw [cpyL_len, pl_len h2]) (rm_pl hi h2) ?_ ?_ ?_ ?_
      · rw [eB]; exact at_n hA1 (at_ne hA1 hA4 (by decide))
      · rw [eB]; exact hAf.set hA4 (by decide)
      · rw [eB]; exact hAe.set hA4 rfl
      · rw [eB]; exact hAc.trans (Chg.set hAf hA4 (by decide) (Or.inr ⟨rfl, hc0⟩))
      · rw [eB]; exact t1
  · rintro r h' ⟨rfl, hq⟩
    exact ⟨rfl, rfl, hq⟩
theorem k_init {gc : Nat → Nat} {d : Nat} {h : AH} {a : Nat} (hf : Fr h) (ha : at_ h a 10 [.int 0, .null, .int 0]) (h1 : at_ h (gc 1) 201 []) :
    WP gc (d + 3) 1 [.ref a] h (fun r h' => r = none ∧ Lst gc h' a (gc 1) 0 [] ∧ Chg h h' (fun b => b = a) ∧ h'.1 = h.1 ∧ h'.2.1 = h.2.1 ∧ h'.2.2.1 = h.2.2.1) := by
  refine M1 ⟨fun r h' => r = none ∧ h' = ah_set h a (10, [.int 0, .null, .int 0]), M2 ⟨fun r h' => r = none ∧ h' = h, M3 ⟨rfl, rfl⟩, ?_⟩, ?_⟩
  · rintro r h' ⟨rfl, rfl⟩
    refine ⟨rfl, _, ha, Nat.le_of_ble_eq_true rfl, trivial, ?_⟩
    rintro h5 rfl
    exact ⟨rfl, rfl⟩
  · rintro r h' ⟨rfl, rfl⟩
    refine ⟨rfl, _, at_s, Nat.le_of_ble_eq_true rfl, trivial, ?_⟩
    rintro h5 rfl
    refine ⟨rfl, ⟨⟨0, at_s⟩, Nat.le_refl _, by decide, Or.inl ⟨rfl, rfl, at_n (at_n h1 (at_ne h1 ha (by decide))) (at_ne h1 ha (by decide))⟩, fun x hx => by cases hx⟩, ?_, rfl, rfl, rfl⟩
    exact (Chg.set (S := fun b => b = a) hf ha (by decide) rfl).trans (Chg.set (S := fun b => b = a) (t := 10) (hf.set ha (by decide)) at_s (by decide) rfl)
