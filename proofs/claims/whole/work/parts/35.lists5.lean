/-- y put in at place i -/
def ins (xs : List Nat) (i y : Nat) : List Nat := xs.take i ++ y :: xs.drop i
theorem ins_len {xs : List Nat} {i y : Nat} (hi : i ≤ xs.length) : (ins xs i y).length = xs.length + 1 := by
  unfold ins
  rw [List.length_append, List.length_cons, List.length_take, List.length_drop]
  omega
theorem mem_ins {xs : List Nat} {i y x : Nat} (h : x ∈ ins xs i y) : x = y ∨ x ∈ xs := by
  unfold ins at h
  rcases List.mem_append.mp h with g | g
  · exact Or.inr (List.mem_of_mem_take g)
  · rcases List.mem_cons.mp g with g | g
    · exact Or.inl g
    · exact Or.inr (List.mem_of_mem_drop g)
theorem ins_pl {c i y : Nat} {xs : List Nat} (hi : i ≤ xs.length) (hc : xs.length < c) : (cpyL (pl c xs) (pl c xs) i (i + 1) (xs.length - i)).set i (.ref y) = pl c (ins xs i y) := by
  have hl : (pl c xs).length = c := pl_len (by omega)
  have he := ins_len (y := y) hi
  apply List.ext_getElem?
  intro j
  rw [pl_get (by omega), List.getElem?_set, cpyL_len, hl, cpyL_get, hl]
  by_cases h1 : i = j
  · subst h1
    rw [if_pos rfl, if_pos (by omega), dif_pos (by omega)]
    congr 2
    unfold ins
    rw [List.getElem_append_right (by rw [List.length_take]; omega)]
    simp [Nat.min_eq_left hi]
  · rw [if_neg h1]
    by_cases h2 : j < xs.length + 1
    · rw [if_pos (by omega), dif_pos (by omega)]
      congr 1
      by_cases h3 : i < j
      · rw [pk_cpy_in (by omega) (by omega), pl_V (by omega), dif_pos (by omega)]
        congr 1
        unfold ins
        rw [List.getElem_append_right (by rw [List.length_take]; omega)]
        simp only [List.length_take, Nat.min_eq_left hi]
        rw [List.getElem_cons]
        rw [dif_neg (by omega), List.getElem_drop]
        congr 1 <;> omega
      · rw [pk_cpy_out (Or.inl (by omega)), pl_V (by omega), dif_pos (by omega)]
        congr 1
        unfold ins
        rw [List.getElem_append_left (by rw [List.length_take]; omega), List.getElem_take]
    · rw [dif_neg (by omega)]
      by_cases h4 : j < c
      · rw [if_pos h4, if_pos h4, pk_cpy_out (Or.inr (by omega)), pl_V (by omega), dif_neg (by omega)]
      · rw [if_neg h4, if_neg h4]
theorem k_insert {gc : Nat → Nat} {d i : Nat} {h : AH} {a e cap y ty : Nat} {xs : List Nat} {wy : List Value} (hf : Fr h) (hL : Lst gc h a e cap xs) (hc : cap ≤ 2000) (hi : i ≤ xs.length) (hy : at_ h y ty wy) (ht : asg 103 ty = true) (r1 : 1 ≤ h.2.1) (r2 : 10000 ≤ h.2.2.1) :
    WP gc (d + 5) 52 [.ref a, .int (nI i), .ref y] h (fun r h' => r = none ∧ LPost gc h a e cap xs.length (ins xs i y) h') := by
  obtain ⟨⟨m, h1⟩, h2, h3, h4, h5⟩ := hL
  have hty := asg_n0 ht
  have ei : (nI i).toNatClampNeg = i := nI_clamp (by omega)
  have en1 : nI i + 1 = nI (i + 1) := nI_1 i
  have ei1 : (nI (i + 1)).toNatClampNeg = i + 1 := nI_clamp (by omega)
  have e2 : nI xs.length - nI i = nI (xs.length - i) := pk_sub hi
  have e3 : (nI (xs.length - i)).toNatClampNeg = xs.length - i := nI_clamp (by omega)
  refine M52 ⟨⟨_, h1⟩, fun r h' => r = none ∧ h' = h, ?_, ?_⟩
  · refine M53 ⟨_, _, h1, rfl, fun z => absurd z (nI_nlt hi (by omega)), fun _ => ⟨fun _ => B53_25 ⟨rfl, rfl⟩, fun z => absurd (nI_pos' (by omega)) z⟩⟩
  rintro r hz ⟨rfl, rfl⟩
  refine ⟨rfl, _, _, h1, rfl, _, h1, Nat.le_of_ble_eq_true rfl, trivial, ?_⟩
  intro hA eA
  have hA1 : at_ hA a 10 [.int (m + 1), .ref e, .int (nI xs.length)] := by rw [eA]; exact at_s
  have hAf : Fr hA := by rw [eA]; exact hf.set h1 (by decide)
  have hAy : at_ hA y ty wy := by rw [eA]; exact at_n hy (at_ne hy h1 hty.2.1)
  have hAe : El hA xs := by rw [eA]; exact h5.set h1 rfl
  have hAc : Chg hz hA (fun b => b = a ∨ (b = e ∧ 0 < cap)) := by rw [eA]; exact Chg.set hf h1 (by decide) (Or.inl rfl)
  have t1 : hA.1 = hz.1 ∧ hA.2.1 = hz.2.1 ∧ hA.2.2.1 = hz.2.2.1 := by rw [eA]; exact ⟨rfl, rfl, rfl⟩
  have h4A : (cap = 0 ∧ e = gc 1 ∧ at_ hA e 201 []) ∨ (0 < cap ∧ at_ hA e 103 (pl cap xs)) := by
    rcases h4 with ⟨g1, g2, g3⟩ | ⟨g1, g3⟩
    · exact Or.inl ⟨g1, g2, by rw [eA]; exact at_n g3 (at_ne g3 h1 (by decide))⟩
    · exact Or.inr ⟨g1, by rw [eA]; exact at_n g3 (at_ne g3 h1 (by decide))⟩
  -- the stores, in any array with room
  have last : ∀ (hB : AH) (e' c' : Nat), at_ hB a 10 [.int (m + 1), .ref e', .int (nI xs.length)] → at_ hB e' 103 (pl c' xs) → xs.length < c' → c' ≤ 4000 → Fr hB → El hB xs → at_ hB y ty wy → Chg hz hB (fun b => b = a ∨ (b = e ∧ 0 < cap)) → (hz.1 ≤ e' ∨ (e' = e ∧ 0 < cap)) →
      ((e' = e ∧ c' = cap ∧ hB.1 = hz.1 ∧ hB.2.1 = hz.2.1 ∧ hB.2.2.1 = hz.2.2.1) ∨ (e' = hz.1 ∧ c' = gr cap ∧ cap = xs.length ∧ hB.1 = hz.1 + 1 ∧ hB.2.1 + 1 = hz.2.1 ∧ hB.2.2.1 + gr cap = hz.2.2.1)) →
      TT gc (d + 4) 52 (fun r h' => r = none ∧ LPost gc hz a e cap xs.length (ins xs i y) h') 38 [.ref a, .int (nI i), .ref y, .int (nI xs.length), .ref e'] [] hB := by
    intro hB e' c' b1 b2 b3 b4 b5 b6 b7 b8 b9 b10
    have hl : (pl c' xs).length = c' := pl_len (by omega)
    refine B52_38 ?_
    rw [en1, e2]
    refine ⟨_, _, b2, b2, nI_pos (by omega), nI_pos (by omega), nI_pos (by omega), by rw [ei, e3, hl]; omega, by rw [ei1, e3, hl]; omega, by omega, pl_el b6, ?_⟩
    intro hC eC
    rw [ei, ei1, e3] at eC
    have hC1 : at_ hC a 10 [.int (m + 1), .ref e', .int (nI xs.length)] := by rw [eC]; exact at_n b1 (at_ne b1 b2 (by decide))
    have hC2 : at_ hC e' 103 (cpyL (pl c' xs) (pl c' xs) i (i + 1) (xs.length - i)) := by rw [eC]; exact at_s
    have hCy : at_ hC y ty wy := by rw [eC]; exact at_n b7 (at_ne b7 b2 hty.2.2.1)
    have hCf : Fr hC := by rw [eC]; exact b5.set b2 (by decide)
    have hCe : El hC xs := by rw [eC]; exact b6.set b2 rfl
    refine ⟨103, ty, _, wy, hC2, hCy, ht, nI_pos (by omega), by rw [ei, cpyL_len, hl]; omega, ?_⟩
    intro hD eD
    rw [ei, ins_pl hi b3] at eD
    have hD1 : at_ hD a 10 [.int (m + 1), .ref e', .int (nI xs.length)] := by rw [eD]; exact at_n hC1 (at_ne hC1 hC2 (by decide))
    have hD2 : at_ hD e' 103 (pl c' (ins xs i y)) := by rw [eD]; exact at_s
    have hDf : Fr hD := by rw [eD]; exact hCf.set hC2 (by decide)
    have hDe : El hD (ins xs i y) := by
      have hDe0 : El hD xs := by rw [eD]; exact hCe.set hC2 rfl
      intro x hx
      rcases mem_ins hx with g | g
      · subst g
        exact ⟨ty, wy, by rw [eD]; exact at_n hCy (at_ne hCy hC2 hty.2.2.1), ht⟩
      · exact hDe0 x g
    refine ⟨_, hD1, Nat.le_of_ble_eq_true rfl, trivial, ?_⟩
    rintro hE rfl
    have hil := ins_len (y := y) hi
    refine ⟨rfl, e', c', ⟨⟨m + 1, ?_⟩, by omega, b4, Or.inr ⟨by omega, at_n hD2 (Ne.symm (at_ne hD1 hD2 (by decide)))⟩, hDe.set hD1 rfl⟩, ?_, ?_⟩
    · rw [hil, ← nI_1]
      exact at_s
    · refine ⟨?_, hDf.set hD1 (by decide), fun b hb hs => ?_⟩
      · show hz.1 ≤ hD.1
        rw [eD, eC]
        exact b8.1
      · show ah_up hD.2.2.2 a _ b = _
        unfold ah_up
        rw [if_neg (show ¬ b = a from fun z => hs (Or.inl z)), eD]
        have hbe : b ≠ e' := by
          rintro rfl
          rcases b9 with z | z
          · omega
          · exact hs (Or.inr z)
        show ah_up hC.2.2.2 e' _ b = _
        unfold ah_up
        rw [if_neg hbe, eC]
        show ah_up hB.2.2.2 e' _ b = _
        unfold ah_up
        rw [if_neg hbe]
        exact b8.2.2 b hb hs
    · have f1 : hD.1 = hB.1 ∧ hD.2.1 = hB.2.1 ∧ hD.2.2.1 = hB.2.2.1 := by rw [eD, eC]; exact ⟨rfl, rfl, rfl⟩
      show (e' = e ∧ c' = cap ∧ hD.1 = hz.1 ∧ hD.2.1 = hz.2.1 ∧ hD.2.2.1 = hz.2.2.1) ∨ (e' = hz.1 ∧ c' = gr cap ∧ cap = xs.length ∧ hD.1 = hz.1 + 1 ∧ hD.2.1 + 1 = hz.2.1 ∧ hD.2.2.1 + gr cap = hz.2.2.1)
      rw [f1.1, f1.2.1, f1.2.2]
      exact b10
  have grow : xs.length = cap → (∃ vs6 : List Value, at_ hA a 10 vs6) ∧ ∃ Q3 : PT, WP gc (d + 4) 25 [.ref a] hA Q3 ∧ ∀ (r4 : Option Value) (h5 : AH), Q3 r4 h5 → ∃ b7 : Nat, r4 = some (.ref b7) ∧ TT gc (d + 4) 52 (fun r h' => r = none ∧ LPost gc hz a e cap xs.length (ins xs i y) h') 38 [.ref a, .int (nI i), .ref y, .int (nI xs.length), .ref b7] [] h5 := by
    intro hfull
    have hA1' := hA1
    rw [hfull] at hA1'
    refine ⟨⟨_, hA1⟩, _, k_grow hAf hA1' hfull (by omega) h4A hAe (by omega) (by omega), ?_⟩
    rintro r hB ⟨rfl, b1, b2, b3, b4, b5, b6⟩
    rw [← hfull] at b1
    have hg : cap < gr cap ∧ gr cap ≤ 4000 ∧ gr cap ≤ hA.2.2.1 := by
      unfold gr
      split <;> (try split) <;> omega
    have hBy : at_ hB y ty wy := b3.at hAf hAy hty.1 (at_ne hy h1 hty.2.1)
    have hBe : El hB xs := El.chg hAf b3 (fun b t ws z hb => by subst z; obtain ⟨e1, -⟩ := at_eq hb hA1; rw [e1]; rfl) hAe
    exact ⟨_, rfl, last hB hA.1 (gr cap) b1 b2 (by omega) (by omega) b3.2.1 hBe hBy (hAc.trans (b3.mono (fun b _ z => Or.inl z))) (Or.inl (by omega)) (Or.inr ⟨t1.1, rfl, hfull.symm, by omega, by omega, by omega⟩)⟩
  refine ⟨_, _, hA1, rfl, _, _, hA1, rfl, ?_⟩
  rcases h4A with ⟨g1, g2, g3⟩ | ⟨g1, g3⟩
  · refine ⟨201, [], g3, Or.inr (Or.inr ⟨rfl, g2, rfl⟩), fun z => ?_, fun _ => grow (by omega)⟩
    exfalso
    apply z
    rw [show xs.length = 0 by omega]
    rfl
  · have hlen : (pl cap xs).length = cap := pl_len h2
    refine ⟨103, _, g3, Or.inl ⟨by decide, by decide⟩, fun z => ?_, fun z => ?_⟩
    · rw [hlen] at z
      have hlt : xs.length < cap := by
        apply Nat.lt_of_le_of_ne h2
        intro z2
        apply z
        rw [z2]
        rfl
      exact last hA e cap hA1 g3 hlt h3 hAf hAe hAy hAc (Or.inr ⟨rfl, g1⟩) (Or.inl ⟨rfl, rfl, t1⟩)
    · rw [hlen] at z
      exact grow ((nI_eq (by omega) (by omega)).mp z)
