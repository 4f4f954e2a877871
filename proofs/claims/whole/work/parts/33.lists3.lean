/-- what a list's method leaves: the list ys, perhaps with new places -/
def LPost (gc : Nat → Nat) (h : AH) (a e cap n : Nat) (ys : List Nat) (h' : AH) : Prop := ∃ e' cap' : Nat, Lst gc h' a e' cap' ys ∧ Chg h h' (fun b => b = a ∨ (b = e ∧ 0 < cap)) ∧
  ((e' = e ∧ cap' = cap ∧ h'.1 = h.1 ∧ h'.2.1 = h.2.1 ∧ h'.2.2.1 = h.2.2.1) ∨ (e' = h.1 ∧ cap' = gr cap ∧ cap = n ∧ h'.1 = h.1 + 1 ∧ h'.2.1 + 1 = h.2.1 ∧ h'.2.2.1 + gr cap = h.2.2.1))
theorem pl_set {c : Nat} {xs : List Nat} {y : Nat} (h : xs.length < c) : (pl c xs).set xs.length (.ref y) = pl c (xs ++ [y]) := by
  have e1 : (xs.map Value.ref).length = xs.length := List.length_map _
  unfold pl
  rw [List.set_append_right _ _ (by rw [e1]; exact Nat.le_refl _), e1, Nat.sub_self, List.length_append, List.map_append, List.append_assoc]
  congr 1
  rw [show c - xs.length = (c - (xs.length + 1)) + 1 by omega, List.replicate_succ]
  rfl
theorem El.one {h : AH} {xs : List Nat} {y t : Nat} {ws : List Value} (he : El h xs) (hy : at_ h y t ws) (ht : asg 103 t = true) : El h (xs ++ [y]) := fun x hx => by
  rcases List.mem_append.mp hx with g | g
  · exact he x g
  · rw [List.mem_singleton.mp g]
    exact ⟨t, ws, hy, ht⟩
theorem El.set {h : AH} {xs : List Nat} {a t : Nat} {vs : List Value} {e : Nat × List Value} (ha : at_ h a t vs) (ht : asg 103 t = false) (he : El h xs) : El (ah_set h a e) xs := fun x hx => by
  obtain ⟨t', ws, h1, h2⟩ := he x hx
  exact ⟨t', ws, at_n h1 (fun z => by subst z; obtain ⟨e1, -⟩ := at_eq ha h1; rw [← e1, ht] at h2; cases h2), h2⟩
theorem k_store {gc : Nat → Nat} {d c : Nat} {h : AH} {a e0 e y ty : Nat} {m : Int32} {xs : List Nat} {wy : List Value} {q : PT} (ha : at_ h a 10 [.int m, .ref e0, .int (nI xs.length)]) (hea : at_ h e 103 (pl c xs)) (hc : xs.length < c) (hc2 : c ≤ 100000) (hy : at_ h y ty wy) (ht : asg 103 ty = true)
    (hq : q none (ah_set (ah_set h e (103, pl c (xs ++ [y]))) a (10, [.int m, .ref e0, .int (nI (xs.length + 1))]))) : TT gc d 24 q 11 [.ref a, .ref y, .ref e, .int (nI xs.length)] [] h := by
  have en : (nI xs.length).toNatClampNeg = xs.length := nI_clamp (by omega)
  refine B24_11 ⟨103, ty, _, wy, hea, hy, ht, nI_pos (by omega), by rw [en, pl_len (by omega)]; exact hc, ?_⟩
  rintro h3 rfl
  rw [en, pl_set hc]
  refine ⟨_, at_n ha (at_ne ha hea (by decide)), Nat.le_of_ble_eq_true rfl, trivial, ?_⟩
  rintro h7 rfl
  rw [nI_1]
  exact hq
theorem k_add {gc : Nat → Nat} {d : Nat} {h : AH} {a e cap y ty : Nat} {xs : List Nat} {wy : List Value} (hf : Fr h) (hL : Lst gc h a e cap xs) (hc : cap ≤ 2000) (hy : at_ h y ty wy) (ht : asg 103 ty = true) (r1 : 1 ≤ h.2.1) (r2 : 10000 ≤ h.2.2.1) :
    WP gc (d + 6) 23 [.ref a, .ref y] h (fun r h' => r = some (.int 1) ∧ LPost gc h a e cap xs.length (xs ++ [y]) h') := by
  obtain ⟨⟨m, h1⟩, h2, h3, h4, h5⟩ := hL
  have hty := asg_n0 ht
  refine M23 ⟨_, _, h1, rfl, _, h1, Nat.le_of_ble_eq_true rfl, trivial, ?_⟩
  intro hA eA
  have hA1 : at_ hA a 10 [.int (m + 1), .ref e, .int (nI xs.length)] := by rw [eA]; exact at_s
  have hAf : Fr hA := by rw [eA]; exact hf.set h1 (by decide)
  have hAy : at_ hA y ty wy := by rw [eA]; exact at_n hy (at_ne hy h1 hty.2.1)
  have hAe : El hA xs := by rw [eA]; exact h5.set h1 rfl
  have hAc : Chg h hA (fun b => b = a ∨ (b = e ∧ 0 < cap)) := by rw [eA]; exact Chg.set hf h1 (by decide) (Or.inl rfl)
  have t1 : hA.1 = h.1 ∧ hA.2.1 = h.2.1 ∧ hA.2.2.1 = h.2.2.1 := by rw [eA]; exact ⟨rfl, rfl, rfl⟩
  refine ⟨_, _, hA1, rfl, _, _, hA1, rfl, ⟨_, hA1⟩, fun r h' => r = none ∧ LPost gc h a e cap xs.length (xs ++ [y]) h', ?_, ?_⟩
  · have h4A : (cap = 0 ∧ e = gc 1 ∧ at_ hA e 201 []) ∨ (0 < cap ∧ at_ hA e 103 (pl cap xs)) := by
      rcases h4 with ⟨g1, g2, g3⟩ | ⟨g1, g3⟩
      · exact Or.inl ⟨g1, g2, by rw [eA]; exact at_n g3 (at_ne g3 h1 (by decide))⟩
      · exact Or.inr ⟨g1, by rw [eA]; exact at_n g3 (at_ne g3 h1 (by decide))⟩
    -- the array is full: it grows
    have grow : xs.length = cap → (∃ vs6 : List Value, at_ hA a 10 vs6) ∧ ∃ Q3 : PT, WP gc (d + 4) 25 [.ref a] hA Q3 ∧ ∀ (r4 : Option Value) (h5 : AH), Q3 r4 h5 → ∃ b7 : Nat, r4 = some (.ref b7) ∧ TT gc (d + 4) 24 (fun r h' => r = none ∧ LPost gc h a e cap xs.length (xs ++ [y]) h') 11 [.ref a, .ref y, .ref b7, .int (nI xs.length)] [] h5 := by
      intro hfull
      have hA1' := hA1
      rw [hfull] at hA1'
      refine ⟨⟨_, hA1⟩, _, k_grow hAf hA1' hfull (by omega) h4A hAe (by omega) (by omega), ?_⟩
      rintro r hB ⟨rfl, b1, b2, b3, b4, b5, b6⟩
      rw [← hfull] at b1
      have hg : cap < gr cap ∧ gr cap ≤ 4000 ∧ gr cap ≤ hA.2.2.1 := by
        unfold gr
        split <;> (try split) <;> omega
      have hBy : at_ hB y ty wy := b3.at hAf hAy hty.1 (at_ne hy h1 hty.2.1)
      have hBe : El hB xs := El.chg hAf b3 (fun b t ws z hb => by subst z; obtain ⟨e1, -⟩ := at_eq hb hA1; rw [e1]; rfl) hAe
      refine ⟨_, rfl, k_store b1 b2 (by omega) (by omega) hBy ht ⟨rfl, hA.1, gr cap, ⟨⟨m + 1, ?_⟩, ?_, by omega, Or.inr ⟨by omega, at_n at_s (Ne.symm (at_ne b1 b2 (by decide)))⟩, ?_⟩, ?_, ?_⟩⟩
      · rw [List.length_append]
        exact at_s
      · rw [List.length_append]
        show xs.length + 1 ≤ _
        omega
      · exact ((hBe.one hBy ht).set b2 rfl).set (at_n b1 (at_ne b1 b2 (by decide))) rfl
      · have c1 : Chg h hB (fun b => b = a ∨ (b = e ∧ 0 < cap)) := hAc.trans (b3.mono (fun b _ z => Or.inl z))
        have hnew : ¬ (hA.1 < h.1) := by omega
        refine ⟨c1.1, (c1.2.1.set b2 (by decide)).set (at_n b1 (at_ne b1 b2 (by decide))) (by decide), fun b hb hs => ?_⟩
        show ah_up (ah_up hB.2.2.2 hA.1 _) a _ b = _
        unfold ah_up
        rw [if_neg (show ¬ b = a from fun z => hs (Or.inl z)), if_neg (show ¬ b = hA.1 by omega)]
        exact c1.2.2 b hb hs
      · exact Or.inr ⟨t1.1, rfl, hfull.symm, by show hB.1 = _; omega, by show hB.2.1 + 1 = _; omega, by show hB.2.2.1 + _ = _; omega⟩
    rcases h4A with ⟨g1, g2, g3⟩ | ⟨g1, g3⟩
    · refine M24 ⟨201, [], g3, Or.inr (Or.inr ⟨rfl, g2, rfl⟩), fun z => ?_, fun _ => grow (by omega)⟩
      exfalso
      apply z
      rw [show xs.length = 0 by omega]
      rfl
    · have hlen : (pl cap xs).length = cap := pl_len h2
      refine M24 ⟨103, _, g3, Or.inl ⟨by decide, by decide⟩, fun z => ?_, fun z => ?_⟩
      · rw [hlen] at z
        have hlt : xs.length < cap := by
          apply Nat.lt_of_le_of_ne h2
          intro z2
          apply z
          rw [z2]
          rfl
        refine k_store hA1 g3 hlt (by omega) hAy ht ⟨rfl, e, cap, ⟨⟨m + 1, ?_⟩, ?_, h3, Or.inr ⟨g1, at_n at_s (Ne.symm (at_ne hA1 g3 (by decide)))⟩, ?_⟩, ?_, Or.inl ⟨rfl, rfl, t1.1, t1.2.1, t1.2.2⟩⟩
        · rw [List.length_append]
          exact at_s
        · rw [List.length_append]
          exact hlt
        · exact ((hAe.one hAy ht).set g3 rfl).set (at_n hA1 (at_ne hA1 g3 (by decide))) rfl
        · have c2 : Chg hA (ah_set hA e (103, pl cap (xs ++ [y]))) (fun b => b = a ∨ (b = e ∧ 0 < cap)) := Chg.set hAf g3 (by decide) (Or.inr ⟨rfl, g1⟩)
          exact (hAc.trans c2).trans (Chg.set c2.2.1 (at_n hA1 (at_ne hA1 g3 (by decide))) (by decide) (Or.inl rfl))
      · rw [hlen] at z
        exact grow ((nI_eq (by omega) (by omega)).mp z)
  · rintro r h' ⟨rfl, hq⟩
    exact ⟨rfl, Or.inr rfl, rfl, hq⟩
