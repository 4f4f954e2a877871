/-! deliver, publish, settle keep what holds -/
theorem sum_h {v : Mu} {c : Nat} {l : List Rec} {g : List Rec → Nat} (hc : c < 4) : sumTo (fun j => g (uC (upC v (14 + c) l) (14 + j))) 4 + g (uC v (14 + c)) = sumTo (fun j => g (uC v (14 + j))) 4 + g l := sum_up (f := v.2.1) (g := g) (o := 14) (i := c) (n := 4) (l := l) hc
theorem LB.tl {v : Mu} {b q : Nat} {r : Rec} {W : List Rec} (h : LB v b) (hq6 : q < 6) (hw : uC v (2 + q) = r :: W) : 1 ≤ b ∧ LB (upC v (2 + q) W) (b - 1) ∧ W.length + hq v q ≤ 59 := by
  have h1 := h.2.1 q hq6
  have h2 := h.l hq6
  rw [hw, List.length_cons] at h1 h2
  refine ⟨by omega, h.upW1 hq6 (by omega) ?_, by omega⟩
  rw [hw, List.length_cons]
  omega
theorem LB.addH {v : Mu} {b q c : Nat} {r : Rec} (h : LB v b) (hq6 : q < 6) (hc : c < 4) (h1 : (uC v (14 + c)).length ≤ 11) (h2 : (uC v (2 + q)).length + hq v q ≤ 59) (hr : rQ r = nI q) : LB (upC v (14 + c) (uC v (14 + c) ++ [r])) (b + 1) := by
  have ew : ∀ k, k < 8 → uC (upC v (14 + c) (uC v (14 + c) ++ [r])) k = uC v k := fun k hk => uC_n (by omega)
  have e1 : ∀ p, hq (upC v (14 + c) (uC v (14 + c) ++ [r])) p = hq v p + (if pq p r then 1 else 0) := fun p => by
    have g := sum_h (v := v) (l := uC v (14 + c) ++ [r]) (g := fun l => l.countP (pq p)) hc
    rw [List.countP_append, List.countP_cons, List.countP_nil] at g
    show sumTo (fun j => (uC (upC v (14 + c) (uC v (14 + c) ++ [r])) (14 + j)).countP (pq p)) 4 = sumTo (fun j => (uC v (14 + j)).countP (pq p)) 4 + _
    omega
  have e2 : sh (upC v (14 + c) (uC v (14 + c) ++ [r])) = sh v + 1 := by
    have g := sum_h (v := v) (l := uC v (14 + c) ++ [r]) (g := List.length) hc
    rw [List.length_append, List.length_singleton] at g
    show sumTo (fun j => (uC (upC v (14 + c) (uC v (14 + c) ++ [r])) (14 + j)).length) 4 = sumTo (fun j => (uC v (14 + j)).length) 4 + 1
    omega
  have e3 : sw (upC v (14 + c) (uC v (14 + c) ++ [r])) = sw v := sumTo_cg 6 (fun q hq6 => by rw [ew (2 + q) (by omega)])
  refine ⟨fun i hi => ?_, fun p hp => ?_, ?_⟩
  · by_cases hz : 14 + i = 14 + c
    · rw [hz, uC_s, List.length_append, List.length_singleton]; omega
    · rw [uC_n hz]; exact h.1 i hi
  · rw [ew (2 + p) (by omega), e1]
    by_cases hz : p = q
    · subst hz
      split <;> omega
    · rw [if_neg]
      · exact h.2.1 p hp
      · intro w
        have w := of_decide_eq_true w
        rw [hr] at w
        exact hz ((nI_eq (by omega) (by omega)).mp w).symm
  · rw [ew 1 (by omega), e2, e3]
    have := h.2.2
    omega
theorem ix_get {α : Type} {p : α → Bool} : ∀ {l : List α} {x : α}, l[ix p l]? = some x → p x = true ∧ x ∈ l := by
  intro l
  induction l with
  | nil => intro x h; cases h
  | cons y l ih =>
    intro x h
    unfold ix at h
    split at h
    · rename_i hp
      cases h
      exact ⟨hp, List.mem_cons_self⟩
    · obtain ⟨h1, h2⟩ := ih h
      exact ⟨h1, List.mem_cons_of_mem _ h2⟩
theorem er_app_perm {α : Type} {l : List α} {j : Nat} {x : α} (h : l[j]? = some x) : (l.eraseIdx j ++ [x]).Perm l := by
  obtain ⟨w1, w2⟩ := List.getElem?_eq_some_iff.mp h
  have := er_perm w1
  rw [w2] at this
  exact (List.perm_append_singleton _ _).trans this
theorem v_dl {P T : Nat} {s : St} {x : Int32} (h : IV P T s) (hT : T + 1 < 2 ^ 31) : IV P (T + 1) ((opDl s.1 s.2 x).2.1, (opDl s.1 s.2 x).2.2) := by
  by_cases hx : isQu s.1 x = true
  rotate_left
  · have ho : opDl s.1 s.2 x = (-1, s.1, s.2) := by
      unfold opDl
      rw [if_neg hx]
    rw [ho]
    exact h.mono (Nat.le_refl _) (by omega)
  obtain ⟨q, hq6, rfl, hd⟩ := isQu_dec hx
  have hcl : (nI q).toNatClampNeg = q := nI_clamp (by omega)
  cases hW : uC s.2 (2 + q) with
  | nil =>
    have ho : opDl s.1 s.2 (nI q) = (-5, s.1, s.2) := by
      unfold opDl
      rw [if_pos hx, hcl, hW]
    rw [ho]
    exact h.mono (Nat.le_refl _) (by omega)
  | cons r W =>
    cases hg : (uR s.2 (8 + q))[ix (able s.1 s.2) (uR s.2 (8 + q))]? with
    | none =>
      have ho : opDl s.1 s.2 (nI q) = (-6, s.1, s.2) := by
        unfold opDl
        rw [if_pos hx, hcl, hW, hg]
      rw [ho]
      exact h.mono (Nat.le_refl _) (by omega)
    | some cn =>
      obtain ⟨hab, hmem⟩ := ix_get hg
      obtain ⟨w1, w2, w3⟩ := h.2.2.1 q hq6
      obtain ⟨c, hc, hcn⟩ := w1 cn hmem
      have hcc : cn.1.toNatClampNeg = c := by rw [hcn]; exact nI_clamp (by omega)
      have hpm := er_app_perm hg
      have h1 : IV P T (s.1, upR s.2 (8 + q) ((uR s.2 (8 + q)).eraseIdx (ix (able s.1 s.2) (uR s.2 (8 + q))) ++ [cn])) := h.R (fun y hy => w1 y (hpm.mem_iff.mp hy)) (fun c' hc' => by rw [hpm.countP_eq]; exact w2 c' hc') (fun _ z => absurd z hd)
      obtain ⟨a1, a2, a3, a4, a5, a6⟩ := h1
      have a10 := a1
      obtain ⟨-, -, g3, g4, g5, g6, -⟩ := a1
      generalize hv1 : upR s.2 (8 + q) ((uR s.2 (8 + q)).eraseIdx (ix (able s.1 s.2) (uR s.2 (8 + q))) ++ [cn]) = v1 at a10 a2 a3 a4 g3 g4 g5 g6
      have hC : ∀ k, uC v1 k = uC s.2 k := fun k => by rw [← hv1]; rfl
      have hW1 : uC v1 (2 + q) = r :: W := by rw [hC]; exact hW
      obtain ⟨b1, b2, b3⟩ := g4.tl hq6 hW1
      have hrq : rQ r = nI q := g3.2 q hq6 r (by show r ∈ uC v1 (2 + q); rw [hW1]; exact List.mem_cons_self)
      have hrk : rOK s.1 r := g6 (2 + q) (isC_q hq6) r (by show r ∈ uC v1 (2 + q); rw [hW1]; exact List.mem_cons_self)
      have hpl : (rP r :: (flat (upC v1 (2 + q) W)).map cP).Perm ((flat v1).map cP) := by
        have := pl_up (v := v1) (k := 2 + q) (l := W) (a := [rP r]) (b := []) (isP_q hq6) (by
          rw [hW1, List.append_nil, List.map_cons]
          exact List.perm_append_singleton _ _)
        rw [List.append_nil] at this
        exact (List.perm_append_singleton _ _).symm.trans this
      have hfp := g5.2.2.perm hpl.symm
      have m2 : MI P 359 (s.1, upC v1 (2 + q) W) := by
        refine a10.cp rfl (g3.up (fun y hy => g3.1 (2 + q) (isC_q hq6) y (by show y ∈ uC v1 (2 + q); rw [hW1]; exact List.mem_cons_of_mem _ hy)) (fun p hp e y hy => ?_)) b2 (g5.W (fun p hp e => ?_) (fun c' hc' e => by omega) (hfp.sub (List.sublist_cons_self _ _))) (g6.up (fun y hy => g6 (2 + q) (isC_q hq6) y (by show y ∈ uC v1 (2 + q); rw [hW1]; exact List.mem_cons_of_mem _ hy)))
        · obtain rfl : q = p := by omega
          exact g3.2 q hq6 y (by show y ∈ uC v1 (2 + q); rw [hW1]; exact List.mem_cons_of_mem _ hy)
        · obtain rfl : q = p := by omega
          have := g5.1 q hq6
          have this : Srt kP (uC v1 (2 + q)) := this
          rw [hW1] at this
          exact (List.pairwise_cons.mp this).2
      by_cases hau : cn.2 = true
      · have ho : opDl s.1 s.2 (nI q) = (cn.1, s.1, upC v1 (2 + q) W) := by
          unfold opDl
          rw [if_pos hx, hcl, hW]
          dsimp only
          rw [hg]
          dsimp only
          rw [if_pos hau, hv1]
        rw [ho]
        refine IV.mono ⟨m2.mono (Nat.le_refl _) (by omega), ?_, a3, fun c' hc' => ?_, a5, a6⟩ (Nat.le_refl _) (Nat.le_succ _)
        · show uC (upC v1 (2 + q) W) 1 = []
          rw [uC_n (by omega)]; exact a2
        · obtain ⟨u1, u2, u3, u4⟩ := a4 c' hc'
          refine ⟨u1, u2, fun y hy => u3 y ?_, u4⟩
          have hy : y ∈ uC (upC v1 (2 + q) W) (14 + c') := hy
          rw [uC_n (by omega)] at hy
          exact hy
      · obtain ⟨t, ht1, ht2⟩ := a6 c hc
        have ht2 : s.1 (302 + 10 * c) = nI t := ht2
        have hc0 : uC (upC v1 (2 + q) W) (14 + c) = uC s.2 (14 + c) := by rw [uC_n (by omega), hC]
        have ho : opDl s.1 s.2 (nI q) = (cn.1, upd s.1 (302 + 10 * c) (s.1 (302 + 10 * c) + 1), upC (upC v1 (2 + q) W) (14 + c) (uC (upC v1 (2 + q) W) (14 + c) ++ [rHold r (s.1 (302 + 10 * c) + 1)])) := by
          unfold opDl
          rw [if_pos hx, hcl, hW]
          dsimp only
          rw [hg]
          dsimp only
          rw [if_neg hau, hcc, hv1, hc0]
        rw [ho]
        have hlen : (uC (upC v1 (2 + q) W) (14 + c)).length ≤ 11 := by
          obtain ⟨p, hp1, hp2⟩ := a5 c hc
          have hp2 : s.1 (300 + 10 * c) = nI p := hp2
          rw [hc0]
          unfold able at hab
          rw [hcc, hp2, Bool.or_eq_true, decide_eq_true_eq] at hab
          rcases hab with z | z
          · exact absurd z hau
          · apply Nat.le_of_not_lt
            intro w
            exact z (nI_le (by omega) (by have := h.1.2.2.2.1.1 c hc; omega))
        have et : s.1 (302 + 10 * c) + 1 = nI (t + 1) := by rw [ht2, nI_1]
        have m20 := m2
        obtain ⟨n1, n2, n3, n4, n5, n6, n7, p, n8, n9⟩ := m2
        have hqq : hq (upC v1 (2 + q) W) q = hq v1 q := sumTo_cg 4 (fun i hi => by rw [uC_n (by omega)])
        have mm : MI P 360 (upd s.1 (302 + 10 * c) (s.1 (302 + 10 * c) + 1), upC (upC v1 (2 + q) W) (14 + c) (uC (upC v1 (2 + q) W) (14 + c) ++ [rHold r (s.1 (302 + 10 * c) + 1)])) := by
          have en : ∀ j, j ≠ 302 + 10 * c → upd s.1 (302 + 10 * c) (s.1 (302 + 10 * c) + 1) j = s.1 j := fun j hj => pk_un hj
          refine ⟨fun p hp => ?_, fun e he hz => ?_, n3.up (fun y hy => ?_) (fun p hp e => by omega), ?_, ⟨fun p hp => ?_, fun c' hc' => ?_, ?_⟩, fun k hk y hy => ?_, ⟨n7.1, fun y hy => ?_⟩, p, n8, ?_⟩
          · show ∃ l, upd _ _ _ _ = _ ∧ _
            rw [en _ (by omega)]; exact n1 p hp
          · have hz : ¬ upd _ _ _ _ = 0 := hz
            show ∃ l, _ ∧ upd _ _ _ _ = _
            rw [en _ (by omega)] at hz ⊢
            exact n2 e he hz
          · rcases List.mem_append.mp hy with hy | hy
            · exact n3.1 (14 + c) (isC_c hc) y hy
            · rw [List.mem_singleton.mp hy]
              exact ⟨q, hq6, hrq⟩
          · have g4 := n4.addH (r := rHold r (s.1 (302 + 10 * c) + 1)) hq6 hc hlen (by
              show (uC (upC v1 (2 + q) W) (2 + q)).length + hq (upC v1 (2 + q) W) q ≤ 59
              rw [hqq, uC_s]; exact b3) hrq
            exact g4
          · show Srt kP (uC (upC _ (14 + c) _) (2 + p))
            rw [uC_n (by omega)]; exact n5.1 p hp
          · show Srt kT (uC (upC _ (14 + c) _) (14 + c')) ∧ ∀ y, y ∈ uC (upC _ (14 + c) _) (14 + c') → 0 < kT y ∧ kT y ≤ (upd _ _ _ (302 + 10 * c')).toInt
            by_cases hz : c' = c
            · subst hz
              rw [uC_s, pk_us, et]
              obtain ⟨u1, u2⟩ := n5.2.1 c' hc'
              have u2 : ∀ y, y ∈ uC (upC v1 (2 + q) W) (14 + c') → 0 < kT y ∧ kT y ≤ (s.1 (302 + 10 * c')).toInt := u2
              rw [ht2] at u2
              have q1 : (nI t).toInt = t := nI_ti (by omega)
              have q2 : (nI (t + 1)).toInt = (t + 1 : Nat) := nI_ti (by omega)
              have q3 : kT (rHold r (nI (t + 1))) = (t + 1 : Nat) := q2
              refine ⟨List.pairwise_append.mpr ⟨u1, List.pairwise_singleton _ _, fun y hy z hz => ?_⟩, fun y hy => ?_⟩
              · rw [List.mem_singleton.mp hz, q3]
                have := (u2 y hy).2
                omega
              · rcases List.mem_append.mp hy with hy | hy
                · have := u2 y hy
                  omega
                · rw [List.mem_singleton.mp hy, q3]
                  omega
            · rw [uC_n (by omega), en _ (by omega)]
              exact n5.2.1 c' hc'
          · show FP (upd _ _ _ 0).toInt _
            rw [en _ (by omega)]
            refine FP.perm hfp ?_
            have := pl_up (v := upC v1 (2 + q) W) (k := 14 + c) (l := uC (upC v1 (2 + q) W) (14 + c) ++ [rHold r (s.1 (302 + 10 * c) + 1)]) (a := []) (b := [rP r]) (isP_c hc) (by
              rw [List.append_nil, List.map_append]
              exact List.Perm.refl _)
            rw [List.append_nil] at this
            exact (this.trans (List.perm_append_singleton _ _)).symm
          · have hk2 : ∀ y, rOK s.1 y → rOK (upd s.1 (302 + 10 * c) (s.1 (302 + 10 * c) + 1)) y := fun y ⟨w1, w2, q', w3, w4, w5⟩ => ⟨w1, w2, q', w3, w4, by rw [en _ (by omega)]; exact w5⟩
            apply hk2
            have hy : y ∈ uC (upC (upC v1 (2 + q) W) (14 + c) _) k := hy
            by_cases hz : k = 14 + c
            · subst hz
              rw [uC_s] at hy
              rcases List.mem_append.mp hy with hy | hy
              · exact n6 (14 + c) hk y hy
              · rw [List.mem_singleton.mp hy]
                exact hrk
            · rw [uC_n hz] at hy
              exact n6 k hk y hy
          · obtain ⟨w1, ⟨e, w2, w3, w4⟩, q', w5, w6, w7⟩ := n7.2 y hy
            exact ⟨w1, ⟨e, w2, w3, by show ¬ upd _ _ _ _ = 0; rw [en _ (by omega)]; exact w4⟩, q', w5, w6, by show ¬ upd _ _ _ _ = 0; rw [en _ (by omega)]; exact w7⟩
          · show upd _ _ _ 0 = _
            rw [en _ (by omega)]; exact n9
        refine ⟨mm, ?_, fun p hp => ?_, fun c' hc' => ?_, fun c' hc' => ?_, fun c' hc' => ?_⟩
        · show uC (upC (upC v1 (2 + q) W) (14 + c) _) 1 = []
          rw [uC_n (by omega), uC_n (by omega)]; exact a2
        · obtain ⟨u1, u2, u3⟩ := a3 p hp
          refine ⟨u1, u2, fun z => u3 ?_⟩
          have z : upd _ _ _ _ = 0 := z
          rw [pk_un (by omega)] at z
          exact z
        · obtain ⟨u1, u2, u3, u4⟩ := a4 c' hc'
          refine ⟨u1, fun z => u2 ?_, fun y hy => ?_, u4⟩
          · have z : upd _ _ _ _ = 0 := z
            rw [pk_un (by omega)] at z
            exact z
          · have hy : y ∈ uC (upC (upC v1 (2 + q) W) (14 + c) _) (14 + c') := hy
            by_cases hz : c' = c
            · subst hz
              rw [uC_s] at hy
              rcases List.mem_append.mp hy with hy | hy
              · rw [uC_n (by omega)] at hy
                exact u3 y hy
              · rw [List.mem_singleton.mp hy]
                exact Or.inl rfl
            · rw [uC_n (by omega), uC_n (by omega)] at hy
              exact u3 y hy
        · show ∃ p, _ ∧ upd _ _ _ _ = _
          rw [pk_un (by omega)]; exact a5 c' hc'
        · show ∃ p, _ ∧ upd _ _ _ _ = _
          by_cases hz : c' = c
          · subst hz
            exact ⟨t + 1, by omega, by rw [pk_us, et]⟩
          · rw [pk_un (by omega)]
            obtain ⟨t', w1, w2⟩ := a6 c' hc'
            exact ⟨t', by omega, w2⟩
