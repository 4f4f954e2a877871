/-! the reference: deliver, settling -/
theorem cp_set {X Y : XT} {n i : Nat} (hi : i < n) (h : ∀ j, j ≠ i → cpA Y j = cpA X j) : ∃ E : List Cp, (cpL X n).Perm (cpA X i :: E) ∧ (cpL Y n).Perm (cpA Y i :: E) := by
  have hl : i < (cpL X n).length := by rw [cpL_len]; exact hi
  have e1 : cpL Y n = (cpL X n).set i (cpA Y i) := by
    apply List.ext_getElem?
    intro j
    rw [List.getElem?_set]
    by_cases hj : j < n
    · rw [cpL_get hj]
      by_cases hij : i = j
      · subst hij
        rw [if_pos rfl, if_pos hl]
      · rw [if_neg hij, cpL_get hj, h j (Ne.symm hij)]
    · rw [List.getElem?_eq_none (l := cpL Y n) (by rw [cpL_len]; omega), if_neg (by omega), List.getElem?_eq_none (by rw [cpL_len]; omega)]
  have e2 : (cpL X n)[i] = cpA X i := (List.getElem_eq_iff _).mpr (cpL_get hi)
  refine ⟨(cpL X n).eraseIdx i, ?_, ?_⟩
  · have := (er_perm hl).symm
    rw [e2] at this
    exact this
  · rw [e1]
    exact set_perm hl
/-- a copy goes from one list to another -/
theorem sP.mv {X Y : XT} {v : Mu} {k k' j i : Nat} {r' : Rec} {l' : List Rec} (h : sP X v) (hk : isP k = true) (hk' : isP k' = true) (hj : j < (uC v k).length) (hl : l'.Perm (r' :: uC (upC v k ((uC v k).eraseIdx j)) k')) (hi : i < (flat v).length) (he : cpA X i = mp k (uC v k)[j]) (he' : cpA Y i = mp k' r') (ho : ∀ j, j ≠ i → cpA Y j = cpA X j) (h31 : Y 31 0 = X 31 0) : sP Y (upC (upC v k ((uC v k).eraseIdx j)) k' l') := by
  have p1 := flat_er hk hj
  have p2 := flat_add (v := upC v k ((uC v k).eraseIdx j)) hk' hl
  have hl1 : (flat (upC (upC v k ((uC v k).eraseIdx j)) k' l')).length = (flat v).length := by
    have q1 := p1.length_eq
    have q2 := p2.length_eq
    rw [List.length_cons] at q1 q2
    omega
  unfold sP
  rw [hl1]
  refine ⟨h31.trans h.1, ?_⟩
  obtain ⟨E, e1, e2⟩ := cp_set hi ho
  have p3 := e1.symm.trans h.2
  rw [he] at p3
  have p4 := (p3.trans p1.symm).cons_inv
  rw [he'] at e2
  exact (e2.trans (p4.cons _)).trans p2.symm
def abR (I : Nat → Int32) (v : Mu) (x : Cn) : Bool := decide (¬ x.2.2 = 0) || decide (nI (uC v (14 + x.2.1.toNatClampNeg)).length < I (300 + 10 * x.2.1.toNatClampNeg))
theorem abR_eq {I : Nat → Int32} {v : Mu} {w : Nat} {c : Con} : abR I v (cnM w c) = able I v c := by
  unfold abR able
  congr 1
  · show decide (¬ b2i c.2 = 0) = c.2
    cases c.2 <;> rfl
  · exact decide_eq_decide.mpr n_le_lt.symm
theorem cnL_get {X : XT} {n i : Nat} (h : i < n) : (cnL X n)[i]? = some (cnA X i) := by
  unfold cnL
  rw [List.getElem?_map, List.getElem?_range h]
  rfl
theorem dl_loop {gc : Nat → Nat} {m : Nat} {M : Nat → Nat} {d : Nat} {X : XT} {q : QT} {n w : Nat} {s : St} {x2 : Int32} (hN : sN X n s.2) (hn2 : n ≤ 25) (hD : sD X s.1 s.2) (hP : sP X s.2) (hlen : (flat s.2).length ≤ 400) (hri : RI s.1 s.2) (hw : w < 6) : ∀ l i v4 v5, i + l = n → (∀ j, fF (fun i => cnQ w (cnA X i) && abR s.1 s.2 (cnA X i)) l i = some j → TM gc m M (d + 1) 124 q 84 [.ref m, .int (nI w), .int x2, .int (nI j), .int (X 10 j), .int (X 11 j)] [] X) → (fF (fun i => cnQ w (cnA X i) && abR s.1 s.2 (cnA X i)) l i = none → q (some (.int (-6))) X) → TM gc m M (d + 1) 124 q 26 [.ref m, .int (nI w), .int x2, .int (nI i), v4, v5] [] X := by
  intro l
  induction l with
  | zero =>
    intro i v4 v5 hi h1 h2
    exact N124_26 ⟨fun _ => N124_152 (h2 rfl), fun z => absurd (by rw [hN.1]; exact nI_le (by omega) (by omega)) z⟩
  | succ l ih =>
    intro i v4 v5 hi h1 h2
    have hcl : (nI i).toNatClampNeg = i := nI_clamp (by omega)
    have hu : fF (fun i => cnQ w (cnA X i) && abR s.1 s.2 (cnA X i)) (l + 1) i = if (cnQ w (cnA X i) && abR s.1 s.2 (cnA X i)) then some i else fF (fun i => cnQ w (cnA X i) && abR s.1 s.2 (cnA X i)) l (i + 1) := rfl
    rw [hu] at h1 h2
    have no : (cnQ w (cnA X i) && abR s.1 s.2 (cnA X i)) = false → TM gc m M (d + 1) 124 q 146 [.ref m, .int (nI w), .int x2, .int (nI i), .int (X 10 i), .int (X 11 i)] [] X := fun hb => by
      rw [hb, if_neg (by decide)] at h1 h2
      refine N124_146 ?_
      rw [nI_1]
      exact ih (i + 1) _ _ (by omega) h1 h2
    have yes : (cnQ w (cnA X i) && abR s.1 s.2 (cnA X i)) = true → TM gc m M (d + 1) 124 q 84 [.ref m, .int (nI w), .int x2, .int (nI i), .int (X 10 i), .int (X 11 i)] [] X := fun hb => by
      rw [hb, if_pos rfl] at h1
      exact h1 i rfl
    refine N124_26 ⟨fun z => absurd z (by rw [hN.1]; exact nI_ge (by omega) (by omega)), fun _ => ⟨nI_pos (by omega), by omega, nI_pos (by omega), by omega, nI_pos (by omega), by omega, ?_⟩⟩
    rw [hcl]
    refine ⟨fun z => no (by rw [show cnQ w (cnA X i) = false from decide_eq_false z, Bool.false_and]), fun z => ⟨fun z2 => yes ?_, fun z2 => ?_⟩⟩
    · rw [show cnQ w (cnA X i) = true from decide_eq_true z, Bool.true_and]
      unfold abR
      rw [decide_eq_true (show ¬ (cnA X i).2.2 = 0 from z2), Bool.true_or]
    · have hq : cnQ w (cnA X i) = true := decide_eq_true z
      have hmem : cnA X i ∈ (cnL X n).filter (cnQ w) := List.mem_filter.mpr ⟨List.mem_map.mpr ⟨i, List.mem_range.mpr (by omega), rfl⟩, hq⟩
      rw [hN.2.2 w hw] at hmem
      obtain ⟨cn, hcn, hce⟩ := List.mem_map.mp hmem
      obtain ⟨c, hc, hcc⟩ := (hri w hw).1 cn hcn
      have h10 : X 10 i = nI c := by
        have : cn.1 = X 10 i := congrArg (fun z => z.2.1) hce
        rw [← this, hcc]
      have hclc : (nI c).toNatClampNeg = c := nI_clamp (by omega)
      have hsel : cF (fun i => hdC c (cpA X i)) (flat s.2).length 0 = (uC s.2 (14 + c)).length := sel_cnt hP.2 (sel_c hc)
      rw [h10] at no yes ⊢
      refine ⟨_, n_heldCount (c := c) hP.1 hlen, ?_⟩
      rintro r X3 ⟨rfl, rfl⟩
      refine ⟨_, rfl, nI_pos (by omega), by rw [hclc]; exact hc, ?_⟩
      rw [hclc, hsel, (hD c hc).1]
      have hab : abR s.1 s.2 (cnA X3 i) = decide (nI (uC s.2 (14 + c)).length < s.1 (300 + 10 * c)) := by
        unfold abR
        rw [decide_eq_false (show ¬ ¬ (cnA X3 i).2.2 = 0 from fun y => y z2), Bool.false_or]
        rw [show (cnA X3 i).2.1 = nI c from h10, hclc]
      refine ⟨fun y => yes (by rw [hq, hab, decide_eq_true y]; rfl), fun y => no (by rw [hab, decide_eq_false y, Bool.and_false])⟩
theorem dl_hold {X6 Y1 Y2 Y3 : XT} {I : Nat → Int32} {v1 : Mu} {w c i : Nat} {r : Rec} {W : List Rec} (h6 : SX 0 X6 (I, v1)) (hL : uC v1 1 = []) (hw : w < 6) (hc : c < 4) (hW1 : uC v1 (2 + w) = r :: W) (hi : i < (flat v1).length) (he : cpA X6 i = wCp r) (e1 : Y1 = wr X6 14 c (I (302 + 10 * c) + 1)) (e2 : Y2 = wr Y1 26 i (nI c)) (e3 : Y3 = wr Y2 27 i (I (302 + 10 * c) + 1)) : SX 0 Y3 (upd I (302 + 10 * c) (I (302 + 10 * c) + 1), upC (upC v1 (2 + w) W) (14 + c) (uC (upC v1 (2 + w) W) (14 + c) ++ [rHold r (I (302 + 10 * c) + 1)])) := by
  have hd6 := h6.2.2.2.2.1 c hc
  have hj1 : 0 < (uC v1 (2 + w)).length := by rw [hW1]; exact Nat.succ_pos _
  have hE1 : (uC v1 (2 + w)).eraseIdx 0 = W := by rw [hW1]; rfl
  have h0 : (uC v1 (2 + w))[0] = r := by simp only [hW1, List.getElem_cons_zero]
  have h7 : SX 0 Y1 (upd I (302 + 10 * c) (I (302 + 10 * c) + 1), v1) := by
    rw [e1]
    refine SX.dI (J := upd I (302 + 10 * c) (I (302 + 10 * c) + 1)) (v := v1) h6 hL rfl rfl rfl ((Ag.refl _ _).wr (pD_t (by omega))) (h6.2.2.2.2.1.w hc (Or.inr (Or.inl rfl)) (Or.inr trivial) (fun c' hc' hz j hj => ?_) ?_ ?_ ?_) (fun j hj => pk_un (by omega))
    · rw [pk_un (by omega)]
    · rw [wr_k (by decide), pk_un (by omega)]; exact hd6.1
    · rw [wr_s, pk_us]
    · rw [wr_k (by decide), pk_un (by omega)]; exact hd6.2.2.1
  have c1 : ∀ j, cpA Y1 j = cpA X6 j := fun j => cpA_cg (fun k w1 w2 => by rw [e1]; exact wr_k (by omega))
  have hcO : ∀ j, j ≠ i → cpA Y3 j = cpA Y1 j := fun j hj => cpA_cg (fun k w1 w2 => by rw [e3, wr_i hj, e2, wr_i hj])
  have hx1 : cpA Y1 i = wCp r := by rw [c1, he]
  have hcN : cpA Y3 i = mp (14 + c) (rHold r (I (302 + 10 * c) + 1)) := by
    rw [mp_c]
    have hfld : ∀ k, 21 ≤ k → k ≤ 30 → k ≠ 26 → k ≠ 27 → Y3 k i = Y1 k i := fun k w1 w2 w3 w4 => by rw [e3, wr_k (by omega), e2, wr_k (by omega)]
    have h26 : Y3 26 i = nI c := by rw [e3, wr_k (by decide), e2, wr_s]
    have h27 : Y3 27 i = I (302 + 10 * c) + 1 := by rw [e3, wr_s]
    unfold cpA
    rw [hfld 21 (by decide) (by decide) (by decide) (by decide), hfld 22 (by decide) (by decide) (by decide) (by decide), hfld 23 (by decide) (by decide) (by decide) (by decide), hfld 24 (by decide) (by decide) (by decide) (by decide), hfld 25 (by decide) (by decide) (by decide) (by decide), h26, h27, hfld 28 (by decide) (by decide) (by decide) (by decide), hfld 29 (by decide) (by decide) (by decide) (by decide), hfld 30 (by decide) (by decide) (by decide) (by decide)]
    have g21 : Y1 21 i = (rM r).1 := congrArg (fun z : Cp => z.1) hx1
    have g22 : Y1 22 i = mKey (rM r) := congrArg (fun z : Cp => z.2.1) hx1
    have g23 : Y1 23 i = mHops (rM r) := congrArg (fun z : Cp => z.2.2.1) hx1
    have g24 : Y1 24 i = rQ r := congrArg (fun z : Cp => z.2.2.2.1) hx1
    have g25 : Y1 25 i = rP r := congrArg (fun z : Cp => z.2.2.2.2.1) hx1
    have g28 : Y1 28 i = 0 := congrArg (fun z : Cp => z.2.2.2.2.2.2.2.1) hx1
    have g29 : Y1 29 i = b2i (mPers (rM r)) := congrArg (fun z : Cp => z.2.2.2.2.2.2.2.2.1) hx1
    have g30 : Y1 30 i = b2i (rRet r) := congrArg (fun z : Cp => z.2.2.2.2.2.2.2.2.2) hx1
    rw [g21, g22, g23, g24, g25, g28, g29, g30]
    unfold hCp
    rw [show rD (rHold r (I (302 + 10 * c) + 1)) + 1 = 0 from (by decide : (-1 : Int32) + 1 = 0)]
    rfl
  have hp7 : sP Y1 v1 := h7.2.2.2.2.2.1
  have hl7 : sL Y1 (upd I (302 + 10 * c) (I (302 + 10 * c) + 1)) v1 := h7.2.2.2.2.2.2.2.1
  have hmv := hp7.mv (Y := Y3) (k := 2 + w) (k' := 14 + c) (j := 0) (i := i) (r' := rHold r (I (302 + 10 * c) + 1)) (l' := uC (upC v1 (2 + w) W) (14 + c) ++ [rHold r (I (302 + 10 * c) + 1)]) (isP_q hw) (isP_c hc) hj1 (by
    rw [hE1]
    exact List.perm_append_singleton _ _) hi (by rw [hx1, h0, mp_q hw]) hcN hcO (by rw [e3, wr_k (by decide), e2, wr_k (by decide)])
  rw [hE1] at hmv
  refine SX.pI (v := upC (upC v1 (2 + w) W) (14 + c) (uC (upC v1 (2 + w) W) (14 + c) ++ [rHold r (I (302 + 10 * c) + 1)])) (Y := Y3) h7 rfl rfl (by rw [e3, e2]; exact ((Ag.refl _ _).wr rfl).wr rfl) hmv ?_
  have hL1 : uC (upC (upC v1 (2 + w) W) (14 + c) (uC (upC v1 (2 + w) W) (14 + c) ++ [rHold r (I (302 + 10 * c) + 1)])) 1 = uC v1 1 := by rw [uC_n (by omega), uC_n (by omega)]
  have ka : ∀ k, 33 ≤ k → Y3 k = Y1 k := fun k hk => by
    rw [e3, e2]
    exact funext (fun j => by rw [wr_k (by omega), wr_k (by omega)])
  unfold sL ltS at hl7 ⊢
  rw [hL1, ka 33 (by decide), ka 34 (by decide), ka 35 (by decide), ka 36 (by decide), ka 37 (by decide), ka 38 (by decide)]
  exact hl7
theorem dl_auto {X6 X7 : XT} {I : Nat → Int32} {v1 : Mu} {w i nn : Nat} {r : Rec} {W : List Rec} (h6 : SX 0 X6 (I, v1)) (hw : w < 6) (hW1 : uC v1 (2 + w) = r :: W) (hnn : (flat v1).length = nn + 1) (hi : i ≤ nn) (he : cpA X6 i = wCp r) (p1 : Ag pP X6 X7) (p2 : X7 31 0 = nI nn) (p3 : ∀ j, cpA X7 j = if j = i then cpA X6 nn else cpA X6 j) : SX 0 X7 (I, upC v1 (2 + w) W) := by
  have hj1 : 0 < (uC v1 (2 + w)).length := by rw [hW1]; exact Nat.succ_pos _
  have hE1 : (uC v1 (2 + w)).eraseIdx 0 = W := by rw [hW1]; rfl
  have h0 : (uC v1 (2 + w))[0] = r := by simp only [hW1, List.getElem_cons_zero]
  have hp6 : sP X6 v1 := h6.2.2.2.2.2.1
  have hl6 : sL X6 I v1 := h6.2.2.2.2.2.2.2.1
  have hsp := hp6.er (Y := X7) (isP_q hw) hj1 hnn hi (by rw [he, h0, mp_q hw]) p2 p3
  rw [hE1] at hsp
  refine SX.pI (v := upC v1 (2 + w) W) h6 rfl rfl (p1.mono pP_pL) hsp ?_
  have h8 := hl6.ag p1 (fun k _ _ => pP_f (by omega))
  unfold sL at h8 ⊢
  rw [uC_n (by omega)]
  exact h8
theorem n_deliver {gc : Nat → Nat} {m : Nat} {M : Nat → Nat} {d : Nat} {X : XT} {s : St} {P T : Nat} {x : Int32} (h : SX 0 X s) (hv : IV P T s) (hT : T + 1 < 2 ^ 31) : WM gc m M (d + 3) 124 [.ref m, .int x] X (fun r X' => r = some (.int (opDl s.1 s.2 x).1) ∧ SX 0 X' ((opDl s.1 s.2 x).2.1, (opDl s.1 s.2 x).2.2)) := by
  refine N124 ⟨_, n_isQ h.2.1 hv.1.1, ?_⟩
  rintro r X3 ⟨rfl, rfl⟩
  refine ⟨_, rfl, fun z => N124_10 ?_, fun z => ?_⟩
  rotate_left
  · have ho : opDl s.1 s.2 x = (-1, s.1, s.2) := by
      unfold opDl
      rw [show isQu s.1 x = false from b2i_z.mp z, if_neg (by decide)]
    rw [ho]
    exact ⟨rfl, h⟩
  have hx : isQu s.1 x = true := b2i_nz z
  obtain ⟨w, hw, rfl, hd⟩ := isQu_dec hx
  have hcl : (nI w).toNatClampNeg = w := nI_clamp (by omega)
  obtain ⟨n, hN⟩ := h.2.2.2.1
  have hN : sN X3 n s.2 := hN
  have hn24 := sN_24 hN hv.2.2.1
  have hp := h.2.2.2.2.2.1
  have hall := hv.1.2.2.2.1.all hv.1.2.2.1
  have hfl := flat_len (v := s.2)
  have hcq := hv.1.2.2.1
  refine ⟨_, n_readyAt (nth := 0) hp.1 (by omega) (by decide), ?_⟩
  rintro r X4 ⟨rfl, rfl⟩
  rcases sel_at (K := cP) (κ := kP) hp.2 (sel_q hcq hw) kP_mp (hv.1.2.2.2.2.1.1 w hw) 0 with ⟨hf, hlen0⟩ | ⟨i, hj0, hf, hi, he⟩
  · refine ⟨_, rfl, fun y => ?_, fun y => ?_⟩
    · rw [hf] at y
      exact absurd y (by decide)
    · have hW : uC s.2 (2 + w) = [] := List.eq_nil_of_length_eq_zero (by omega)
      have ho : opDl s.1 s.2 (nI w) = (-5, s.1, s.2) := by
        unfold opDl
        rw [if_pos hx, hcl, hW]
      rw [ho]
      exact ⟨rfl, h⟩
  refine ⟨_, rfl, fun y => N124_24 ?_, fun y => ?_⟩
  rotate_left
  · rw [hf] at y
    exact absurd (nI_le (a := 0) (by omega) (by omega)) y
  rw [hf]
  cases hW : uC s.2 (2 + w) with
  | nil => rw [hW] at hj0; exact absurd hj0 (Nat.lt_irrefl 0)
  | cons r W =>
    have h0 : (uC s.2 (2 + w))[0] = r := by simp only [hW, List.getElem_cons_zero]
    have hE : (uC s.2 (2 + w)).eraseIdx 0 = W := by rw [hW]; rfl
    have hixeq : ix (fun c => abR s.1 s.2 (cnM w c)) (uR s.2 (8 + w)) = ix (able s.1 s.2) (uR s.2 (8 + w)) := by
      rw [show (fun c => abR s.1 s.2 (cnM w c)) = able s.1 s.2 from funext (fun c => abR_eq)]
    have hfd := sN_find (p := abR s.1 s.2) hN hw
    rw [hixeq] at hfd
    have hfx : fF (fun i => cnQ w (cnA X4 i) && abR s.1 s.2 (cnA X4 i)) n 0 = if ix (fun c => cnQ w c && abR s.1 s.2 c) (cnL X4 n) < n then some (ix (fun c => cnQ w c && abR s.1 s.2 c) (cnL X4 n)) else none := fF_cn (X := X4) (n := n) (p := fun c => cnQ w c && abR s.1 s.2 c)
    refine dl_loop hN (by omega) h.2.2.2.2.1 hp (by omega) hv.2.2.1 hw n 0 _ _ (by omega) (fun jj hjj => ?_) (fun hnn => ?_)
    · rw [hfx] at hjj
      by_cases hlt : ix (fun c => cnQ w c && abR s.1 s.2 c) (cnL X4 n) < n
      rotate_left
      · rw [if_neg hlt] at hjj
        cases hjj
      rw [if_pos hlt] at hjj
      cases hjj
      have hlt2 := hfd.mp hlt
      have hg := List.getElem?_eq_getElem hlt2
      generalize hcn : (uR s.2 (8 + w))[ix (able s.1 s.2) (uR s.2 (8 + w))] = cn at hg
      obtain ⟨hab, hmem⟩ := ix_get hg
      obtain ⟨c, hc, hcc⟩ := (hv.2.2.1 w hw).1 cn hmem
      have hclc : (nI c).toNatClampNeg = c := nI_clamp (by omega)
      -- the entry that was found
      have hent : cnA X4 (ix (fun c => cnQ w c && abR s.1 s.2 c) (cnL X4 n)) = cnM w cn := by
        have g3 := (flt_er (f := cnQ w) (p := abR s.1 s.2) (l := cnL X4 n)).1 (by rw [cnL_len]; exact hlt)
        have g4 := g3.2.2 (cnA X4 (ix (fun c => cnQ w c && abR s.1 s.2 c) (cnL X4 n))) (cnL_get hlt)
        rw [hN.2.2 w hw, ix_map, hixeq, List.getElem?_map, hg] at g4
        exact (Option.some.inj g4).symm
      have h10 : X4 10 (ix (fun c => cnQ w c && abR s.1 s.2 c) (cnL X4 n)) = nI c := by
        have : X4 10 (ix (fun c => cnQ w c && abR s.1 s.2 c) (cnL X4 n)) = cn.1 := congrArg (fun z => z.2.1) hent
        rw [this, hcc]
      have h11 : X4 11 (ix (fun c => cnQ w c && abR s.1 s.2 c) (cnL X4 n)) = b2i cn.2 := congrArg (fun z => z.2.2) hent
      rw [h10, h11]
      obtain ⟨n, rfl⟩ : ∃ k, n = k + 1 := ⟨n - 1, by omega⟩
      refine N124_84 ⟨_, n_rmC hN.1 (by omega) (by omega) (fun j hj => sN_01 hN (by omega)), ?_⟩
      rintro r' X5 ⟨rfl, g1, g2, g3⟩
      refine ⟨rfl, _, n_addC g2 (by omega) (b2i_01 _), ?_⟩
      rintro r' X6 ⟨rfl, k1, k2, k3⟩
      refine ⟨rfl, ?_⟩
      have s5 := sN.er (p := abR s.1 s.2) hN hw hlt g2 g3
      rw [hixeq] at s5
      have s6 := s5.add (c := cn) hw k2 (by rw [k3]; unfold cnM; rw [hcc])
      rw [uR_s, upR_upR] at s6
      have hag : Ag pC X4 X6 := g1.trans k1
      have h6 : SX 0 X6 (s.1, upR s.2 (8 + w) ((uR s.2 (8 + w)).eraseIdx (ix (able s.1 s.2) (uR s.2 (8 + w))) ++ [cn])) := h.cI rfl rfl rfl hag ⟨_, s6⟩
      generalize hv1 : upR s.2 (8 + w) ((uR s.2 (8 + w)).eraseIdx (ix (able s.1 s.2) (uR s.2 (8 + w))) ++ [cn]) = v1 at h6
      have hC : ∀ k, uC v1 k = uC s.2 k := fun k => by rw [← hv1]; rfl
      have hfl1 : flat v1 = flat s.2 := flat_cg (fun k _ => hC k)
      have hc6 : ∀ j, cpA X6 j = cpA X4 j := fun j => cpA_cg (fun k w1 w2 => by rw [hag k (pC_f (by omega))])
      have he6 : cpA X6 i = wCp r := by rw [hc6, he, h0, mp_q hw]
      obtain ⟨nn, hnn⟩ : ∃ k, (flat s.2).length = k + 1 := ⟨(flat s.2).length - 1, by omega⟩
      have f1 := sP_01 h6.2.2.2.2.2.1 (i := nn) (by show nn < (flat v1).length; rw [hfl1]; omega)
      have h31 : X6 31 0 = nI (nn + 1) := by
        have := h6.2.2.2.2.2.1.1
        have this : X6 31 0 = nI (flat v1).length := this
        rw [this, hfl1, hnn]
      refine ⟨fun z3 => N124_111 ?_, fun z3 => ⟨_, n_remove h31 (by omega) (by omega) f1.1 f1.2, ?_⟩⟩
      · have hau : cn.2 = false := b2i_z.mp z3
        have ho : opDl s.1 s.2 (nI w) = (cn.1, upd s.1 (302 + 10 * c) (s.1 (302 + 10 * c) + 1), upC (upC v1 (2 + w) W) (14 + c) (uC (upC v1 (2 + w) W) (14 + c) ++ [rHold r (s.1 (302 + 10 * c) + 1)])) := by
          unfold opDl
          rw [if_pos hx, hcl, hW]
          dsimp only
          rw [hg]
          dsimp only
          rw [if_neg (by rw [hau]; decide), hcc, hclc, hv1, uC_n (show 14 + c ≠ 2 + w by omega), hC]
        rw [ho, show oI (some i) = nI i from rfl, hclc, nI_clamp (show i < 2 ^ 31 by omega)]
        have pi : ¬ nI i < 0 := nI_pos (by omega)
        have pc : ¬ nI c < 0 := nI_pos (by omega)
        have hd6 := h6.2.2.2.2.1 c hc
        refine ⟨pc, hc, pc, hc, fun Y1 e1 => ⟨pi, by omega, fun Y2 e2 => ⟨pc, hc, pi, by omega, fun Y3 e3 => ⟨by rw [hcc], ?_⟩⟩⟩⟩
        have e14 : X6 14 c = s.1 (302 + 10 * c) := hd6.2.1
        rw [e14] at e1
        have q14 : Y2 14 c = s.1 (302 + 10 * c) + 1 := by rw [e2, wr_k (by decide), e1, wr_s]
        rw [q14] at e3
        exact dl_hold h6 (by rw [hC]; exact hv.2.1) hw hc (by rw [hC]; exact hW) (by rw [hfl1]; exact hi) he6 e1 e2 e3
      · rintro r' X7 ⟨rfl, p1, p2, p3⟩
        have hau : cn.2 = true := b2i_nz z3
        have ho : opDl s.1 s.2 (nI w) = (cn.1, s.1, upC v1 (2 + w) W) := by
          unfold opDl
          rw [if_pos hx, hcl, hW]
          dsimp only
          rw [hg]
          dsimp only
          rw [if_pos hau, hv1]
        rw [ho]
        exact ⟨rfl, by rw [hcc], dl_auto h6 hw (by rw [hC]; exact hW) (by rw [hfl1]; exact hnn) (by omega) he6 p1 p2 p3⟩
    · rw [hfx] at hnn
      by_cases hlt : ix (fun c => cnQ w c && abR s.1 s.2 c) (cnL X4 n) < n
      · rw [if_pos hlt] at hnn
        cases hnn
      have hg : (uR s.2 (8 + w))[ix (able s.1 s.2) (uR s.2 (8 + w))]? = none := List.getElem?_eq_none (Nat.le_of_not_lt (fun y => hlt (hfd.mpr y)))
      have ho : opDl s.1 s.2 (nI w) = (-6, s.1, s.2) := by
        unfold opDl
        rw [if_pos hx, hcl, hW]
        dsimp only
        rw [hg]
      rw [ho]
      exact ⟨rfl, h⟩
