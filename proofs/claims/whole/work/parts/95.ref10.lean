/-! the reference: settling -/
theorem n_settleOne {gc : Nat → Nat} {m : Nat} {M : Nat → Nat} {d : Nat} {X : XT} {kk P b c j i : Nat} {s : St} {r : Rec} {h0 : Nat} (h : SX kk X s) (hm : MI P b s) (hb : b ≤ 450) (hc : c < 4) (hj : (uC s.2 (14 + c))[j]? = some r) (hi : i < (flat s.2).length) (he : cpA X i = hCp c r) (hh : h0 < 3) : WM gc m M (d + 3) 129 [.ref m, .int (nI i), .int (nI h0)] X (fun r' X' => r' = none ∧ SX kk X' (s.1, stl (upC s.2 (14 + c) ((uC s.2 (14 + c)).eraseIdx j)) r (nI h0))) := by
  obtain ⟨hjl, hje⟩ := List.getElem?_eq_some_iff.mp hj
  have hall := hm.2.2.2.1.all hm.2.2.1
  have hfl := flat_len (v := s.2)
  have hp := h.2.2.2.2.2.1
  have hl := h.2.2.2.2.2.2.2.1
  obtain ⟨nn, hnn⟩ : ∃ k, (flat s.2).length = k + 1 := ⟨(flat s.2).length - 1, by omega⟩
  have h31 : X 31 0 = nI (nn + 1) := by rw [hp.1, hnn]
  have f1 := sP_01 hp (i := nn) (by omega)
  have f2 := sP_01 hp hi
  have hcl : (nI i).toNatClampNeg = i := nI_clamp (by omega)
  obtain ⟨-, -, w, hw, hwr, hwd⟩ := hm.2.2.2.2.2.1 (14 + c) (isC_c hc) r (List.mem_of_getElem? hj)
  have hem : cpA X i = mp (14 + c) (uC s.2 (14 + c))[j] := by rw [hje, mp_c]; exact he
  match h0, hh with
  | 0, _ =>
    refine N129 ⟨fun z => absurd rfl z, fun _ => ⟨_, n_remove h31 (by omega) (by omega) f1.1 f1.2, ?_⟩⟩
    rintro r' X3 ⟨rfl, p1, p2, p3⟩
    refine ⟨rfl, N129_9 ⟨fun _ => N129_19 ⟨fun z => absurd z (by decide), fun _ => ⟨rfl, ?_⟩⟩, fun z => absurd z (by decide)⟩⟩
    have hst : stl (upC s.2 (14 + c) ((uC s.2 (14 + c)).eraseIdx j)) r (nI 0) = upC s.2 (14 + c) ((uC s.2 (14 + c)).eraseIdx j) := by
      unfold stl
      rw [if_neg (by decide), if_neg (by decide)]
    rw [hst]
    refine SX.pI h rfl rfl (p1.mono pP_pL) (hp.er (isP_c hc) hjl hnn (by omega) hem p2 p3) ?_
    have h8 := hl.ag p1 (fun k _ _ => pP_f (by omega))
    unfold sL at h8 ⊢
    rw [uC_n (by omega)]
    exact h8
  | 1, _ =>
    refine N129 ⟨fun _ => N129_9 ⟨fun _ => N129_19 ⟨fun _ => N129_25 ?_, fun z => absurd rfl z⟩, fun z => absurd z (by decide)⟩, fun z => absurd z (by decide)⟩
    rw [hcl]
    have pi : ¬ nI i < 0 := nI_pos (by omega)
    refine ⟨pi, by omega, fun Y1 e1 => ⟨pi, by omega, fun Y2 e2 => ⟨pi, by omega, Or.inr rfl, fun Y3 e3 => ⟨rfl, ?_⟩⟩⟩⟩
    have hst : stl (upC s.2 (14 + c) ((uC s.2 (14 + c)).eraseIdx j)) r (nI 1) = upC (upC s.2 (14 + c) ((uC s.2 (14 + c)).eraseIdx j)) (2 + w) (insR (uC (upC s.2 (14 + c) ((uC s.2 (14 + c)).eraseIdx j)) (2 + w)) (rBk r)) := by
      unfold stl bk
      rw [if_pos (by decide), hwr, nI_clamp (by omega)]
    rw [hst]
    have hO : ∀ j, j ≠ i → cpA Y3 j = cpA X j := fun j hj => cpA_cg (fun k w1 w2 => by rw [e3, wr_i hj, e2, wr_i hj, e1, wr_i hj])
    have hN : cpA Y3 i = mp (2 + w) (rBk r) := by
      rw [mp_q hw]
      have hfld : ∀ k, 21 ≤ k → k ≤ 30 → k ≠ 26 → k ≠ 28 → k ≠ 30 → Y3 k i = X k i := fun k w1 w2 w3 w4 w5 => by rw [e3, wr_k (by omega), e2, wr_k (by omega), e1, wr_k (by omega)]
      have h26 : Y3 26 i = -1 := by rw [e3, wr_k (by decide), e2, wr_k (by decide), e1, wr_s]
      have h28 : Y3 28 i = 0 := by rw [e3, wr_k (by decide), e2, wr_s]
      have h30 : Y3 30 i = 1 := by rw [e3, wr_s]
      have g21 : X 21 i = (rM r).1 := congrArg (fun z : Cp => z.1) he
      have g22 : X 22 i = mKey (rM r) := congrArg (fun z : Cp => z.2.1) he
      have g23 : X 23 i = mHops (rM r) := congrArg (fun z : Cp => z.2.2.1) he
      have g24 : X 24 i = rQ r := congrArg (fun z : Cp => z.2.2.2.1) he
      have g25 : X 25 i = rP r := congrArg (fun z : Cp => z.2.2.2.2.1) he
      have g27 : X 27 i = rT r := congrArg (fun z : Cp => z.2.2.2.2.2.2.1) he
      have g29 : X 29 i = b2i (mPers (rM r)) := congrArg (fun z : Cp => z.2.2.2.2.2.2.2.2.1) he
      unfold cpA
      rw [hfld 21 (by decide) (by decide) (by decide) (by decide) (by decide), hfld 22 (by decide) (by decide) (by decide) (by decide) (by decide), hfld 23 (by decide) (by decide) (by decide) (by decide) (by decide), hfld 24 (by decide) (by decide) (by decide) (by decide) (by decide), hfld 25 (by decide) (by decide) (by decide) (by decide) (by decide), h26, hfld 27 (by decide) (by decide) (by decide) (by decide) (by decide), h28, hfld 29 (by decide) (by decide) (by decide) (by decide) (by decide), h30, g21, g22, g23, g24, g25, g27, g29]
      rfl
    have hmv := hp.mv (Y := Y3) (k := 14 + c) (k' := 2 + w) (j := j) (i := i) (r' := rBk r) (l' := insR (uC (upC s.2 (14 + c) ((uC s.2 (14 + c)).eraseIdx j)) (2 + w)) (rBk r)) (isP_c hc) (isP_q hw) hjl insR_perm hi hem hN hO (by rw [e3, wr_k (by decide), e2, wr_k (by decide), e1, wr_k (by decide)])
    refine SX.pI h rfl rfl (by rw [e3, e2, e1]; exact (((Ag.refl _ _).wr rfl).wr rfl).wr rfl) hmv ?_
    have ka : ∀ k, 33 ≤ k → Y3 k = X k := fun k hk => by
      rw [e3, e2, e1]
      exact funext (fun j => by rw [wr_k (by omega), wr_k (by omega), wr_k (by omega)])
    unfold sL ltS at hl ⊢
    rw [uC_n (by omega), uC_n (by omega), ka 33 (by decide), ka 34 (by decide), ka 35 (by decide), ka 36 (by decide), ka 37 (by decide), ka 38 (by decide)]
    exact hl
  | 2, _ =>
    have h24 : X 24 i = nI w := by
      have : X 24 i = rQ r := congrArg (fun z : Cp => z.2.2.2.1) he
      rw [this, hwr]
    have htk := hm.2.2.2.1.tk hc hj
    have hLb := hm.2.2.2.1.2.2
    have hshc : 1 ≤ sh s.2 := by
      have : (uC s.2 (14 + c)).length ≤ sh s.2 := sumTo_at (f := fun c => (uC s.2 (14 + c)).length) 4 hc
      omega
    refine N129 ⟨fun _ => N129_9 ⟨fun z => absurd rfl z, fun _ => ⟨_, n_letter (n := nn) (l := (uC s.2 1).length) (w := w) h31 (by omega) (by omega) f1.1 f1.2 hl.1 (by omega) hw h24 f2.1, ?_⟩⟩, fun z => absurd z (by decide)⟩
    rintro r' Y ⟨rfl, g1, g2, g3, g4, g5, g6, g7, g8, g9, g10⟩
    refine ⟨rfl, N129_19 ⟨fun z => absurd z (by decide), fun _ => ⟨rfl, ?_⟩⟩⟩
    have hst : stl (upC s.2 (14 + c) ((uC s.2 (14 + c)).eraseIdx j)) r (nI 2) = upC (upC s.2 (14 + c) ((uC s.2 (14 + c)).eraseIdx j)) 1 (uC s.2 1 ++ [rW r]) := by
      unfold stl
      rw [if_neg (by decide), if_pos (by decide), uC_n (by omega)]
    rw [hst]
    have hsp := hp.er (Y := Y) (isP_c hc) hjl hnn (by omega) hem g2 g3
    refine SX.pI h rfl rfl g1 ?_ ⟨?_, fun jj r' hr' => ?_⟩
    · unfold sP at hsp ⊢
      rw [flat_1 rfl]
      exact hsp
    · rw [uC_s, List.length_append, List.length_singleton]
      exact g4
    · rw [uC_s] at hr'
      by_cases hz : jj < (uC s.2 1).length
      · rw [List.getElem?_append_left hz] at hr'
        have := hl.2 jj r' hr'
        unfold ltS at this ⊢
        rw [g5 33 jj (by decide) (by decide) (by omega), g5 34 jj (by decide) (by decide) (by omega), g5 35 jj (by decide) (by decide) (by omega), g5 36 jj (by decide) (by decide) (by omega), g5 37 jj (by decide) (by decide) (by omega)]
        exact this
      · rw [List.getElem?_append_right (by omega)] at hr'
        have hjl2 : jj = (uC s.2 1).length := by
          by_cases hz2 : jj = (uC s.2 1).length
          · exact hz2
          · obtain ⟨t, ht⟩ : ∃ t, jj - (uC s.2 1).length = t + 1 := ⟨jj - (uC s.2 1).length - 1, by omega⟩
            rw [ht] at hr'
            cases hr'
        subst hjl2
        rw [Nat.sub_self] at hr'
        cases hr'
        have hx : ∀ f : Cp → Int32, f (cpA X i) = f (hCp c r) := fun f => congrArg f he
        refine ⟨g6.trans (hx (fun z => z.1)), g7.trans (hx (fun z => z.2.1)), g8.trans (hx (fun z => z.2.2.1)), ?_, g10.trans (hx (fun z => z.2.2.2.2.2.2.2.2.1))⟩
        rw [g9, ((h.2.1 w hw).2 hwd).1]
        show _ = s.1 (202 + 10 * (rQ r).toNatClampNeg)
        rw [hwr, nI_clamp (by omega)]
/-- which copies a settling means -/
def mnt (c : Nat) (tg : Int32) (wh : Bool) (x : Cp) : Bool := hdC c x && (decide (cD x = 0) && (if wh then decide (tg = 0) || decide (¬ tg < cT x) else decide (cT x = tg)))
theorem add1_0 {x : Int32} : x + 1 = 0 ↔ x = -1 := by
  constructor
  · intro h
    have : x + 1 + (-1) = 0 + (-1) := by rw [h]
    rw [Int32.add_assoc, show (1 : Int32) + -1 = 0 by decide, Int32.add_zero, show (0 : Int32) + -1 = -1 by decide] at this
    exact this
  · rintro rfl
    decide
theorem mnt_eq {c : Nat} {tg : Int32} {wh : Bool} {r : Rec} : mnt c tg wh (hCp c r) = meant tg wh r := by
  unfold mnt meant
  rw [show hdC c (hCp c r) = true from decide_eq_true rfl, Bool.true_and]
  congr 1
  exact decide_eq_decide.mpr add1_0
theorem n_meant {gc : Nat → Nat} {m : Nat} {M : Nat → Nat} {d : Nat} {X : XT} {n i c : Nat} {tg : Int32} {wh : Bool} (hi : i < n) (hn2 : n ≤ 400) : WM gc m M (d + 1) 127 [.ref m, .int (nI i), .int (nI c), .int tg, .int (b2i wh)] X (fun r X' => r = some (.int (b2i (mnt c tg wh (cpA X i)))) ∧ X' = X) := by
  have hcl : (nI i).toNatClampNeg = i := nI_clamp (by omega)
  have pi : ¬ nI i < 0 := nI_pos (by omega)
  unfold mnt
  refine N127 ⟨pi, by omega, ?_⟩
  rw [hcl]
  refine ⟨fun z => N127_19 ⟨Or.inl rfl, ?_, rfl⟩, fun z => ⟨pi, by omega, fun z2 => N127_21 ⟨fun z3 => N127_48 ?_, fun z3 => ⟨fun z4 => N127_40 (N127_63 ⟨Or.inr rfl, ?_, rfl⟩), fun z4 => ?_⟩⟩, fun z2 => N127_19 ⟨Or.inl rfl, ?_, rfl⟩⟩⟩
  · rw [show hdC c (cpA X i) = false from decide_eq_false z, Bool.false_and]; rfl
  · rw [hcl, show hdC c (cpA X i) = true from decide_eq_true z, decide_eq_true (show cD (cpA X i) = 0 from z2), b2i_z.mp z3, Bool.true_and, Bool.true_and]
    refine ⟨pi, by omega, fun z4 => N127_62 (N127_63 ⟨Or.inl rfl, ?_, rfl⟩), fun z4 => N127_63 ⟨Or.inr rfl, ?_, rfl⟩⟩
    · rw [if_neg (by decide), decide_eq_false (show ¬ cT (cpA X i) = tg from z4)]; rfl
    · rw [if_neg (by decide), decide_eq_true (show cT (cpA X i) = tg from z4)]; rfl
  · rw [show hdC c (cpA X i) = true from decide_eq_true z, decide_eq_true (show cD (cpA X i) = 0 from z2), b2i_nz z3, Bool.true_and, Bool.true_and, if_pos rfl, decide_eq_true z4, Bool.true_or]; rfl
  · rw [hcl, show hdC c (cpA X i) = true from decide_eq_true z, decide_eq_true (show cD (cpA X i) = 0 from z2), b2i_nz z3, Bool.true_and, Bool.true_and, if_pos rfl, decide_eq_false z4, Bool.false_or]
    refine ⟨pi, by omega, fun z5 => N127_44 (N127_63 ⟨Or.inl rfl, ?_, rfl⟩), fun z5 => N127_40 (N127_63 ⟨Or.inr rfl, ?_, rfl⟩)⟩
    · rw [decide_eq_false (show ¬ ¬ tg < cT (cpA X i) from fun y => y z5)]; rfl
    · rw [decide_eq_true (show ¬ tg < cT (cpA X i) from z5)]; rfl
  · rw [decide_eq_false (show ¬ cD (cpA X i) = 0 from z2), Bool.false_and, Bool.and_false]; rfl
/-- of a deed, or meant -/
def mine (c : Nat) (x2 tg : Int32) (wh : Bool) (x : Cp) : Bool := if x2 ≤ 0 then mnt c tg wh x else hdC c x && decide (cD x = x2)
theorem si_loop {gc : Nat → Nat} {m : Nat} {M : Nat → Nat} {d : Nat} {X : XT} {q : QT} {n c : Nat} {x2 tg x5 x6 x7 x8 : Int32} {wh : Bool} (hn : X 31 0 = nI n) (hn2 : n ≤ 400) (hlast : ∀ i, i < n → mine c x2 tg wh (cpA X i) = true → ¬ cT (cpA X i) ≤ x7) : ∀ l i o v11, i + l = n → (∀ b, o = some b → b < n) → (∀ x10 v11, TM gc m M (d + 1) 128 q 126 [.ref m, .int (nI c), .int x2, .int tg, .int (b2i wh), .int x5, .int x6, .int x7, .int x8, .int (oI (mnF (fun i => mine c x2 tg wh (cpA X i)) (fun i => cT (cpA X i)) l i o)), .int x10, v11] [] X) → TM gc m M (d + 1) 128 q 22 [.ref m, .int (nI c), .int x2, .int tg, .int (b2i wh), .int x5, .int x6, .int x7, .int x8, .int (oI o), .int (nI i), v11] [] X := by
  intro l
  induction l with
  | zero =>
    intro i o v11 hi ho hq
    exact N128_22 ⟨fun _ => hq _ _, fun z => absurd (by rw [hn]; exact nI_le (by omega) (by omega)) z⟩
  | succ l ih =>
    intro i o v11 hi ho hq
    have hcl : (nI i).toNatClampNeg = i := nI_clamp (by omega)
    have pi : ¬ nI i < 0 := nI_pos (by omega)
    have hu : mnF (fun i => mine c x2 tg wh (cpA X i)) (fun i => cT (cpA X i)) (l + 1) i o = mnF (fun i => mine c x2 tg wh (cpA X i)) (fun i => cT (cpA X i)) l (i + 1) (if mine c x2 tg wh (cpA X i) && bet (fun i => cT (cpA X i)) i o then some i else o) := rfl
    rw [hu] at hq
    have no : ∀ x11, (mine c x2 tg wh (cpA X i) && bet (fun i => cT (cpA X i)) i o) = false → TM gc m M (d + 1) 128 q 120 [.ref m, .int (nI c), .int x2, .int tg, .int (b2i wh), .int x5, .int x6, .int x7, .int x8, .int (oI o), .int (nI i), .int x11] [] X := fun x11 hb => by
      rw [hb, if_neg (by decide)] at hq
      refine N128_120 ?_
      rw [nI_1]
      exact ih (i + 1) o _ (by omega) ho hq
    have yes : ∀ x11, (mine c x2 tg wh (cpA X i) && bet (fun i => cT (cpA X i)) i o) = true → TM gc m M (d + 1) 128 q 116 [.ref m, .int (nI c), .int x2, .int tg, .int (b2i wh), .int x5, .int x6, .int x7, .int x8, .int (oI o), .int (nI i), .int x11] [] X := fun x11 hb => by
      rw [hb, if_pos rfl] at hq
      refine N128_116 (N128_120 ?_)
      rw [nI_1]
      exact ih (i + 1) (some i) _ (by omega) (fun b hb => by cases hb; omega) hq
    have key : TM gc m M (d + 1) 128 q 75 [.ref m, .int (nI c), .int x2, .int tg, .int (b2i wh), .int x5, .int x6, .int x7, .int x8, .int (oI o), .int (nI i), v11] [.int (b2i (mine c x2 tg wh (cpA X i)))] X := by
      refine N128_75 ⟨fun z => no _ (by rw [b2i_z.mp z, Bool.false_and]), fun z => ⟨pi, by omega, ?_⟩⟩
      have z := b2i_nz z
      rw [hcl]
      refine ⟨fun z2 => absurd z2 (hlast i (by omega) z), fun z2 => ⟨fun z3 => yes _ ?_, fun z3 => ⟨pi, by omega, z3, ?_⟩⟩⟩
      · cases o with
        | none => rw [z]; rfl
        | some b => exact absurd z3 (nI_pos (by have := ho b rfl; omega))
      · cases o with
        | none => exact absurd (by decide : (-1 : Int32) < 0) z3
        | some b =>
          have hbn := ho b rfl
          have hcb : (oI (some b)).toNatClampNeg = b := nI_clamp (by omega)
          rw [hcb]
          refine ⟨by omega, fun z4 => no _ ?_, fun z4 => yes _ ?_⟩
          · rw [z, Bool.true_and]
            exact decide_eq_false (fun y => n_le_lt.mpr y z4)
          · rw [z, Bool.true_and]
            exact decide_eq_true (n_le_lt.mp z4)
    refine N128_22 ⟨fun z => absurd z (by rw [hn]; exact nI_ge (by omega) (by omega)), fun _ => ⟨fun z => N128_65 ⟨_, n_meant (n := n) (by omega) hn2, ?_⟩, fun z => ⟨pi, by omega, ?_⟩⟩⟩
    · rintro r X3 ⟨rfl, rfl⟩
      refine ⟨_, rfl, ?_⟩
      unfold mine at key
      rw [if_pos z] at key
      exact key
    · rw [hcl]
      unfold mine at key
      rw [if_neg z] at key
      refine ⟨fun z2 => N128_61 ?_, fun z2 => ⟨pi, by omega, fun z3 => N128_61 ?_, fun z3 => ?_⟩⟩
      · rw [show hdC c (cpA X i) = false from decide_eq_false z2, Bool.false_and] at key
        exact key
      · rw [decide_eq_false (show ¬ cD (cpA X i) = x2 from z3), Bool.and_false] at key
        exact key
      · rw [show hdC c (cpA X i) = true from decide_eq_true z2, decide_eq_true (show cD (cpA X i) = x2 from z3), Bool.and_self] at key
        exact key
theorem mine_hd {c : Nat} {x2 tg : Int32} {wh : Bool} {x : Cp} (h : mine c x2 tg wh x = true) : hdC c x = true := by
  unfold mine at h
  split at h
  · unfold mnt at h
    rw [Bool.and_eq_true] at h
    exact h.1
  · rw [Bool.and_eq_true] at h
    exact h.1
theorem stA_0 {c : Nat} {p : Rec → Bool} {how : Int32} {v : Mu} (h : ¬ ix p (uC v (14 + c)) < (uC v (14 + c)).length) : ∀ f, stA c p how f v = v := by
  intro f
  cases f with
  | zero => rfl
  | succ f =>
    show (match (uC v (14 + c))[ix p (uC v (14 + c))]? with
      | none => v
      | some r => stA c p how f (stl (upC v (14 + c) ((uC v (14 + c)).eraseIdx (ix p (uC v (14 + c))))) r how)) = v
    rw [List.getElem?_eq_none (by omega)]
theorem ix_low {α : Type} {p : α → Bool} : ∀ {l : List α} {i : Nat}, i < ix p l → ∀ hi : i < l.length, p l[i] = false := by
  intro l
  induction l with
  | nil => intro i _ hi; exact absurd hi (Nat.not_lt_zero _)
  | cons y l ih =>
    intro i h hi
    unfold ix at h
    split at h
    · exact absurd h (Nat.not_lt_zero _)
    · rename_i hp
      cases i with
      | zero => exact Bool.eq_false_iff.mpr hp
      | succ i => exact ih (Nat.lt_of_succ_lt_succ h) (Nat.lt_of_succ_lt_succ hi)
theorem so_loop {gc : Nat → Nat} {m : Nat} {M : Nat → Nat} {d : Nat} {q : QT} {kk P b c h0 : Nat} {x2 tg : Int32} {wh : Bool} {π : Rec → Bool} {I : Nat → Int32} (hc : c < 4) (hb : b ≤ 450) (hh : h0 < 3) (hπ : ∀ r, mine c x2 tg wh (hCp c r) = π r) : ∀ k f st g (X : XT) (v : Mu) (x7 : Int32) (v9 v10 v11 : Value), SX kk X (I, v) → MI P b (I, v) → (uC v (14 + c)).countP π = k → k ≤ f → st + k < 60 → (∀ r, r ∈ uC v (14 + c) → π r = true → ¬ rT r ≤ x7) → (∀ Y, SX kk Y (I, stA c π (nI h0) f v) → q (some (.int (nI (g + k)))) Y) → TM gc m M (d + 3) 128 q 9 [.ref m, .int (nI c), .int x2, .int tg, .int (b2i wh), .int (nI h0), .int (nI g), .int x7, .int (nI st), v9, v10, v11] [] X := by
  intro k
  induction k with
  | zero =>
    intro f st g X v x7 v9 v10 v11 h hm hk hf hst hl hq
    have hall : sw v + sh v ≤ 360 := hm.2.2.2.1.all hm.2.2.1
    have hfl := flat_len (v := v)
    have hp : sP X v := h.2.2.2.2.2.1
    have hno : ∀ r, r ∈ uC v (14 + c) → π r = false := fun r hr => by
      have := List.countP_eq_zero.mp hk r hr
      exact Bool.eq_false_iff.mpr this
    have hmine : ∀ i, i < (flat v).length → mine c x2 tg wh (cpA X i) = false := fun i hi => by
      cases hz : mine c x2 tg wh (cpA X i) with
      | false => rfl
      | true =>
        obtain ⟨j, hj, he⟩ := sel_idx hp.2 (sel_c hc) hi (mine_hd hz)
        rw [mp_c] at he
        rw [he, hπ, hno _ (List.getElem_mem hj)] at hz
        cases hz
    refine N128_9 ⟨fun z => absurd z (nI_ge (b := 60) (by omega) (by decide)), fun _ => si_loop (d := d + 2) hp.1 (by omega) (fun i hi hz => by rw [hmine i hi] at hz; cases hz) (flat v).length 0 none _ (by omega) (fun b hb => by cases hb) (fun x10 v11 => N128_126 ?_)⟩
    rcases mnF_sp (p := fun i => mine c x2 tg wh (cpA X i)) (t := fun i => cT (cpA X i)) (flat v).length 0 none (fun b hb => by cases hb) (fun _ j hj => absurd hj (Nat.not_lt_zero _)) with ⟨e, -⟩ | ⟨b', -, h2, h3, -⟩
    · rw [e]
      refine ⟨fun z => absurd z (by decide), fun _ => ?_⟩
      have hst0 := stA_0 (c := c) (how := nI h0) (v := v) (p := π) (fun y => by
        have hg := List.getElem?_eq_getElem y
        obtain ⟨y1, y2⟩ := ix_get hg
        rw [hno _ y2] at y1
        cases y1) f
      rw [hst0] at hq
      exact hq X h
    · have h3 : mine c x2 tg wh (cpA X b') = true := h3
      rw [hmine b' (by omega)] at h3
      cases h3
  | succ k ih =>
    intro f st g X v x7 v9 v10 v11 h hm hk hf hst hl hq
    have hall : sw v + sh v ≤ 360 := hm.2.2.2.1.all hm.2.2.1
    have hfl := flat_len (v := v)
    have hp : sP X v := h.2.2.2.2.2.1
    have hsrt : Srt kT (uC v (14 + c)) := (hm.2.2.2.2.1.2.1 c hc).1
    have hex : ∃ r, r ∈ uC v (14 + c) ∧ π r = true := by
      have : 0 < (uC v (14 + c)).countP π := by omega
      exact List.countP_pos_iff.mp this
    have hix := ix_lt hex
    have hg := List.getElem?_eq_getElem hix
    generalize hr0 : (uC v (14 + c))[ix π (uC v (14 + c))] = r at hg
    obtain ⟨hπr, hrm⟩ := ix_get hg
    have hlast : ∀ i, i < (flat v).length → mine c x2 tg wh (cpA X i) = true → ¬ cT (cpA X i) ≤ x7 := fun i hi hz => by
      obtain ⟨j, hj, he⟩ := sel_idx hp.2 (sel_c hc) hi (mine_hd hz)
      rw [mp_c] at he
      rw [he, hπ] at hz
      rw [he]
      exact hl _ (List.getElem_mem hj) hz
    refine N128_9 ⟨fun z => absurd z (nI_ge (b := 60) (by omega) (by decide)), fun _ => si_loop (d := d + 2) hp.1 (by omega) hlast (flat v).length 0 none _ (by omega) (fun b hb => by cases hb) (fun x10 v11 => N128_126 ?_)⟩
    rcases mnF_sp (p := fun i => mine c x2 tg wh (cpA X i)) (t := fun i => cT (cpA X i)) (flat v).length 0 none (fun b hb => by cases hb) (fun _ j hj => absurd hj (Nat.not_lt_zero _)) with ⟨-, e⟩ | ⟨b', e, h2, h3, h4⟩
    · exfalso
      obtain ⟨i, hi, he, -⟩ := sel_fwd hp.2 (sel_c hc) hix
      have := e i (by omega)
      have this : mine c x2 tg wh (cpA X i) = false := this
      rw [he, mp_c, hπ, hr0, hπr] at this
      cases this
    · have h3 : mine c x2 tg wh (cpA X b') = true := h3
      have hb' : b' < (flat v).length := by omega
      rw [e]
      refine ⟨fun _ => N128_134 ?_, fun z => absurd (nI_le (a := 0) (by omega) (by omega)) z⟩
      -- it is the first one
      obtain ⟨j, hj, he⟩ := sel_idx hp.2 (sel_c hc) hb' (mine_hd h3)
      rw [mp_c] at he
      have hπj : π (uC v (14 + c))[j] = true := by rw [he, hπ] at h3; exact h3
      have hixj : ix π (uC v (14 + c)) = j := ix_sp hj hπj (fun i hi => by
        cases hz : π ((uC v (14 + c))[i]'(Nat.lt_trans hi hj)) with
        | false => rfl
        | true =>
          obtain ⟨i', hi', he', -⟩ := sel_fwd hp.2 (sel_c hc) (Nat.lt_trans hi hj)
          have h5 := h4 i' (by omega) (by show mine c x2 tg wh (cpA X i') = true; rw [he', mp_c, hπ]; exact hz)
          have h6 := hsrt.lt hi hj
          have e1 : (cT (cpA X i')).toInt = kT ((uC v (14 + c))[i]'(Nat.lt_trans hi hj)) := by rw [he']; exact kT_mp _
          have e2 : (cT (cpA X b')).toInt = kT (uC v (14 + c))[j] := by rw [he, ← mp_c]; exact kT_mp _
          have h5 : (cT (cpA X b')).toInt ≤ (cT (cpA X i')).toInt := h5
          omega)
      have hjr : (uC v (14 + c))[j] = r := by rw [← hr0]; simp only [hixj]
      rw [hjr] at he
      have hgj : (uC v (14 + c))[j]? = some r := by rw [List.getElem?_eq_getElem hj, hjr]
      have hcl : (oI (some b')).toNatClampNeg = b' := nI_clamp (by omega)
      refine ⟨nI_pos (by omega), by rw [hcl]; omega, _, n_settleOne (s := (I, v)) (b := b) (P := P) (j := j) (r := r) h hm hb hc hgj hb' he hh, ?_⟩
      rintro r' Y ⟨rfl, hY⟩
      refine ⟨rfl, ?_⟩
      rw [nI_1, nI_1, hcl]
      have hY : SX kk Y (I, stl (upC v (14 + c) ((uC v (14 + c)).eraseIdx j)) r (nI h0)) := hY
      have hmY := hm.stlk (how := nI h0) hc hgj
      have hmY : MI P b (I, stl (upC v (14 + c) ((uC v (14 + c)).eraseIdx j)) r (nI h0)) := hmY
      obtain ⟨f, rfl⟩ : ∃ f', f = f' + 1 := ⟨f - 1, by omega⟩
      have hstA : stA c π (nI h0) (f + 1) v = stA c π (nI h0) f (stl (upC v (14 + c) ((uC v (14 + c)).eraseIdx j)) r (nI h0)) := by
        show (match (uC v (14 + c))[ix π (uC v (14 + c))]? with
          | none => v
          | some r => stA c π (nI h0) f (stl (upC v (14 + c) ((uC v (14 + c)).eraseIdx (ix π (uC v (14 + c))))) r (nI h0))) = _
        rw [hg, hixj]
      rw [hstA] at hq
      obtain ⟨-, -, w, hw, hwr, -⟩ := hm.2.2.2.2.2.1 (14 + c) (isC_c hc) r hrm
      have hH : uC (stl (upC v (14 + c) ((uC v (14 + c)).eraseIdx j)) r (nI h0)) (14 + c) = (uC v (14 + c)).eraseIdx j := by rw [stl_H (by omega) hw hwr, uC_s]
      have hce := countP_er (p := π) hgj
      rw [hπr] at hce
      have h27 : X 27 b' = rT r := congrArg (fun z : Cp => z.2.2.2.2.2.2.1) he
      rw [h27]
      refine ih f (st + 1) (g + 1) Y _ _ _ _ _ hY hmY ?_ (by omega) (by omega) (fun r2 hr2 hz2 => ?_) (fun Z hZ => ?_)
      · rw [hH]
        have h1 : ((uC v (14 + c)).eraseIdx j).countP π + 1 = (uC v (14 + c)).countP π := hce.1
        omega
      · rw [hH] at hr2
        obtain ⟨i2, hi2, he2⟩ := List.mem_iff_getElem.mp hr2
        rw [List.getElem_eraseIdx] at he2
        rw [Int32.le_iff_toInt_le]
        show ¬ kT r2 ≤ kT r
        split at he2
        · rename_i hlt
          have hz3 : π ((uC v (14 + c))[i2]'(by omega)) = false := by
            cases hz : π ((uC v (14 + c))[i2]'(by omega)) with
            | false => rfl
            | true =>
              have : ix π (uC v (14 + c)) ≤ i2 := by
                apply Nat.le_of_not_lt
                intro y
                have := ix_low y
                rw [this (by omega)] at hz
                cases hz
              omega
          rw [he2, hz2] at hz3
          cases hz3
        · rename_i hge
          have hlen : i2 + 1 < (uC v (14 + c)).length := by
            rw [List.length_eraseIdx_of_lt hj] at hi2
            omega
          have := hsrt.lt (show j < i2 + 1 by omega) hlen
          rw [he2, hjr] at this
          omega
      · rw [show g + (k + 1) = g + 1 + k by omega] at hq
        exact hq Z hZ
