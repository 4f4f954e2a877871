/-! the reference: letter, put, route, routeLetters -/
def pL (k : Nat) : Bool := (decide (21 ≤ k) && decide (k ≤ 31)) || (decide (33 ≤ k) && decide (k ≤ 38))
theorem pL_f {k : Nat} (h : ¬ ((21 ≤ k ∧ k ≤ 31) ∨ (33 ≤ k ∧ k ≤ 38))) : pL k = false := by
  unfold pL
  rw [← Bool.decide_and, ← Bool.decide_and, ← Bool.decide_or]
  exact decide_eq_false h
theorem pP_pL (k : Nat) (h : pP k = true) : pL k = true := by
  unfold pP at h
  unfold pL
  rw [h]
  rfl
theorem n_letter {gc : Nat → Nat} {m : Nat} {M : Nat → Nat} {d : Nat} {X : XT} {n i l w : Nat} (hn : X 31 0 = nI (n + 1)) (hn2 : n < 400) (hi : i ≤ n) (h29 : X 29 n = 0 ∨ X 29 n = 1) (h30 : X 30 n = 0 ∨ X 30 n = 1) (hl : X 38 0 = nI l) (hl2 : l < 450) (hw : w < 6) (h24 : X 24 i = nI w) (hi29 : X 29 i = 0 ∨ X 29 i = 1) : WM gc m M (d + 2) 118 [.ref m, .int (nI i)] X (fun r X' => r = none ∧ Ag pL X X' ∧ X' 31 0 = nI n ∧ (∀ j, cpA X' j = if j = i then cpA X n else cpA X j) ∧ X' 38 0 = nI (l + 1) ∧ (∀ k j, 33 ≤ k → k ≤ 37 → j ≠ l → X' k j = X k j) ∧ X' 33 l = X 21 i ∧ X' 34 l = X 22 i ∧ X' 35 l = X 23 i ∧ X' 36 l = X 2 w ∧ X' 37 l = X 29 i) := by
  have hcl : (nI i).toNatClampNeg = i := nI_clamp (by omega)
  have hcw : (nI w).toNatClampNeg = w := nI_clamp (by omega)
  have hcL : (nI l).toNatClampNeg = l := nI_clamp (by omega)
  have hi4 : i < 400 := by omega
  have pi : ¬ nI i < 0 := nI_pos (by omega)
  have pl : ¬ nI l < 0 := nI_pos (by omega)
  refine N118 ?_
  rw [hl, hcl, hcL]
  refine ⟨pi, hi4, pl, hl2, fun Y1 e1 => ?_⟩
  have k1 : ∀ k, k ≠ 33 → Y1 k = X k := fun k w1 => by rw [e1]; exact funext (fun j => wr_k w1)
  rw [k1 38 (by decide), hl, hcL]
  refine ⟨pi, hi4, pl, hl2, fun Y2 e2 => ?_⟩
  have k2 : ∀ k, k < 33 ∨ 34 < k → Y2 k = X k := fun k w1 => by rw [e2, ← k1 k (by omega)]; exact funext (fun j => wr_k (by omega))
  rw [k2 38 (by decide), hl, hcL]
  refine ⟨pi, hi4, pl, hl2, fun Y3 e3 => ?_⟩
  have k3 : ∀ k, k < 33 ∨ 35 < k → Y3 k = X k := fun k w1 => by rw [e3, ← k2 k (by omega)]; exact funext (fun j => wr_k (by omega))
  rw [k3 38 (by decide), k3 24 (by decide), h24, hl, hcL, hcw]
  refine ⟨pi, hi4, nI_pos (by omega), hw, pl, hl2, fun Y4 e4 => ?_⟩
  have k4 : ∀ k, k < 33 ∨ 36 < k → Y4 k = X k := fun k w1 => by rw [e4, ← k3 k (by omega)]; exact funext (fun j => wr_k (by omega))
  rw [k4 38 (by decide), k4 29 (by decide), hl, hcL]
  refine ⟨pi, hi4, pl, hl2, hi29, fun Y5 e5 Y6 e6 => ?_⟩
  have k5 : ∀ k, k < 33 ∨ 37 < k → Y5 k = X k := fun k w1 => by rw [e5, ← k4 k (by omega)]; exact funext (fun j => wr_k (by omega))
  have k6 : ∀ k, k < 33 ∨ 38 < k → Y6 k = X k := fun k w1 => by rw [e6, ← k5 k (by omega)]; exact funext (fun j => wr_k (by omega))
  refine ⟨_, n_remove (by rw [k6 31 (by decide)]; exact hn) hn2 hi (by rw [k6 29 (by decide)]; exact h29) (by rw [k6 30 (by decide)]; exact h30), ?_⟩
  rintro r Y7 ⟨rfl, g1, g2, g3⟩
  have a6 : Ag pL X Y6 := by
    rw [e6, e5, e4, e3, e2, e1]
    exact ((((((Ag.refl _ _).wr rfl).wr rfl).wr rfl).wr rfl).wr rfl).wr rfl
  have c6 : ∀ j, cpA Y6 j = cpA X j := fun j => cpA_cg (fun k w1 w2 => by rw [k6 k (by omega)])
  have m7 : ∀ k, 33 ≤ k → Y7 k = Y6 k := fun k hk => g1 k (pP_f (by omega))
  refine ⟨rfl, rfl, a6.trans (g1.mono pP_pL), g2, fun j => ?_, ?_, fun k j w1 w2 w3 => ?_, ?_, ?_, ?_, ?_, ?_⟩
  · rw [g3 j, c6, c6]
  · rw [m7 38 (by decide), e6, wr_s, k5 38 (by decide), hl, nI_1]
  · rw [m7 k (by omega), e6, e5, e4, e3, e2, e1]
    rw [wr_k (by omega), wr_i w3, wr_i w3, wr_i w3, wr_i w3, wr_i w3]
  · rw [m7 33 (by decide), e6, e5, e4, e3, e2, e1]
    simp [wr]
  · rw [m7 34 (by decide), e6, e5, e4, e3, e2, k1 22 (by decide)]
    simp [wr]
  · rw [m7 35 (by decide), e6, e5, e4, e3, k2 23 (by decide)]
    simp [wr]
  · rw [m7 36 (by decide), e6, e5, e4, k3 2 (by decide)]
    simp [wr]
  · rw [m7 37 (by decide), e6, e5]
    simp [wr]
/-- lists in the copies' places, and letters -/
theorem SX.pI {k : Nat} {X Y : XT} {s : St} {v : Mu} (h : SX k X s) (hB : v.1 = s.2.1) (hR : v.2.2 = s.2.2.2) (ha : Ag pL X Y) (hp : sP Y v) (hl : sL Y s.1 v) : SX k Y (s.1, v) := by
  obtain ⟨h1, h2, h3, h4, h5, h6, h7, h8, h9, h10⟩ := h
  refine ⟨h1.ag ha rfl rfl, h2.ag ha rfl rfl rfl, ?_, ?_, fun c hc => ?_, hp, ?_, hl, ?_, ?_⟩
  · have := h3.ag ha rfl rfl rfl rfl
    unfold sB at this ⊢
    rw [show uB (s.1, v).2 0 = uB s.2 0 from congrFun hB 0]
    exact this
  · obtain ⟨n, w1, w2, w3⟩ := h4.ag ha rfl rfl rfl rfl
    refine ⟨n, w1, w2, fun q hq6 => ?_⟩
    rw [show uR (s.1, v).2 (8 + q) = uR s.2 (8 + q) from congrFun (congrArg Prod.fst hR) _]
    exact w3 q hq6
  · have := h5.ag ha (fun k _ _ => pL_f (by omega)) c hc
    rw [show uD (s.1, v).2 (18 + c) = uD s.2 (18 + c) from congrFun (congrArg Prod.snd hR) _]
    exact this
  · rw [ha 32 rfl]; exact h7
  · rw [ha 39 rfl]; exact h9
  · rw [ha 40 rfl]; exact h10
theorem fl_len {v : Mu} : ∀ n, (fl v n).length = sumTo (fun k => if isP k then (uC v k).length else 0) n := by
  intro n
  induction n with
  | zero => rfl
  | succ n ih =>
    show (fl v n ++ _).length = sumTo _ n + _
    rw [List.length_append, ih]
    dsimp only
    split
    · rw [List.length_map]
    · rfl
theorem flat_len {v : Mu} : (flat v).length = sw v + sh v := by
  unfold flat
  rw [fl_len]
  show 0 + (0 : Nat) + 0 + (uC v 2).length + (uC v 3).length + (uC v 4).length + (uC v 5).length + (uC v 6).length + (uC v 7).length + 0 + 0 + 0 + 0 + 0 + 0 + (uC v 14).length + (uC v 15).length + (uC v 16).length + (uC v 17).length = (0 + (uC v 2).length + (uC v 3).length + (uC v 4).length + (uC v 5).length + (uC v 6).length + (uC v 7).length) + (0 + (uC v 14).length + (uC v 15).length + (uC v 16).length + (uC v 17).length)
  omega
theorem kP_mp {k : Nat} (r : Rec) : (cP (mp k r)).toInt = kP r := by rw [cP_mp]; rfl
theorem kT_mp {k : Nat} (r : Rec) : (cT (mp k r)).toInt = kT r := by
  unfold mp
  split <;> rfl
/-- the first of a queue goes to the letters -/
theorem shed {k : Nat} {X Y : XT} {s : St} {w i n l : Nat} {r : Rec} {W : List Rec} (h : SX k X s) (hd : ¬ s.1 (200 + 10 * w) = 0) (hw : w < 6) (hrq : rQ r = nI w) (hW : uC s.2 (2 + w) = r :: W) (hn : (flat s.2).length = n + 1) (hi : i ≤ n) (he : cpA X i = wCp r) (hl : (uC s.2 1).length = l) (g1 : Ag pL X Y) (g2 : Y 31 0 = nI n) (g3 : ∀ j, cpA Y j = if j = i then cpA X n else cpA X j) (g4 : Y 38 0 = nI (l + 1)) (g5 : ∀ k j, 33 ≤ k → k ≤ 37 → j ≠ l → Y k j = X k j) (g6 : Y 33 l = X 21 i) (g7 : Y 34 l = X 22 i) (g8 : Y 35 l = X 23 i) (g9 : Y 36 l = X 2 w) (g10 : Y 37 l = X 29 i) : SX k Y (s.1, upC (upC s.2 (2 + w) W) 1 (uC s.2 1 ++ [r])) := by
  have hj : 0 < (uC s.2 (2 + w)).length := by rw [hW]; exact Nat.succ_pos _
  have h0 : (uC s.2 (2 + w))[0] = r := by simp only [hW, List.getElem_cons_zero]
  have hE : (uC s.2 (2 + w)).eraseIdx 0 = W := by rw [hW]; rfl
  have hp := h.2.2.2.2.2.1.er (Y := Y) (isP_q hw) hj hn hi (by rw [h0, mp_q hw]; exact he) g2 g3
  rw [hE] at hp
  refine h.pI rfl rfl g1 ?_ ⟨?_, fun j r' hr' => ?_⟩
  · unfold sP at hp ⊢
    rw [flat_1 rfl]
    exact hp
  · rw [uC_s, List.length_append, List.length_singleton, hl]
    exact g4
  · rw [uC_s] at hr'
    by_cases hz : j < l
    · rw [List.getElem?_append_left (by omega)] at hr'
      have := h.2.2.2.2.2.2.2.1.2 j r' hr'
      unfold ltS at this ⊢
      rw [g5 33 j (by decide) (by decide) (by omega), g5 34 j (by decide) (by decide) (by omega), g5 35 j (by decide) (by decide) (by omega), g5 36 j (by decide) (by decide) (by omega), g5 37 j (by decide) (by decide) (by omega)]
      exact this
    · rw [List.getElem?_append_right (by omega), hl] at hr'
      have hjl : j = l := by
        by_cases hz2 : j = l
        · exact hz2
        · obtain ⟨t, ht⟩ : ∃ t, j - l = t + 1 := ⟨j - l - 1, by omega⟩
          rw [ht] at hr'
          cases hr'
      subst hjl
      rw [Nat.sub_self] at hr'
      cases hr'
      have hx : ∀ f : Cp → Int32, f (cpA X i) = f (wCp r) := fun f => congrArg f he
      refine ⟨g6.trans (hx (fun z => z.1)), g7.trans (hx (fun z => z.2.1)), g8.trans (hx (fun z => z.2.2.1)), ?_, g10.trans (hx (fun z => z.2.2.2.2.2.2.2.2.1))⟩
      rw [g9, ((h.2.1 w hw).2 hd).1]
      unfold dead
      rw [hrq, nI_clamp (by omega)]
theorem pl_loop {gc : Nat → Nat} {m : Nat} {M : Nat → Nat} {d : Nat} {X0 : XT} {q : QT} {kk w l : Nat} {x2 x3 x4 x5 x6 : Int32} {I : Nat → Int32} (hw : w < 6) (hd : ¬ I (200 + 10 * w) = 0) (hlm : I (201 + 10 * w) = nI l) (hl12 : l ≤ 12) : ∀ k j (X : XT) (v : Mu) (v8 : Value), X 42 = X0 42 → SX kk X (I, v) → CQ v → Srt kP (uC v (2 + w)) → (uC v 1).length + sw v + sh v ≤ 450 → sw v + sh v ≤ 400 → (uC v (2 + w)).length - l = k → j + k ≤ 100 → (∀ Y, Y 42 = X0 42 → SX kk Y (I, shN k w v) → q none Y) → TM gc m M (d + 2) 115 q 114 [.ref m, .int (nI w), .int x2, .int x3, .int x4, .int x5, .int x6, .int (nI j), v8] [] X := by
  intro k
  induction k with
  | zero =>
    intro j X v v8 h42 h hcq hs hb1 hb2 hk hj hq
    have hfl := flat_len (v := v)
    have h31 : X 31 0 = nI (flat v).length := h.2.2.2.2.2.1.1
    have hcnt : cF (fun i => rdQ w (cpA X i)) (flat v).length 0 = (uC v (2 + w)).length := sel_cnt h.2.2.2.2.2.1.2 (sel_q hcq hw)
    refine N115_114 ⟨fun z => absurd z (nI_ge (b := 200) (by omega) (by decide)), fun _ => ⟨_, n_readyCount h31 (by omega), ?_⟩⟩
    rintro r X3 ⟨rfl, rfl⟩
    refine ⟨_, rfl, nI_pos (by omega), by rw [nI_clamp (by omega)]; exact hw, ?_⟩
    have h1 := (h.2.1 w hw).1
    have h1 : X3 1 w = nI l := by rw [h1, if_neg hd]; exact hlm
    rw [nI_clamp (by omega), h1, hcnt]
    exact ⟨fun _ => N115_156 (hq X3 h42 h), fun z => absurd (nI_le (by omega) (by omega)) z⟩
  | succ k ih =>
    intro j X v v8 h42 h hcq hs hb1 hb2 hk hj hq
    have hfl := flat_len (v := v)
    have h31 : X 31 0 = nI (flat v).length := h.2.2.2.2.2.1.1
    have hpm : (cpL X (flat v).length).Perm (flat v) := h.2.2.2.2.2.1.2
    have hcnt : cF (fun i => rdQ w (cpA X i)) (flat v).length 0 = (uC v (2 + w)).length := sel_cnt hpm (sel_q hcq hw)
    have hsw : (uC v (2 + w)).length ≤ sw v := sumTo_at (f := fun q => (uC v (2 + q)).length) 6 hw
    refine N115_114 ⟨fun z => absurd z (nI_ge (b := 200) (by omega) (by decide)), fun _ => ⟨_, n_readyCount h31 (by omega), ?_⟩⟩
    rintro r X3 ⟨rfl, rfl⟩
    refine ⟨_, rfl, nI_pos (by omega), by rw [nI_clamp (by omega)]; exact hw, ?_⟩
    have h1 := (h.2.1 w hw).1
    have h1 : X3 1 w = nI l := by rw [h1, if_neg hd]; exact hlm
    rw [nI_clamp (by omega), h1, hcnt]
    refine ⟨fun z => absurd z (nI_ge (by omega) (by omega)), fun _ => ⟨_, n_readyAt (nth := 0) h31 (by omega) (by decide), ?_⟩⟩
    rintro r X4 ⟨rfl, rfl⟩
    rcases sel_at (K := cP) (κ := kP) hpm (sel_q hcq hw) kP_mp hs 0 with ⟨-, z⟩ | ⟨i, hj0, hf, hi, he⟩
    · exact absurd z (by omega)
    refine ⟨_, rfl, ?_⟩
    rw [hf]
    cases hW : uC v (2 + w) with
    | nil => rw [hW] at hj0; exact absurd hj0 (Nat.lt_irrefl 0)
    | cons r W =>
      have h0 : (uC v (2 + w))[0] = r := by simp only [hW, List.getElem_cons_zero]
      rw [h0, mp_q hw] at he
      obtain ⟨n, hn⟩ : ∃ n, (flat v).length = n + 1 := ⟨(flat v).length - 1, by omega⟩
      have hrq : rQ r = nI w := hcq.2 w hw r (by rw [hW]; exact List.mem_cons_self)
      have h24 : X4 24 i = nI w := by
        have : X4 24 i = rQ r := congrArg (fun z : Cp => z.2.2.2.1) he
        rw [this, hrq]
      have f1 := sP_01 h.2.2.2.2.2.1 (i := n) (by show n < (flat v).length; omega)
      have f2 := sP_01 h.2.2.2.2.2.1 (i := i) hi
      have hlen : (uC v (2 + w)).length = W.length + 1 := by rw [hW]; rfl
      refine ⟨_, n_letter (n := n) (l := (uC v 1).length) (w := w) (by rw [h31, hn]) (by omega) (by omega) f1.1 f1.2 h.2.2.2.2.2.2.2.1.1 (by omega) hw h24 f2.1, ?_⟩
      rintro r' Y ⟨rfl, g1, g2, g3, g4, g5, g6, g7, g8, g9, g10⟩
      refine ⟨rfl, ?_⟩
      rw [nI_1]
      have hS : SX kk Y (I, upC (upC v (2 + w) W) 1 (uC v 1 ++ [r])) := shed (s := (I, v)) h hd hw hrq hW hn (by omega) he rfl g1 g2 g3 g4 g5 g6 g7 g8 g9 g10
      have esw : sw (upC (upC v (2 + w) W) 1 (uC v 1 ++ [r])) + 1 = sw v := by
        have e0 : sw (upC (upC v (2 + w) W) 1 (uC v 1 ++ [r])) = sw (upC v (2 + w) W) := sumTo_cg 6 (fun p hp => by rw [uC_n (by omega)])
        have e1 : sw (upC v (2 + w) W) + (uC v (2 + w)).length = sw v + W.length := sum_up (f := v.2.1) (g := List.length) (o := 2) hw
        omega
      have esh : sh (upC (upC v (2 + w) W) 1 (uC v 1 ++ [r])) = sh v := sumTo_cg 4 (fun c hc => by rw [uC_n (by omega), uC_n (by omega)])
      refine ih (j + 1) Y _ _ (by rw [g1 42 rfl]; exact h42) hS ?_ ?_ ?_ (by omega) ?_ (by omega) (fun Z h42 hZ => hq Z h42 ?_)
      · refine CQ.up (CQ.up hcq (fun x hx => hcq.1 (2 + w) (isC_q hw) x (by rw [hW]; exact List.mem_cons_of_mem _ hx)) (fun p hp e x hx => ?_)) (fun x hx => ?_) (fun p hp e => by omega)
        · obtain rfl : w = p := by omega
          exact hcq.2 w hw x (by rw [hW]; exact List.mem_cons_of_mem _ hx)
        · rcases List.mem_append.mp hx with hx | hx
          · exact hcq.1 1 isC_1 x hx
          · rw [List.mem_singleton.mp hx]
            exact ⟨w, hw, hrq⟩
      · rw [uC_n (by omega), uC_s]
        rw [hW] at hs
        exact (List.pairwise_cons.mp hs).2
      · rw [uC_s, List.length_append, List.length_singleton, esh]
        omega
      · rw [uC_n (by omega), uC_s]
        omega
      · have : shN (k + 1) w v = shN k w (upC (upC v (2 + w) W) 1 (uC v 1 ++ [r])) := by
          show (match uC v (2 + w) with
            | [] => v
            | r :: W => shN k w (upC (upC v (2 + w) W) 1 (uC v 1 ++ [r]))) = _
          rw [hW]
        rw [this]
        exact hZ
theorem n_put {gc : Nat → Nat} {m : Nat} {M : Nat → Nat} {d : Nat} {X : XT} {kk w b P : Nat} {s : St} {ms : Msg} (h : SX kk X s) (hm : MI P b s) (hP : P + 1 < 2 ^ 31) (hb : b + 1 ≤ 450) (hw : w < 6) (hd : ¬ s.1 (200 + 10 * w) = 0) : WM gc m M (d + 3) 115 [.ref m, .int (nI w), .int ms.1, .int (mKey ms), .int (mHops ms), .int (b2i (mPers ms))] X (fun r X' => r = none ∧ SX kk X' (opPut s w ms) ∧ X' 42 = X 42) := by
  have hall := hm.2.2.2.1.all hm.2.2.1
  have hfl := flat_len (v := s.2)
  have hp := h.2.2.2.2.2.1
  have h31 : X 31 0 = nI (flat s.2).length := hp.1
  have hcl : (nI (flat s.2).length).toNatClampNeg = (flat s.2).length := nI_clamp (by omega)
  have pn : ¬ nI (flat s.2).length < 0 := nI_pos (by omega)
  have hn4 : (flat s.2).length < 400 := by omega
  obtain ⟨lm, hlm, hl1, hl2⟩ := hm.1 w hw
  refine N115 ?_
  rw [h31, hcl]
  refine fun Y1 e1 Y2 e2 => ⟨pn, hn4, fun Y3 e3 => ⟨pn, hn4, fun Y4 e4 => ⟨pn, hn4, fun Y5 e5 => ⟨pn, hn4, fun Y6 e6 => ⟨pn, hn4, fun Y7 e7 => ⟨pn, hn4, fun Y8 e8 => ⟨pn, hn4, fun Y9 e9 => ⟨pn, hn4, fun Y10 e10 => ⟨pn, hn4, b2i_01 _, fun Y11 e11 => ⟨pn, hn4, Or.inl rfl, fun Y12 e12 => ?_⟩⟩⟩⟩⟩⟩⟩⟩⟩⟩
  have q32 : Y2 32 0 = s.1 0 + 1 := by
    rw [e2, wr_s, e1, wr_k (by decide)]
    rw [h.2.2.2.2.2.2.1]
  have q6 : Y6 32 0 = s.1 0 + 1 := by
    rw [e6, wr_k (by decide), e5, wr_k (by decide), e4, wr_k (by decide), e3, wr_k (by decide)]
    exact q32
  rw [q6] at e7
  have hu : opPut s w ms = (upd s.1 0 (s.1 0 + 1), shN ((uC s.2 (2 + w)).length + 1 - lim s.1 w) w (putI s.2 w (mkR ms w (s.1 0 + 1)))) := rfl
  have hlim : lim s.1 w = lm := by
    unfold lim
    rw [hlm, nI_clamp (by omega)]
  have hpi : uC (putI s.2 w (mkR ms w (s.1 0 + 1))) (2 + w) = insR (uC s.2 (2 + w)) (mkR ms w (s.1 0 + 1)) := uC_s
  have hp1 : uC (putI s.2 w (mkR ms w (s.1 0 + 1))) 1 = uC s.2 1 := uC_n (by omega)
  -- the new copy
  have cN : cpA Y12 (flat s.2).length = mp (2 + w) (mkR ms w (s.1 0 + 1)) := by
    rw [mp_q hw]
    unfold cpA
    rw [e12, e11, e10, e9, e8, e7, e6, e5, e4, e3]
    simp [wr]
    rfl
  have cO : ∀ i, i ≠ (flat s.2).length → cpA Y12 i = cpA X i := fun i hi => by
    unfold cpA
    rw [e12, e11, e10, e9, e8, e7, e6, e5, e4, e3, e2, e1]
    simp [wr, hi]
  have hfa : (flat (putI s.2 w (mkR ms w (s.1 0 + 1)))).Perm (mp (2 + w) (mkR ms w (s.1 0 + 1)) :: flat s.2) := flat_add (isP_q hw) insR_perm
  have hflN : (flat (putI s.2 w (mkR ms w (s.1 0 + 1)))).length = (flat s.2).length + 1 := by rw [hfa.length_eq]; rfl
  have hSX : SX kk Y12 (upd s.1 0 (s.1 0 + 1), putI s.2 w (mkR ms w (s.1 0 + 1))) := by
    have ka : ∀ k, k ≤ 20 ∨ 33 ≤ k → Y12 k = X k := fun k hk => by
      rw [e12, e11, e10, e9, e8, e7, e6, e5, e4, e3, e2, e1]
      funext j
      rw [wr_k (by omega), wr_k (by omega), wr_k (by omega), wr_k (by omega), wr_k (by omega), wr_k (by omega), wr_k (by omega), wr_k (by omega), wr_k (by omega), wr_k (by omega), wr_k (by omega), wr_k (by omega)]
    have ha : Ag (fun k => decide (21 ≤ k) && decide (k ≤ 32)) X Y12 := fun k hk => ka k (by
      have hk : (decide (21 ≤ k) && decide (k ≤ 32)) = false := hk
      rw [← Bool.decide_and] at hk
      have := of_decide_eq_false hk
      omega)
    have hpf : ∀ k, ¬ (21 ≤ k ∧ k ≤ 32) → (fun k => decide (21 ≤ k) && decide (k ≤ 32)) k = false := fun k hk => by
      show (decide (21 ≤ k) && decide (k ≤ 32)) = false
      rw [← Bool.decide_and]
      exact decide_eq_false hk
    obtain ⟨h1, h2, h3, h4, h5, h6, h7, h8, h9, h10⟩ := h
    refine ⟨(h1.ag ha rfl rfl).I (fun j w1 w2 => pk_un (by omega)), (h2.ag ha rfl rfl rfl).I (fun j w1 w2 => pk_un (by omega)), h3.ag ha rfl rfl rfl rfl, h4.ag ha rfl rfl rfl rfl, (h5.ag ha (fun k _ _ => hpf k (by omega))).I (fun j w1 w2 => pk_un (by omega)), ?_, ?_, ?_, ?_, ?_⟩
    · unfold sP
      dsimp only
      rw [hflN]
      refine ⟨?_, ?_⟩
      · rw [e12, wr_k (by decide), e11, wr_k (by decide), e10, wr_k (by decide), e9, wr_k (by decide), e8, wr_k (by decide), e7, wr_k (by decide), e6, wr_k (by decide), e5, wr_k (by decide), e4, wr_k (by decide), e3, wr_k (by decide), e2, wr_k (by decide), e1, wr_s, nI_1]
      · have : cpL Y12 ((flat s.2).length + 1) = cpL X (flat s.2).length ++ [mp (2 + w) (mkR ms w (s.1 0 + 1))] := by
          unfold cpL
          rw [List.range_succ, List.map_append, List.map_singleton, cN, List.map_congr_left (fun i hi => cO i (by have := List.mem_range.mp hi; omega))]
        rw [this]
        exact (List.perm_append_singleton _ _).trans ((h6.2.cons _).trans hfa.symm)
    · have : Y12 32 0 = Y2 32 0 := by
        rw [e12, wr_k (by decide), e11, wr_k (by decide), e10, wr_k (by decide), e9, wr_k (by decide), e8, wr_k (by decide), e7, wr_k (by decide), e6, wr_k (by decide), e5, wr_k (by decide), e4, wr_k (by decide), e3, wr_k (by decide)]
      rw [this, q32]
      dsimp only
      exact pk_us.symm
    · have h8 := h8.ag ha (fun k _ _ => hpf k (by omega))
      refine ⟨?_, fun j r hr => ?_⟩
      · dsimp only
        rw [hp1]; exact h8.1
      · dsimp only at hr ⊢
        rw [hp1] at hr
        have := h8.2 j r hr
        unfold ltS at this ⊢
        rw [show dead (upd s.1 0 (s.1 0 + 1)) r = dead s.1 r from pk_un (by omega)]
        exact this
    · rw [ka 39 (by omega), h9]
      dsimp only
      rw [pk_un (by omega)]
    · rw [ka 40 (by omega), h10]
      dsimp only
      rw [pk_un (by omega)]
  have hpl : ∀ y, y ∈ uC s.2 (2 + w) → kP y ≠ kP (mkR ms w (s.1 0 + 1)) := fun y hy => by
    have h5 := hm.2.2.2.2.1
    obtain ⟨p, h8, h9⟩ := hm.2.2.2.2.2.2.2
    have e0 : s.1 0 + 1 = nI (p + 1) := by rw [h9, nI_1]
    have t0 : (s.1 0).toInt = p := by rw [h9]; exact nI_ti (by omega)
    have t1 : (s.1 0 + 1).toInt = (p : Int) + 1 := by rw [e0, nI_ti (by omega)]; omega
    have := h5.2.2.2 _ (pl_mem (isP_q hw) hy)
    show (rP y).toInt ≠ (s.1 0 + 1).toInt
    omega
  have hcq2 : CQ (putI s.2 w (mkR ms w (s.1 0 + 1))) := by
    unfold putI
    refine hm.2.2.1.up (fun x hx => ?_) (fun p hp e x hx => ?_)
    · rcases mem_insG hx with rfl | hx
      · exact ⟨w, hw, rfl⟩
      · exact hm.2.2.1.1 (2 + w) (isC_q hw) x hx
    · obtain rfl : w = p := by omega
      rcases mem_insG hx with rfl | hx
      · rfl
      · exact hm.2.2.1.2 w hw x hx
  have htot := flat_len (v := putI s.2 w (mkR ms w (s.1 0 + 1)))
  have hW60 := hm.2.2.2.1.w hw
  refine pl_loop (d := d) (l := lm) (I := upd s.1 0 (s.1 0 + 1)) hw (by rw [pk_un (by omega)]; exact hd) (by rw [pk_un (by omega)]; exact hlm) hl2 ((uC s.2 (2 + w)).length + 1 - lm) 0 Y12 _ _ rfl hSX hcq2 ?_ ?_ ?_ ?_ (by omega) (fun Z h42 hZ => ⟨rfl, ?_, ?_⟩)
  · rw [hpi]
    exact Srt.ins (hm.2.2.2.2.1.1 w hw) hpl
  · rw [hp1]
    have := hm.2.2.2.1.2.2
    omega
  · omega
  · rw [hpi, insR_len]
  · rw [hu, hlim]
    exact hZ
  · rw [h42, e12, e11, e10, e9, e8, e7, e6, e5, e4, e3, e2, e1]
    funext j
    rw [wr_k (by decide), wr_k (by decide), wr_k (by decide), wr_k (by decide), wr_k (by decide), wr_k (by decide), wr_k (by decide), wr_k (by decide), wr_k (by decide), wr_k (by decide), wr_k (by decide), wr_k (by decide)]
theorem mrt_loop {gc : Nat → Nat} {m : Nat} {M : Nat → Nat} {d : Nat} {q : QT} {kk : Nat} {ms : Msg} {x1 x6 : Int32} {ch : Nat → Bool} (hk : isKeyB (mKey ms) = true) (hh : ∃ n, n ≤ 3 ∧ mHops ms = nI n) : ∀ l w P b (X : XT) (s : St), w + l = 6 → P + l < 2 ^ 31 → b + l ≤ 450 → SX kk X s → MI P b s → (∀ w', w ≤ w' → w' < 6 → X 42 w' = b2i (ch w')) → (∀ w', w' < 6 → ch w' = true → ¬ s.1 (200 + 10 * w') = 0) → (∀ Y, SX kk Y (rtG ms ch l w s) → q (some (.int x6)) Y) → TM gc m M (d + 3) 114 q 11 [.ref m, .int x1, .int ms.1, .int (mKey ms), .int (mHops ms), .int (b2i (mPers ms)), .int x6, .int (nI w)] [] X := by
  intro l
  induction l with
  | zero =>
    intro w P b X s hw hP hb h hm hc hd hq
    exact N114_11 ⟨fun _ => N114_46 (hq X h), fun z => absurd (nI_le (a := 6) (by omega) (by omega)) z⟩
  | succ l ih =>
    intro w P b X s hw hP hb h hm hc hd hq
    have hcw : (nI w).toNatClampNeg = w := nI_clamp (by omega)
    have hu : rtG ms ch (l + 1) w s = rtG ms ch l (w + 1) (if ch w then opPut s w ms else s) := rfl
    rw [hu] at hq
    refine N114_11 ⟨fun z => absurd z (nI_ge (b := 6) (by omega) (by decide)), fun _ => ⟨nI_pos (by omega), by omega, ?_⟩⟩
    rw [hcw, hc w (by omega) (by omega)]
    refine ⟨fun z => N114_40 ?_, fun z => ⟨_, n_put (d := d) h hm (by omega) (by omega) (show w < 6 by omega) (hd w (by omega) (b2i_nz z)), ?_⟩⟩
    · rw [b2i_z.mp z, if_neg (by decide)] at hq
      rw [nI_1]
      exact ih (w + 1) P b X s (by omega) (by omega) (by omega) h hm (fun w' h1 h2 => hc w' (by omega) h2) hd hq
    · rintro r Y ⟨rfl, g1, g2⟩
      refine ⟨rfl, N114_40 ?_⟩
      rw [b2i_nz z, if_pos rfl] at hq
      rw [nI_1]
      have hsm := Sm.put (s := s) (q := w) (m := ms) (by omega)
      refine ih (w + 1) (P + 1) (b + 1) Y _ (by omega) (by omega) (by omega) g1 (hm.put (by omega) (by omega) (hd w (by omega) (b2i_nz z)) hk hh) (fun w' h1 h2 => ?_) (fun w' h1 h2 => ?_) hq
      · rw [g2]
        exact hc w' (by omega) h2
      · rw [hsm.1 _ (by omega)]
        exact hd w' h1 h2
