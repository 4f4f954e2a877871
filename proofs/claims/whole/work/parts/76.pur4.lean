/-! the steps keep what holds -/
theorem ch_dec {s : St} {e q : Nat} {key : Int32} (h : BI s.1 s.2) (hq6 : q < 6) (hc : isCh s e q key = true) : ¬ s.1 (200 + 10 * q) = 0 := by
  obtain ⟨b, hb, hc⟩ := List.any_eq_true.mp hc
  obtain ⟨-, -, q', w1, w2, w3⟩ := h.2 b hb
  unfold chB at hc
  rw [Bool.and_eq_true, Bool.and_eq_true, decide_eq_true_eq, decide_eq_true_eq] at hc
  have := hc.2.1
  rw [w2] at this
  have := (nI_eq (by omega) (by omega)).mp this
  subst this
  exact w3
theorem MI.mono {P b P' b' : Nat} {s : St} (h : MI P b s) (hP : P ≤ P') (hb : b ≤ b') : MI P' b' s := by
  obtain ⟨h1, h2, h3, h4, h5, h6, h7, p, h8, h9⟩ := h
  exact ⟨h1, h2, h3, h4.mono hb, h5, h6, h7, p, by omega, h9⟩
theorem MI.rt {e : Nat} {m : Msg} (hk : isKeyB (mKey m) = true) (hh : ∃ n, n ≤ 3 ∧ mHops m = nI n) : ∀ n q P b (s : St), q + n ≤ 6 → P + n < 2 ^ 31 → MI P b s → MI (P + n) (b + n) (rtF e m n q s) := by
  intro n
  induction n with
  | zero => intro q P b s _ _ h; exact h
  | succ n ih =>
    intro q P b s hq6 hP h
    show MI (P + (n + 1)) (b + (n + 1)) (rtF e m n (q + 1) (if isCh s e q (mKey m) then opPut s q m else s))
    rw [show P + (n + 1) = P + 1 + n by omega, show b + (n + 1) = b + 1 + n by omega]
    refine ih (q + 1) (P + 1) (b + 1) _ (by omega) (by omega) ?_
    split
    · rename_i hc
      exact h.put (by omega) (by omega) (ch_dec h.2.2.2.2.2.2.1 (by omega) hc) hk hh
    · exact h.mono (by omega) (by omega)
/-- the two counts -/
theorem MI.ct {P b j : Nat} {s : St} {x : Int32} (h : MI P b s) (hj : j = 1 ∨ j = 2) : MI P b (upd s.1 j x, s.2) := by
  obtain ⟨h1, h2, h3, h4, h5, h6, h7, p, h8, h9⟩ := h
  have e : ∀ i, i = 0 ∨ 3 ≤ i → upd s.1 j x i = s.1 i := fun i hi => pk_un (by omega)
  refine ⟨fun q hq6 => ?_, fun i hi hz => ?_, h3, h4, ⟨h5.1, fun c hc => ?_, ?_⟩, fun k hk r hr => ?_, ⟨h7.1, fun y hy => ?_⟩, p, h8, ?_⟩
  · show ∃ l, upd s.1 j x (201 + 10 * q) = _ ∧ _
    rw [e _ (by omega)]; exact h1 q hq6
  · have hz : ¬ upd s.1 j x (100 + 10 * i) = 0 := hz
    show ∃ t, _ ∧ upd s.1 j x (101 + 10 * i) = _
    rw [e _ (by omega)] at hz ⊢
    exact h2 i hi hz
  · show _ ∧ ∀ r, _ → _ ∧ _ ≤ (upd s.1 j x (302 + 10 * c)).toInt
    rw [e _ (by omega)]; exact h5.2.1 c hc
  · show FP (upd s.1 j x 0).toInt _
    rw [e _ (by omega)]; exact h5.2.2
  · obtain ⟨w1, w2, q', w3, w4, w5⟩ := h6 k hk r hr
    exact ⟨w1, w2, q', w3, w4, by show ¬ upd s.1 j x _ = 0; rw [e _ (by omega)]; exact w5⟩
  · obtain ⟨w1, ⟨i, w2, w3, w4⟩, q', w5, w6, w7⟩ := h7.2 y hy
    exact ⟨w1, ⟨i, w2, w3, by show ¬ upd s.1 j x _ = 0; rw [e _ (by omega)]; exact w4⟩, q', w5, w6, by show ¬ upd s.1 j x _ = 0; rw [e _ (by omega)]; exact w7⟩
  · show upd s.1 j x 0 = _
    rw [e _ (by omega)]; exact h9
/-- copies change, nothing else -/
theorem MI.cp {P b b' : Nat} {s : St} {v : Mu} (h : MI P b s) (hB : v.1 = s.2.1) (h3 : CQ v) (h4 : LB v b') (h5 : CI s.1 v) (h6 : OKv s.1 v) : MI P b' (s.1, v) := by
  obtain ⟨h1, h2, -, -, -, -, h7, p, h8, h9⟩ := h
  refine ⟨h1, h2, h3, h4, h5, h6, ?_, p, h8, h9⟩
  unfold BI
  rw [show uB (s.1, v).2 0 = uB s.2 0 from congrFun hB 0]
  exact h7
theorem CI.cg {I : Nat → Int32} {v w : Mu} (h : CI I v) (hc : ∀ k, isP k = true → uC w k = uC v k) : CI I w := by
  refine ⟨fun q hq6 => ?_, fun c hcc => ?_, ?_⟩
  · rw [hc _ (isP_q hq6)]; exact h.1 q hq6
  · rw [hc _ (isP_c hcc)]; exact h.2.1 c hcc
  · rw [flat_cg hc]; exact h.2.2
theorem OKv.up {I : Nat → Int32} {v : Mu} {k : Nat} {l : List Rec} (h : OKv I v) (hl : ∀ r, r ∈ l → rOK I r) : OKv I (upC v k l) := fun j hj r hr => by
  by_cases hz : j = k
  · subst hz; rw [uC_s] at hr; exact hl r hr
  · rw [uC_n hz] at hr; exact h j hj r hr
theorem MI.lt {P b : Nat} {s : St} {L : List Rec} {b' : Nat} (h : MI P b s) (hl : ∀ r, r ∈ L → rOK s.1 r) (hb : L.length + b ≤ (uC s.2 1).length + b') : MI P b' (s.1, upC s.2 1 L) := by
  have h0 := h
  obtain ⟨-, -, h3, h4, h5, h6, -⟩ := h
  refine h0.cp rfl (h3.up (fun r hr => ?_) (fun q _ e => by omega)) (h4.upL hb) (h5.cg (fun k hk => uC_n (fun z => by rw [z] at hk; cases hk))) (h6.up hl)
  obtain ⟨-, -, q, w1, w2, -⟩ := hl r hr
  exact ⟨q, w1, w2⟩
theorem MI.rlFk {P0 b0 : Nat} (hP0 : P0 + 18 < 2 ^ 31) : ∀ n i k (s : St), k ≤ 3 → MI (P0 + 6 * k) (b0 + 6 * k) s → MI (P0 + 18) (b0 + 18) (rlF n i k s).2 ∧ (rlF n i k s).1 ≤ 3 := by
  intro n
  induction n with
  | zero => intro i k s hk h; exact ⟨h.mono (by omega) (by omega), hk⟩
  | succ n ih =>
    intro i k s hk h
    have hs : rlF (n + 1) i k s = (match (uC s.2 1)[i]? with
      | none => (k, s)
      | some r => if decide (k < 3) && goOn s.1 r then rlF n (i + 1) (k + 1) (opRt s (dead s.1 r).toNatClampNeg (hopM (rM r))) else rlF n (i + 1) k (upd s.1 2 (s.1 2 + 1), s.2)) := rfl
    cases hg : (uC s.2 1)[i]? with
    | none =>
      rw [hg] at hs
      dsimp only at hs
      rw [hs]
      exact ⟨h.mono (by omega) (by omega), hk⟩
    | some r =>
      rw [hg] at hs
      dsimp only at hs
      rw [hs]
      by_cases hc : (decide (k < 3) && goOn s.1 r) = true
      · rw [if_pos hc]
        rw [Bool.and_eq_true, decide_eq_true_eq] at hc
        obtain ⟨hc1, hc2⟩ := hc
        unfold goOn at hc2
        rw [Bool.and_eq_true, decide_eq_true_eq] at hc2
        obtain ⟨w1, ⟨m, w2, w3⟩, -⟩ := h.2.2.2.2.2.1 1 isC_1 r (List.mem_of_getElem? hg)
        refine ih (i + 1) (k + 1) _ (by omega) ?_
        have hm : m < 3 := by
          apply Nat.lt_of_not_le
          intro z
          exact hc2.2 (by rw [w3]; exact nI_le (a := 3) z (by omega))
        have := MI.rt (e := (dead s.1 r).toNatClampNeg) (m := hopM (rM r)) w1 ⟨m + 1, by omega, by show mHops (rM r) + 1 = _; rw [w3, nI_1]⟩ 6 0 _ _ s (by omega) (by omega) h
        exact this.mono (by omega) (by omega)
      · rw [if_neg hc]
        exact ih (i + 1) k _ hk (h.ct (Or.inr rfl))
theorem opRl_L {s : St} : uC (opRl s).2 1 = [] := uC_s
theorem MI.rl {P b : Nat} {s : St} (h : MI P b s) (hP : P + 18 < 2 ^ 31) : MI (P + 18) (b + 18) (opRl s) := by
  obtain ⟨h1, h2⟩ := MI.rlFk hP 450 0 0 s (by omega) h
  have h3 := h1.ct (j := 1) (x := (rlF 450 0 0 s).2.1 1 + nI (rlF 450 0 0 s).1) (Or.inl rfl)
  exact h3.lt (L := []) (fun r hr => absurd hr List.not_mem_nil) (by rw [List.length_nil]; omega)
/-- all copies together -/
theorem sumTo_add {f g : Nat → Nat} : ∀ n, sumTo (fun i => f i + g i) n = sumTo f n + sumTo g n := by
  intro n
  induction n with
  | zero => rfl
  | succ n ih =>
    show sumTo (fun i => f i + g i) n + (f n + g n) = sumTo f n + f n + (sumTo g n + g n)
    rw [ih]; omega
theorem cnt_all {l : List Rec} (h : ∀ r, r ∈ l → ∃ q, q < 6 ∧ rQ r = nI q) : sumTo (fun q => l.countP (pq q)) 6 = l.length := by
  induction l with
  | nil => rfl
  | cons r l ih =>
    have ih := ih (fun x hx => h x (List.mem_cons_of_mem _ hx))
    obtain ⟨q, hq6, hr⟩ := h r List.mem_cons_self
    have e : (fun q => (r :: l).countP (pq q)) = fun p => l.countP (pq p) + (if p = q then 1 else if 6 ≤ p then (if pq p r then 1 else 0) else 0) := by
      funext p
      rw [List.countP_cons]
      by_cases hz : p = q
      · subst hz
        rw [if_pos rfl, if_pos (show pq p r = true from decide_eq_true hr)]
      · rw [if_neg hz]
        by_cases hp : 6 ≤ p
        · rw [if_pos hp]
        · rw [if_neg hp, if_neg]
          intro w
          have w := of_decide_eq_true w
          rw [hr] at w
          exact hz ((nI_eq (by omega) (by omega)).mp w).symm
    have e2 : sumTo (fun p => if p = q then 1 else if 6 ≤ p then (if pq p r then 1 else 0) else 0) 6 = 1 := by
      have : ∀ n, n ≤ 6 → sumTo (fun p => if p = q then 1 else if 6 ≤ p then (if pq p r then 1 else 0) else 0) n = if q < n then 1 else 0 := by
        intro n
        induction n with
        | zero => intro _; rfl
        | succ n ihn =>
          intro hn
          show sumTo _ n + (if n = q then 1 else if 6 ≤ n then (if pq n r then 1 else 0) else 0) = _
          rw [ihn (by omega), if_neg (show ¬ 6 ≤ n by omega)]
          by_cases h1 : n = q
          · subst h1
            rw [if_neg (Nat.lt_irrefl _), if_pos rfl, if_pos (by omega)]
          · rw [if_neg h1]
            by_cases h2 : q < n
            · rw [if_pos h2, if_pos (by omega)]
            · rw [if_neg h2, if_neg (by omega)]
      rw [this 6 (Nat.le_refl _), if_pos hq6]
    rw [e, sumTo_add, ih, e2, List.length_cons]
theorem sumTo_swap {f : Nat → Nat → Nat} {m : Nat} : ∀ n, sumTo (fun i => sumTo (f i) m) n = sumTo (fun j => sumTo (fun i => f i j) n) m := by
  intro n
  induction n with
  | zero =>
    show 0 = _
    induction m with
    | zero => rfl
    | succ m ih => show 0 = sumTo _ m + 0; rw [← ih]
  | succ n ih =>
    show sumTo _ n + sumTo (f n) m = sumTo (fun j => sumTo (fun i => f i j) n + f n j) m
    rw [ih, sumTo_add]
theorem LB.all {v : Mu} {b : Nat} (h : LB v b) (hc : CQ v) : sw v + sh v ≤ 360 := by
  have e : sh v = sumTo (fun q => hq v q) 6 := by
    have e1 : sh v = sumTo (fun c => sumTo (fun q => (uC v (14 + c)).countP (pq q)) 6) 4 := sumTo_cg 4 (fun c hcc => (cnt_all (fun r hr => hc.1 (14 + c) (isC_c hcc) r hr)).symm)
    rw [e1, sumTo_swap]
    rfl
  rw [e]
  unfold sw
  rw [← sumTo_add]
  exact sumTo_le (b := 60) 6 (fun q hq6 => h.2.1 q hq6)
theorem LB.fin {v : Mu} {b : Nat} (h : LB v b) (hc : CQ v) (hL : uC v 1 = []) : LB v 360 := by
  refine ⟨h.1, h.2.1, ?_⟩
  have := h.all hc
  rw [hL, List.length_nil]
  omega
/-- a copy leaves a channel -/
theorem er_sub {α : Type} {l : List α} {j : Nat} : (l.eraseIdx j).Sublist l := List.eraseIdx_sublist l j
theorem pl_er {v : Mu} {c j : Nat} {r : Rec} (hc : c < 4) (hj : (uC v (14 + c))[j]? = some r) : (rP r :: (flat (upC v (14 + c) ((uC v (14 + c)).eraseIdx j))).map cP).Perm ((flat v).map cP) := by
  obtain ⟨w1, w2⟩ := List.getElem?_eq_some_iff.mp hj
  have := (flat_er (isP_c hc) w1).map cP
  rw [List.map_cons, cP_mp, w2] at this
  exact this
theorem MI.er {P b c j : Nat} {s : St} {r : Rec} (h : MI P b s) (hc : c < 4) (hj : (uC s.2 (14 + c))[j]? = some r) : MI P b (s.1, upC s.2 (14 + c) ((uC s.2 (14 + c)).eraseIdx j)) ∧ rP r ∉ (flat (upC s.2 (14 + c) ((uC s.2 (14 + c)).eraseIdx j))).map cP ∧ (rP r).toInt ≤ (s.1 0).toInt ∧ rOK s.1 r := by
  have h0 := h
  obtain ⟨-, -, h3, h4, h5, h6, -⟩ := h
  have hp := h5.2.2.perm (pl_er hc hj).symm
  obtain ⟨t0, htk, -⟩ := h4.tk hc hj
  refine ⟨h0.cp rfl (h3.er hc) (htk.mono (by omega)) (h5.W (fun q hq6 e => by omega) (fun c' hc' e => ?_) (hp.sub (List.sublist_cons_self _ _))) (h6.up (fun x hx => h6 (14 + c) (isC_c hc) x (List.mem_of_mem_eraseIdx hx))), (List.nodup_cons.mp hp.1).1, hp.2 _ List.mem_cons_self, h6 (14 + c) (isC_c hc) r (List.mem_of_getElem? hj)⟩
  obtain rfl : c' = c := by omega
  exact ⟨(h5.2.1 c' hc').1.sub er_sub, fun x hx => (h5.2.1 c' hc').2 x (List.mem_of_mem_eraseIdx hx)⟩
theorem CI.bkk {I : Nat → Int32} {v : Mu} {r : Rec} {w : Nat} (h : CI I v) (hw : w < 6) (h1 : rP r ∉ (flat v).map cP) (h2 : (rP r).toInt ≤ (I 0).toInt) : CI I (upC v (2 + w) (insR (uC v (2 + w)) (rBk r))) := by
  have hpr : ((flat (upC v (2 + w) (insR (uC v (2 + w)) (rBk r)))).map cP).Perm (rP r :: (flat v).map cP) := by
    have := (flat_add (v := v) (k := 2 + w) (l := insR (uC v (2 + w)) (rBk r)) (r := rBk r) (isP_q hw) insR_perm).map cP
    rw [List.map_cons, cP_mp] at this
    exact this
  refine h.W (fun q hq6 e => ?_) (fun c hc e => by omega) (FP.perm ?_ hpr.symm)
  · refine Srt.ins (h.1 w hw) (fun y hy z => ?_)
    have z : rP y = rP r := Int32.toInt_inj.mp z
    exact h1 (z ▸ pl_mem (isP_q hw) hy)
  · refine ⟨List.nodup_cons.mpr ⟨h1, h.2.2.1⟩, fun x hx => ?_⟩
    rcases List.mem_cons.mp hx with rfl | hx
    · exact h2
    · exact h.2.2.2 x hx
theorem MI.stlk {P b c j : Nat} {s : St} {r : Rec} {how : Int32} (h : MI P b s) (hc : c < 4) (hj : (uC s.2 (14 + c))[j]? = some r) : MI P b (s.1, stl (upC s.2 (14 + c) ((uC s.2 (14 + c)).eraseIdx j)) r how) := by
  obtain ⟨g1, g2, g3, g4⟩ := h.er hc hj
  have hst := h.2.2.2.1.stlk (how := how) h.2.2.1 hc hj
  have hcs := h.2.2.1.stlk (how := how) hc hj
  obtain ⟨k1, k2, w, hw6, hwr, hwd⟩ := g4
  refine g1.cp ?_ hcs hst ?_ ?_
  · unfold stl
    split
    · rfl
    · split <;> rfl
  · unfold stl
    split
    · unfold bk
      rw [hwr, nI_clamp (by omega)]
      exact g1.2.2.2.2.1.bkk hw6 g2 g3
    · split
      · exact g1.2.2.2.2.1.cg (fun k hk => uC_n (fun z => by rw [z] at hk; cases hk))
      · exact g1.2.2.2.2.1
  · have hok := g1.2.2.2.2.2.1
    unfold stl
    split
    · unfold bk
      rw [hwr, nI_clamp (by omega)]
      refine hok.up (fun x hx => ?_)
      rcases mem_insG hx with rfl | hx
      · exact ⟨k1, k2, w, hw6, hwr, hwd⟩
      · exact hok (2 + w) (isC_q hw6) x hx
    · split
      · refine hok.up (fun x hx => ?_)
        rcases List.mem_append.mp hx with hx | hx
        · exact hok 1 isC_1 x hx
        · rw [List.mem_singleton.mp hx]
          exact ⟨k1, k2, w, hw6, hwr, hwd⟩
      · exact hok
theorem MI.smFk {P b c : Nat} {p : Rec → Bool} {how : Int32} (hc : c < 4) : ∀ n j (s : St), MI P b s → MI P b (s.1, smF c p how n j s.2) := by
  intro n
  induction n with
  | zero => intro j s h; exact h
  | succ n ih =>
    intro j s h
    have hs : smF c p how (n + 1) j s.2 = (match (uC s.2 (14 + c))[j]? with
      | none => s.2
      | some r => if p r then smF c p how n j (stl (upC s.2 (14 + c) ((uC s.2 (14 + c)).eraseIdx j)) r how) else smF c p how n (j + 1) s.2) := rfl
    rw [hs]
    cases hg : (uC s.2 (14 + c))[j]? with
    | none => exact h
    | some r =>
      dsimp only
      by_cases hp : p r = true
      · rw [if_pos hp]
        exact ih j _ (h.stlk hc hg)
      · rw [if_neg hp]
        exact ih (j + 1) _ h
theorem MI.clFk {P b c : Nat} (hc : c < 4) : ∀ n (s : St), MI P b s → MI P b (s.1, clF c n s.2) := by
  intro n
  induction n with
  | zero => intro s h; exact h
  | succ n ih =>
    intro s h
    have hs : clF c (n + 1) s.2 = (match uC s.2 (14 + c) with
      | [] => s.2
      | r :: l => clF c n (bk (upC s.2 (14 + c) l) r)) := rfl
    rw [hs]
    cases hg : uC s.2 (14 + c) with
    | nil => exact h
    | cons r l =>
      dsimp only
      have := h.stlk (how := 1) hc (j := 0) (r := r) (by rw [hg]; rfl)
      rw [hg] at this
      exact ih _ this
/-- marks -/
theorem map_places {v : Mu} {c : Nat} {f : Rec → Rec} (hc : c < 4) (hf : ∀ r, rP (f r) = rP r) : ((flat (upC v (14 + c) ((uC v (14 + c)).map f))).map cP).Perm ((flat v).map cP) := by
  have := pl_up (v := v) (k := 14 + c) (l := (uC v (14 + c)).map f) (a := []) (b := []) (isP_c hc) (by
    rw [List.append_nil, List.append_nil, List.map_map]
    rw [show (uC v (14 + c)).map (rP ∘ f) = (uC v (14 + c)).map rP from List.map_congr_left (fun r _ => hf r)])
  rw [List.append_nil, List.append_nil] at this
  exact this
theorem MI.mapH {P b c : Nat} {s : St} {f : Rec → Rec} (h : MI P b s) (hc : c < 4) (h1 : ∀ r, rM (f r) = rM r ∧ rQ (f r) = rQ r ∧ rP (f r) = rP r ∧ rT (f r) = rT r) : MI P b (s.1, upC s.2 (14 + c) ((uC s.2 (14 + c)).map f)) := by
  have h0 := h
  obtain ⟨-, -, h3, h4, h5, h6, -⟩ := h
  refine h0.cp rfl (h3.mapH hc (fun r => (h1 r).2.1)) (h4.mapH hc (fun r => (h1 r).2.1)) (h5.W (fun q hq6 e => by omega) (fun c' hc' e => ?_) (h5.2.2.perm (map_places hc (fun r => (h1 r).2.2.1)).symm)) (h6.up (fun x hx => ?_))
  · obtain rfl : c' = c := by omega
    refine ⟨List.pairwise_map.mpr ((h5.2.1 c' hc').1.imp (fun {a b} hab => ?_)), fun x hx => ?_⟩
    · unfold kT
      rw [(h1 a).2.2.2, (h1 b).2.2.2]
      exact hab
    · obtain ⟨y, hy, rfl⟩ := List.mem_map.mp hx
      unfold kT
      rw [(h1 y).2.2.2]
      exact (h5.2.1 c' hc').2 y hy
  · obtain ⟨y, hy, rfl⟩ := List.mem_map.mp hx
    obtain ⟨w1, w2, q, w3, w4, w5⟩ := h6 (14 + c) (isC_c hc) y hy
    refine ⟨?_, ?_, q, w3, ?_, w5⟩
    · rw [(h1 y).1]; exact w1
    · rw [(h1 y).1]; exact w2
    · rw [(h1 y).2.1]; exact w4
