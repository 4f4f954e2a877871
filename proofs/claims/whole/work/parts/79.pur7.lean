/-! publish, settle, commit, rollback keep what holds -/
theorem IV.go {P T P' b : Nat} {s t : St} (h : IV P T s) (hm : MI P' b t) (hL : uC t.2 1 = []) (hI : ∀ j, 3 ≤ j → t.1 j = s.1 j) (hR : t.2.2.2 = s.2.2.2) (hD : ∀ c, c < 4 → ∀ r, r ∈ uC t.2 (14 + c) → ∃ r', r' ∈ uC s.2 (14 + c) ∧ rD r = rD r') : IV P' T t := by
  obtain ⟨a1, a2, a3, a4, a5, a6⟩ := h
  have eR : ∀ k, uR t.2 k = uR s.2 k := fun k => congrFun (congrArg Prod.fst hR) k
  have eD : ∀ k, uD t.2 k = uD s.2 k := fun k => congrFun (congrArg Prod.snd hR) k
  obtain ⟨h1, h2, h3, h4, h5, h6, h7, h8⟩ := hm
  refine ⟨⟨h1, h2, h3, h4.fin h3 hL, h5, h6, h7, h8⟩, hL, fun q hq6 => ?_, fun c hc => ?_, fun c hc => ?_, fun c hc => ?_⟩
  · rw [eR, hI _ (by omega)]; exact a3 q hq6
  · obtain ⟨u1, u2, u3, u4⟩ := a4 c hc
    rw [eD, hI _ (by omega)]
    refine ⟨u1, u2, fun r hr => ?_, u4⟩
    obtain ⟨r', w1, w2⟩ := hD c hc r hr
    rw [w2]; exact u3 r' w1
  · rw [hI _ (by omega)]; exact a5 c hc
  · rw [hI _ (by omega)]; exact a6 c hc
/-- what routing leaves alone -/
def S3 (s t : St) : Prop := (∀ j, 3 ≤ j → t.1 j = s.1 j) ∧ t.2.1 = s.2.1 ∧ t.2.2.2 = s.2.2.2 ∧ ∀ c, c < 4 → uC t.2 (14 + c) = uC s.2 (14 + c)
theorem S3.refl (s : St) : S3 s s := ⟨fun _ _ => rfl, rfl, rfl, fun _ _ => rfl⟩
theorem S3.trans {s t u : St} (h1 : S3 s t) (h2 : S3 t u) : S3 s u := ⟨fun j hj => (h2.1 j hj).trans (h1.1 j hj), h2.2.1.trans h1.2.1, h2.2.2.1.trans h1.2.2.1, fun c hc => (h2.2.2.2 c hc).trans (h1.2.2.2 c hc)⟩
theorem Sm.s3 {s t : St} (h : Sm s t) : S3 s t := ⟨fun j hj => h.1 j (by omega), h.2.1, h.2.2.1, h.2.2.2⟩
theorem S3.rlFk : ∀ n i k (s : St), S3 s (rlF n i k s).2 := by
  intro n
  induction n with
  | zero => intro i k s; exact S3.refl s
  | succ n ih =>
    intro i k s
    have hs : rlF (n + 1) i k s = (match (uC s.2 1)[i]? with
      | none => (k, s)
      | some r => if decide (k < 3) && goOn s.1 r then rlF n (i + 1) (k + 1) (opRt s (dead s.1 r).toNatClampNeg (hopM (rM r))) else rlF n (i + 1) k (upd s.1 2 (s.1 2 + 1), s.2)) := rfl
    rw [hs]
    cases hg : (uC s.2 1)[i]? with
    | none => exact S3.refl s
    | some r =>
      dsimp only
      by_cases hc : (decide (k < 3) && goOn s.1 r) = true
      · rw [if_pos hc]
        exact (Sm.rt 6 0 s (by omega)).s3.trans (ih _ _ _)
      · rw [if_neg hc]
        exact S3.trans (t := (upd s.1 2 (s.1 2 + 1), s.2)) ⟨fun j hj => pk_un (by omega), rfl, rfl, fun _ _ => rfl⟩ (ih _ _ _)
theorem S3.rl {s : St} : S3 s (opRl s) := by
  refine (S3.rlFk 450 0 0 s).trans ⟨fun j hj => pk_un (by omega), rfl, rfl, fun c hc => uC_n (by omega)⟩
theorem v_pb {P T : Nat} {s : St} {x1 x2 x3 x4 x5 : Int32} (h : IV P T s) (hP : P + 42 < 2 ^ 31) : IV (P + 42) T (opPb s x1 x2 x3 x4 x5).2 := by
  have h' := h.mono (P' := P + 42) (by omega) (Nat.le_refl T)
  unfold opPb
  split
  rotate_left
  · exact h'
  rename_i hc
  rw [Bool.and_eq_true, Bool.and_eq_true, Bool.and_eq_true] at hc
  obtain ⟨c1, c2, c3, c4⟩ := hc
  obtain ⟨c, hc4, rfl⟩ := wi_rng (n := 3) (by decide) c1
  obtain ⟨e, he, rfl, hde⟩ := isEx_dec c2
  rw [nI_clamp (by omega), nI_clamp (show e < 2 ^ 31 by omega)]
  split
  · split
    · exact h'
    · have m1 := MI.rt (e := e) (m := pubM x3 x4 x5) c3 ⟨0, by omega, rfl⟩ 6 0 P 360 s (by omega) (by omega) h.1
      have s0 := (Sm.rt (e := e) (m := pubM x3 x4 x5) 6 0 s (by omega)).s3
      unfold opRt
      generalize rtF e (pubM x3 x4 x5) 6 0 s = t at m1 s0
      have m2 := m1.rl (by omega)
      have s1 := s0.trans (S3.rl (s := t))
      have hL := opRl_L (s := t)
      generalize opRl t = w at m2 s1 hL
      refine h.go (m2.mono (P' := P + 42) (b' := 384) (by omega) (by omega)) hL s1.1 s1.2.2.1 (fun c' hc' r hr => ⟨r, ?_, rfl⟩)
      have e1 := s1.2.2.2 c' hc'
      rw [← e1]
      exact hr
  · split
    · rename_i hl
      obtain ⟨a1, a2, a3, a4, a5, a6⟩ := h'
      refine ⟨⟨a1.1, a1.2.1, CQ.cg rfl a1.2.2.1, LB.cg rfl a1.2.2.2.1, a1.2.2.2.2.1.cg (fun _ _ => rfl), a1.2.2.2.2.2.1, a1.2.2.2.2.2.2⟩, a2, a3, fun c' hc' => ?_, a5, a6⟩
      obtain ⟨u1, u2, u3, u4⟩ := a4 c' hc'
      by_cases hz : c' = c
      · subst hz
        show (uD (upD s.2 (18 + c') _) (18 + c')).length ≤ 4 ∧ _ ∧ (∀ r, _ → _ ∨ ∃ j, j < (uD (upD s.2 (18 + c') _) (18 + c')).length ∧ _) ∧ ∀ d, d ∈ uD (upD s.2 (18 + c') _) (18 + c') → _
        rw [uD_s]
        refine ⟨by rw [List.length_append, List.length_singleton]; omega, fun z => ?_, fun r hr => ?_, fun d hd => ?_⟩
        · rename_i hz2
          exact absurd z hz2
        · rcases u3 r hr with w | ⟨j, w1, w2⟩
          · exact Or.inl w
          · exact Or.inr ⟨j, by rw [List.length_append]; omega, w2⟩
        · rcases List.mem_append.mp hd with hd | hd
          · exact u4 d hd
          · rw [List.mem_singleton.mp hd]
            exact ⟨⟨e, he, rfl⟩, c3, rfl⟩
      · show (uD (upD s.2 (18 + c) _) (18 + c')).length ≤ 4 ∧ (_ → uD (upD s.2 (18 + c) _) (18 + c') = []) ∧ (∀ r, _ → _ ∨ ∃ j, j < (uD (upD s.2 (18 + c) _) (18 + c')).length ∧ _) ∧ ∀ d, d ∈ uD (upD s.2 (18 + c) _) (18 + c') → _
        rw [uD_n (by omega)]
        exact ⟨u1, u2, u3, u4⟩
    · exact h'
/-- what settling leaves of the channel's copies -/
theorem smF_H {c : Nat} {p : Rec → Bool} {how : Int32} (hc : c < 4) : ∀ n j (v : Mu), CQ v → j + n = (uC v (14 + c)).length → uC (smF c p how n j v) (14 + c) = (uC v (14 + c)).take j ++ ((uC v (14 + c)).drop j).filter (fun r => !p r) := by
  intro n
  induction n with
  | zero =>
    intro j v _ hj
    show uC v (14 + c) = _
    rw [List.take_of_length_le (by omega), List.drop_eq_nil_of_le (by omega)]
    exact (List.append_nil _).symm
  | succ n ih =>
    intro j v hcq hj
    have hjl : j < (uC v (14 + c)).length := by omega
    have hg := List.getElem?_eq_getElem hjl
    have hs : smF c p how (n + 1) j v = (match (uC v (14 + c))[j]? with
      | none => v
      | some r => if p r then smF c p how n j (stl (upC v (14 + c) ((uC v (14 + c)).eraseIdx j)) r how) else smF c p how n (j + 1) v) := rfl
    rw [hg] at hs
    dsimp only at hs
    rw [hs]
    by_cases hp : p (uC v (14 + c))[j] = true
    · rw [if_pos hp]
      obtain ⟨q, hq6, hr⟩ := hcq.1 (14 + c) (isC_c hc) _ (List.getElem_mem hjl)
      have e : uC (stl (upC v (14 + c) ((uC v (14 + c)).eraseIdx j)) (uC v (14 + c))[j] how) (14 + c) = (uC v (14 + c)).eraseIdx j := by rw [stl_H (by omega) hq6 hr, uC_s]
      rw [ih j _ (hcq.stlk hc hg) (by rw [e, List.length_eraseIdx_of_lt hjl]; omega), e, List.drop_eq_getElem_cons hjl, List.filter_cons_of_neg (by rw [hp]; decide)]
      have e2 : ((uC v (14 + c)).eraseIdx j).take j = (uC v (14 + c)).take j := by
        rw [List.eraseIdx_eq_take_drop_succ, List.take_append_of_le_length (by rw [List.length_take]; omega), List.take_take, Nat.min_self]
      have e3 : ((uC v (14 + c)).eraseIdx j).drop j = (uC v (14 + c)).drop (j + 1) := by
        rw [List.eraseIdx_eq_take_drop_succ, List.drop_append_of_le_length (by rw [List.length_take]; omega), List.drop_eq_nil_of_le (by rw [List.length_take]; omega), List.nil_append]
      rw [e2, e3]
    · rw [if_neg hp, ih (j + 1) v hcq (by omega), List.drop_eq_getElem_cons hjl, List.filter_cons_of_pos (by rw [Bool.eq_false_iff.mpr hp]; rfl), List.take_add_one, hg, List.append_assoc]
      rfl
theorem smF_o {c : Nat} {p : Rec → Bool} {how : Int32} (hc : c < 4) : ∀ n j (v : Mu), CQ v → (∀ k, 14 ≤ k → k ≠ 14 + c → uC (smF c p how n j v) k = uC v k) ∧ Sv v (smF c p how n j v) := by
  intro n
  induction n with
  | zero => intro j v _; exact ⟨fun _ _ _ => rfl, Sv.refl v⟩
  | succ n ih =>
    intro j v hcq
    have hs : smF c p how (n + 1) j v = (match (uC v (14 + c))[j]? with
      | none => v
      | some r => if p r then smF c p how n j (stl (upC v (14 + c) ((uC v (14 + c)).eraseIdx j)) r how) else smF c p how n (j + 1) v) := rfl
    rw [hs]
    cases hg : (uC v (14 + c))[j]? with
    | none => exact ⟨fun _ _ _ => rfl, Sv.refl v⟩
    | some r =>
      dsimp only
      by_cases hp : p r = true
      · rw [if_pos hp]
        obtain ⟨q, hq6, hr⟩ := hcq.1 (14 + c) (isC_c hc) _ (List.mem_of_getElem? hg)
        obtain ⟨g1, g2⟩ := ih j _ (hcq.stlk (how := how) hc hg)
        refine ⟨fun k hk hkn => ?_, (Sv.up.trans Sv.stlk).trans g2⟩
        rw [g1 k hk hkn, stl_H hk hq6 hr, uC_n hkn]
      · rw [if_neg hp]
        exact ih (j + 1) v hcq
theorem mrk_ok {tg : Int32} {wh : Bool} {D : Int32} (r : Rec) : rM (mrk tg wh D r) = rM r ∧ rQ (mrk tg wh D r) = rQ r ∧ rP (mrk tg wh D r) = rP r ∧ rT (mrk tg wh D r) = rT r := by
  unfold mrk
  split <;> exact ⟨rfl, rfl, rfl, rfl⟩
theorem un_ok (r : Rec) : rM (un r) = rM r ∧ rQ (un r) = rQ r ∧ rP (un r) = rP r ∧ rT (un r) = rT r := ⟨rfl, rfl, rfl, rfl⟩
theorem v_st {P T : Nat} {s : St} {x1 tg : Int32} {wh : Bool} {how : Int32} (h : IV P T s) (hP : P + 42 < 2 ^ 31) : IV (P + 42) T (opSt s x1 tg wh how).2 := by
  have h' := h.mono (P' := P + 42) (by omega) (Nat.le_refl T)
  unfold opSt
  split
  rotate_left
  · exact h'
  rename_i hc0
  unfold stC at hc0
  rw [Bool.and_eq_true, Bool.and_eq_true, Bool.and_eq_true] at hc0
  obtain ⟨c, hc, rfl⟩ := wi_rng (n := 3) (by decide) hc0.1
  have hhow := hc0.2.2.2
  dsimp only
  rw [nI_clamp (by omega)]
  split
  · exact h'
  split
  · rename_i hn htx
    obtain ⟨u1, u2, u3, u4⟩ := h.2.2.2.1 c hc
    have hD0 := u2 htx
    have m1 := h.1.mapH (f := mrk tg wh (nI (uD s.2 (18 + c)).length)) hc mrk_ok
    have m2 := MI.smFk (p := isDd (nI (uD s.2 (18 + c)).length)) (how := how) hc (uC s.2 (14 + c)).length 0 _ m1
    have m3 := m2.rl (by omega)
    generalize hv : upC s.2 (14 + c) ((uC s.2 (14 + c)).map (mrk tg wh (nI (uD s.2 (18 + c)).length))) = v1 at m1 m2 m3
    have hcv : uC v1 (14 + c) = (uC s.2 (14 + c)).map (mrk tg wh (nI (uD s.2 (18 + c)).length)) := by rw [← hv, uC_s]
    have s1 : S3 (s.1, smF c (isDd (nI (uD s.2 (18 + c)).length)) how (uC s.2 (14 + c)).length 0 v1) _ := S3.rl
    obtain ⟨g1, g2⟩ := smF_o (p := isDd (nI (uD s.2 (18 + c)).length)) (how := how) hc (uC s.2 (14 + c)).length 0 v1 m1.2.2.1
    have g3 := smF_H (p := isDd (nI (uD s.2 (18 + c)).length)) (how := how) hc (uC s.2 (14 + c)).length 0 v1 m1.2.2.1 (by rw [hcv, List.length_map]; omega)
    refine h.go (m3.mono (P' := P + 42) (b' := 378) (by omega) (by omega)) opRl_L s1.1 ?_ (fun c' hc' r hr => ?_)
    · rw [s1.2.2.1]
      show (smF c _ how _ 0 v1).2.2 = _
      rw [g2.2, ← hv]
      rfl
    · have e1 := s1.2.2.2 c' hc'
      rw [e1] at hr
      have hr : r ∈ uC (smF c (isDd (nI (uD s.2 (18 + c)).length)) how (uC s.2 (14 + c)).length 0 v1) (14 + c') := hr
      by_cases hz : c' = c
      · subst hz
        rw [g3, List.take_zero, List.nil_append, List.drop_zero, hcv] at hr
        obtain ⟨hr1, hr2⟩ := List.mem_filter.mp hr
        obtain ⟨y, hy, rfl⟩ := List.mem_map.mp hr1
        refine ⟨y, hy, ?_⟩
        unfold mrk at hr2 ⊢
        split
        · rename_i hm
          rw [if_pos hm] at hr2
          have : isDd (nI (uD s.2 (18 + c')).length) (rSetD y (nI (uD s.2 (18 + c')).length)) = true := decide_eq_true rfl
          rw [this] at hr2
          cases hr2
        · rfl
      · rw [g1 _ (by omega) (by omega), ← hv, uC_n (by omega)] at hr
        exact ⟨r, hr, rfl⟩
  · rename_i hn htx
    split
    · rename_i hl
      have m1 := h'.1.mapH (f := mrk tg wh (nI (uD s.2 (18 + c)).length)) hc mrk_ok
      obtain ⟨a1, a2, a3, a4, a5, a6⟩ := h'
      refine ⟨⟨m1.1, m1.2.1, CQ.cg rfl m1.2.2.1, LB.cg rfl m1.2.2.2.1, m1.2.2.2.2.1.cg (fun _ _ => rfl), m1.2.2.2.2.2.1, m1.2.2.2.2.2.2⟩, ?_, a3, fun c' hc' => ?_, a5, a6⟩
      · show uC (upC s.2 (14 + c) _) 1 = []
        rw [uC_n (by omega)]; exact a2
      obtain ⟨u1, u2, u3, u4⟩ := a4 c' hc'
      show (uD (upD (upC s.2 (14 + c) _) (18 + c) _) (18 + c')).length ≤ 4 ∧ (_ → uD (upD (upC s.2 (14 + c) _) (18 + c) _) (18 + c') = []) ∧ (∀ r, r ∈ uC (upC s.2 (14 + c) _) (14 + c') → _ ∨ ∃ j, j < (uD (upD (upC s.2 (14 + c) _) (18 + c) _) (18 + c')).length ∧ _) ∧ ∀ d, d ∈ uD (upD (upC s.2 (14 + c) _) (18 + c) _) (18 + c') → _
      by_cases hz : c' = c
      · subst hz
        rw [uD_s, uC_s]
        refine ⟨by rw [List.length_append, List.length_singleton]; omega, fun z => absurd z htx, fun r hr => ?_, fun d hd => ?_⟩
        · rw [List.length_append, List.length_singleton]
          obtain ⟨y, hy, rfl⟩ := List.mem_map.mp hr
          unfold mrk
          split
          · exact Or.inr ⟨_, Nat.lt_succ_self _, rfl⟩
          · rcases u3 y hy with w | ⟨j, w1, w2⟩
            · exact Or.inl w
            · exact Or.inr ⟨j, by omega, w2⟩
        · rcases List.mem_append.mp hd with hd | hd
          · exact u4 d hd
          · rw [List.mem_singleton.mp hd]
            obtain ⟨n, w1, w2⟩ := wi_rng (n := 2) (by decide) hhow
            exact ⟨rfl, n, w1, w2⟩
      · rw [uD_n (by omega), uC_n (by omega)]
        exact ⟨u1, u2, u3, u4⟩
    · exact h'
/-- no deed, no mark -/
theorem v_fgt {P T c : Nat} {s : St} (h : IV P T s) (hc : c < 4) : IV P T (s.1, fgt c s.2) := by
  have m1 := h.1.mapH (f := un) hc un_ok
  obtain ⟨a1, a2, a3, a4, a5, a6⟩ := h
  refine ⟨⟨m1.1, m1.2.1, CQ.cg rfl m1.2.2.1, LB.cg rfl m1.2.2.2.1, m1.2.2.2.2.1.cg (fun _ _ => rfl), m1.2.2.2.2.2.1, m1.2.2.2.2.2.2⟩, ?_, a3, fun c' hc' => ?_, a5, a6⟩
  · show uC (upC s.2 (14 + c) _) 1 = []
    rw [uC_n (by omega)]; exact a2
  · obtain ⟨u1, u2, u3, u4⟩ := a4 c' hc'
    show (uD (upD s.2 (18 + c) []) (18 + c')).length ≤ 4 ∧ (_ → uD (upD s.2 (18 + c) []) (18 + c') = []) ∧ (∀ r, r ∈ uC (upC s.2 (14 + c) _) (14 + c') → _ ∨ ∃ j, j < (uD (upD s.2 (18 + c) []) (18 + c')).length ∧ _) ∧ ∀ d, d ∈ uD (upD s.2 (18 + c) []) (18 + c') → _
    by_cases hz : c' = c
    · subst hz
      rw [uD_s, uC_s]
      refine ⟨Nat.zero_le _, fun _ => rfl, fun r hr => ?_, fun d hd => absurd hd List.not_mem_nil⟩
      obtain ⟨y, hy, rfl⟩ := List.mem_map.mp hr
      exact Or.inl rfl
    · rw [uD_n (by omega), uC_n (by omega)]
      exact ⟨u1, u2, u3, u4⟩
theorem v_rb {P T : Nat} {s : St} {x : Int32} (h : IV P T s) : IV P T (opRb s x).2 := by
  unfold opRb
  split
  · rename_i hc
    obtain ⟨c, hc4, rfl⟩ := wi_rng (n := 3) (by decide) hc
    split
    · exact h
    · rw [nI_clamp (by omega)]
      exact v_fgt h hc4
  · exact h
theorem MI.dd {P b c : Nat} {s : St} {k : Nat} (h : MI P b s) (hP : P + 6 < 2 ^ 31) (hc : c < 4) (hd : ∀ d, d ∈ uD s.2 (18 + c) → dOK d) : MI (P + 6) (b + 6) (opDd c k s) := by
  unfold opDd
  cases hg : (uD s.2 (18 + c))[k]? with
  | none => exact h.mono (by omega) (by omega)
  | some dd =>
    dsimp only
    have hok := hd dd (List.mem_of_getElem? hg)
    unfold dOK at hok
    cases hm : dd.2.1 with
    | none => exact (MI.smFk hc _ _ _ h).mono (by omega) (by omega)
    | some m =>
      rw [hm] at hok
      dsimp only at hok ⊢
      split
      · exact MI.rt hok.2.1 ⟨0, by omega, hok.2.2⟩ 6 0 P b s (by omega) hP h
      · exact h.mono (by omega) (by omega)
/-- what a deed leaves alone: rows, deeds, other channels; the channel's copies only get fewer -/
theorem dd_S {c k : Nat} {s : St} (hc : c < 4) (hcq : CQ s.2) : (∀ j, 1 ≤ j → (opDd c k s).1 j = s.1 j) ∧ (opDd c k s).2.2.2 = s.2.2.2 ∧ (∀ c', c' < 4 → ∀ r, r ∈ uC (opDd c k s).2 (14 + c') → r ∈ uC s.2 (14 + c')) := by
  unfold opDd
  cases hg : (uD s.2 (18 + c))[k]? with
  | none => exact ⟨fun _ _ => rfl, rfl, fun _ _ _ h => h⟩
  | some dd =>
    dsimp only
    cases hm : dd.2.1 with
    | none =>
      dsimp only
      obtain ⟨g1, g2⟩ := smF_o (p := isDd (nI k)) (how := dd.2.2) hc (uC s.2 (14 + c)).length 0 s.2 hcq
      have g3 := smF_H (p := isDd (nI k)) (how := dd.2.2) hc (uC s.2 (14 + c)).length 0 s.2 hcq (by omega)
      refine ⟨fun _ _ => rfl, g2.2, fun c' hc' r hr => ?_⟩
      by_cases hz : c' = c
      · subst hz
        rw [g3, List.take_zero, List.nil_append, List.drop_zero] at hr
        exact (List.mem_filter.mp hr).1
      · rw [g1 _ (by omega) (by omega)] at hr
        exact hr
    | some m =>
      dsimp only
      split
      · have := Sm.rt (e := dd.1.toNatClampNeg) (m := m) 6 0 s (by omega)
        refine ⟨this.1, this.2.2.1, fun c' hc' r hr => ?_⟩
        have e1 := this.2.2.2 c' hc'
        rw [← e1]; exact hr
      · exact ⟨fun _ _ => rfl, rfl, fun _ _ _ h => h⟩
theorem MI.ddFk {c : Nat} (hc : c < 4) : ∀ n k P b (s : St), P + 6 * n < 2 ^ 31 → MI P b s → (∀ d, d ∈ uD s.2 (18 + c) → dOK d) → MI (P + 6 * n) (b + 6 * n) (ddF c n k s) ∧ (∀ j, 1 ≤ j → (ddF c n k s).1 j = s.1 j) ∧ (ddF c n k s).2.2.2 = s.2.2.2 ∧ (∀ c', c' < 4 → ∀ r, r ∈ uC (ddF c n k s).2 (14 + c') → r ∈ uC s.2 (14 + c')) := by
  intro n
  induction n with
  | zero => intro k P b s _ h _; exact ⟨h, fun _ _ => rfl, rfl, fun _ _ _ h => h⟩
  | succ n ih =>
    intro k P b s hP h hd
    have m1 := h.dd (k := k) (by omega) hc hd
    obtain ⟨d1, d2, d3⟩ := dd_S (k := k) hc h.2.2.1
    have hd2 : ∀ d, d ∈ uD (opDd c k s).2 (18 + c) → dOK d := by
      rw [show uD (opDd c k s).2 (18 + c) = uD s.2 (18 + c) from congrFun (congrArg Prod.snd d2) _]
      exact hd
    obtain ⟨g1, g2, g3, g4⟩ := ih (k + 1) (P + 6) (b + 6) _ (by omega) m1 hd2
    refine ⟨?_, fun j hj => (g2 j hj).trans (d1 j hj), g3.trans d2, fun c' hc' r hr => d3 c' hc' r (g4 c' hc' r hr)⟩
    rw [show P + 6 * (n + 1) = P + 6 + 6 * n by omega, show b + 6 * (n + 1) = b + 6 + 6 * n by omega]
    exact g1
theorem v_cm {P T : Nat} {s : St} {x : Int32} (h : IV P T s) (hP : P + 42 < 2 ^ 31) : IV (P + 42) T (opCm s x).2 := by
  have h' := h.mono (P' := P + 42) (by omega) (Nat.le_refl T)
  unfold opCm
  split
  rotate_left
  · exact h'
  rename_i hc0
  obtain ⟨c, hc, rfl⟩ := wi_rng (n := 3) (by decide) hc0
  rw [nI_clamp (by omega)]
  split
  · exact h'
  dsimp only
  obtain ⟨u1, u2, u3, u4⟩ := h.2.2.2.1 c hc
  obtain ⟨m1, m2, m3, m4⟩ := MI.ddFk hc (uD s.2 (18 + c)).length 0 P 360 s (by omega) h.1 u4
  generalize ddF c (uD s.2 (18 + c)).length 0 s = t at m1 m2 m3 m4
  have f1 := m1.mapH (f := un) hc un_ok
  have f2 : MI (P + 6 * (uD s.2 (18 + c)).length) (360 + 6 * (uD s.2 (18 + c)).length) (t.1, fgt c t.2) := ⟨f1.1, f1.2.1, CQ.cg rfl f1.2.2.1, LB.cg rfl f1.2.2.2.1, f1.2.2.2.2.1.cg (fun _ _ => rfl), f1.2.2.2.2.2.1, f1.2.2.2.2.2.2⟩
  have f3 := f2.rl (by omega)
  have s1 : S3 (t.1, fgt c t.2) _ := S3.rl
  have hL := opRl_L (s := (t.1, fgt c t.2))
  generalize opRl (t.1, fgt c t.2) = w at f3 s1 hL
  obtain ⟨a1, a2, a3, a4, a5, a6⟩ := h
  have eR : ∀ k, uR w.2 k = uR s.2 k := fun k => by
    rw [show uR w.2 k = uR t.2 k from congrFun (congrArg Prod.fst s1.2.2.1) k]
    exact congrFun (congrArg Prod.fst m3) k
  have eI : ∀ j, 3 ≤ j → w.1 j = s.1 j := fun j hj => (s1.1 j hj).trans (m2 j (by omega))
  have eD : ∀ k, uD w.2 k = uD (upD t.2 (18 + c) []) k := fun k => congrFun (congrArg Prod.snd s1.2.2.1) k
  have eT : ∀ k, uD t.2 k = uD s.2 k := fun k => congrFun (congrArg Prod.snd m3) k
  have eC : ∀ c', c' < 4 → uC w.2 (14 + c') = uC (upC t.2 (14 + c) ((uC t.2 (14 + c)).map un)) (14 + c') := fun c' hc' => s1.2.2.2 c' hc'
  obtain ⟨p1, p2, p3, p4, p5, p6, p7, p8⟩ := f3.mono (P' := P + 42) (Nat.add_le_add_left (show 6 * (uD s.2 (18 + c)).length + 18 ≤ 42 by omega) P) (Nat.le_refl _)
  refine ⟨⟨p1, p2, p3, p4.fin p3 hL, p5, p6, p7, p8⟩, hL, fun q hq6 => ?_, fun c' hc' => ?_, fun c' hc' => ?_, fun c' hc' => ?_⟩
  · rw [eR, eI _ (by omega)]; exact a3 q hq6
  · rw [eD, eI _ (by omega), eC c' hc']
    obtain ⟨v1, v2, v3, v4⟩ := a4 c' hc'
    by_cases hz : c' = c
    · subst hz
      rw [uD_s, uC_s]
      refine ⟨Nat.zero_le _, fun _ => rfl, fun r hr => ?_, fun d hd => absurd hd List.not_mem_nil⟩
      obtain ⟨y, hy, rfl⟩ := List.mem_map.mp hr
      exact Or.inl rfl
    · rw [uD_n (by omega), uC_n (by omega), eT]
      exact ⟨v1, v2, fun r hr => v3 r (m4 c' hc' r hr), v4⟩
  · rw [eI _ (by omega)]; exact a5 c' hc'
  · rw [eI _ (by omega)]; exact a6 c' hc'
