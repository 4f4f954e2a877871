/-! order of the copies, and what else holds between the steps of a call -/
def kP (r : Rec) : Int := (rP r).toInt
def kT (r : Rec) : Int := (rT r).toInt
theorem ipos_sp {p : Int32} {ys : List Rec} : ∀ n, n ≤ ys.length → Srt kP ys → (∀ j (hj : j < ys.length), ipos p ys n ≤ j → j < n → p.toInt < kP ys[j]) ∧ ∀ j (hj : j < ys.length), j < ipos p ys n → kP ys[j] ≤ p.toInt := by
  intro n
  induction n with
  | zero => intro _ _; exact ⟨fun j _ _ h => absurd h (Nat.not_lt_zero _), fun j _ h => absurd h (Nat.not_lt_zero _)⟩
  | succ n ih =>
    intro hn hs
    have hnl : n < ys.length := by omega
    obtain ⟨h1, h2⟩ := ih (by omega) hs
    have e : ipos p ys (n + 1) = if rP ys[n] ≤ p then n + 1 else ipos p ys n := by
      show (match ys[n]? with
        | none => ipos p ys n
        | some y => if rP y ≤ p then n + 1 else ipos p ys n) = _
      rw [List.getElem?_eq_getElem hnl]
    rw [e]
    by_cases hp : rP ys[n] ≤ p
    · rw [if_pos hp]
      have hp : kP ys[n] ≤ p.toInt := Int32.le_iff_toInt_le.mp hp
      refine ⟨fun j _ z1 z2 => by omega, fun j hj z => ?_⟩
      by_cases hz : j = n
      · subst hz; exact hp
      · have := hs.lt (show j < n by omega) hnl
        omega
    · rw [if_neg hp]
      have hp : p.toInt < kP ys[n] := by
        have : ¬ kP ys[n] ≤ p.toInt := fun z => hp (Int32.le_iff_toInt_le.mpr z)
        omega
      refine ⟨fun j hj z1 z2 => ?_, h2⟩
      by_cases hz : j = n
      · subst hz; exact hp
      · exact h1 j hj z1 (by omega)
theorem insG_perm {α : Type} {ys : List α} {i : Nat} {y : α} : (insG ys i y).Perm (y :: ys) := by
  unfold insG
  refine List.perm_middle.trans ?_
  rw [List.take_append_drop]
theorem insR_perm {ys : List Rec} {r : Rec} : (insR ys r).Perm (r :: ys) := insG_perm
theorem Srt.ins {ys : List Rec} {r : Rec} (hs : Srt kP ys) (hr : ∀ y, y ∈ ys → kP y ≠ kP r) : Srt kP (insR ys r) := by
  obtain ⟨h1, h2⟩ := ipos_sp (p := rP r) ys.length (Nat.le_refl _) hs
  unfold insR insG
  have hs2 : (ys.take (ipos (rP r) ys ys.length) ++ ys.drop (ipos (rP r) ys ys.length)).Pairwise (fun a b => kP a < kP b) := by
    rw [List.take_append_drop]; exact hs
  obtain ⟨g1, g2, g3⟩ := List.pairwise_append.mp hs2
  refine List.pairwise_append.mpr ⟨g1, List.pairwise_cons.mpr ⟨fun y hy => ?_, g2⟩, fun x hx y hy => ?_⟩
  · obtain ⟨j, hj⟩ := List.getElem?_of_mem hy
    rw [List.getElem?_drop] at hj
    obtain ⟨w1, w2⟩ := List.getElem?_eq_some_iff.mp hj
    have := h1 _ w1 (by omega) w1
    rw [w2] at this
    exact this
  · rcases List.mem_cons.mp hy with rfl | hy
    · obtain ⟨j, hj⟩ := List.getElem?_of_mem hx
      have hjl : j < ipos (rP y) ys ys.length := by
        apply Nat.lt_of_not_le
        intro z
        rw [List.getElem?_eq_none (by rw [List.length_take]; omega)] at hj
        cases hj
      rw [List.getElem?_take_of_lt hjl] at hj
      obtain ⟨w1, w2⟩ := List.getElem?_eq_some_iff.mp hj
      have q1 := h2 _ w1 hjl
      rw [w2] at q1
      have q2 := hr x (List.mem_of_mem_take hx)
      have q1 : kP x ≤ kP y := q1
      omega
    · exact g3 x hx y hy
theorem Srt.sub {α : Type} {k : α → Int} {l l' : List α} (h : Srt k l) (hs : l'.Sublist l) : Srt k l' := List.Pairwise.sublist hs h
/-- places: no two alike, none above the last -/
def FP (m : Int) (ps : List Int32) : Prop := ps.Nodup ∧ ∀ x, x ∈ ps → x.toInt ≤ m
theorem FP.perm {m : Int} {ps qs : List Int32} (h : FP m ps) (hp : ps.Perm qs) : FP m qs := ⟨hp.nodup_iff.mp h.1, fun x hx => h.2 x (hp.mem_iff.mpr hx)⟩
theorem FP.sub {m : Int} {ps qs : List Int32} (h : FP m ps) (hp : qs.Sublist ps) : FP m qs := ⟨List.Pairwise.sublist hp h.1, fun x hx => h.2 x (hp.subset hx)⟩
theorem FP.cons {m : Int} {ps : List Int32} {x : Int32} (h : FP m ps) (hx : x.toInt = m + 1) : FP (m + 1) (x :: ps) := by
  refine ⟨List.nodup_cons.mpr ⟨fun hm => ?_, h.1⟩, fun y hy => ?_⟩
  · have := h.2 x hm
    omega
  · rcases List.mem_cons.mp hy with rfl | hy
    · omega
    · have := h.2 y hy
      omega
theorem cP_mp {k : Nat} {r : Rec} : cP (mp k r) = rP r := by
  unfold mp
  split <;> rfl
def CI (I : Nat → Int32) (v : Mu) : Prop := (∀ q, q < 6 → Srt kP (uC v (2 + q))) ∧ (∀ c, c < 4 → Srt kT (uC v (14 + c)) ∧ ∀ r, r ∈ uC v (14 + c) → 0 < kT r ∧ kT r ≤ (I (302 + 10 * c)).toInt) ∧ FP (I 0).toInt ((flat v).map cP)
def rOK (I : Nat → Int32) (r : Rec) : Prop := isKeyB (mKey (rM r)) = true ∧ (∃ n, n ≤ 3 ∧ mHops (rM r) = nI n) ∧ ∃ q, q < 6 ∧ rQ r = nI q ∧ ¬ I (200 + 10 * q) = 0
def OKv (I : Nat → Int32) (v : Mu) : Prop := ∀ k, isC k → ∀ r, r ∈ uC v k → rOK I r
def BI (I : Nat → Int32) (v : Mu) : Prop := (uB v 0).length ≤ 24 ∧ ∀ b, b ∈ uB v 0 → isPat b.2.2 = true ∧ (∃ e, e < 5 ∧ b.1 = nI e ∧ ¬ I (100 + 10 * e) = 0) ∧ ∃ q, q < 6 ∧ b.2.1 = nI q ∧ ¬ I (200 + 10 * q) = 0
def NT (I : Nat → Int32) : Prop := ∀ e, e < 5 → ¬ I (100 + 10 * e) = 0 → ∃ t, t < 3 ∧ I (101 + 10 * e) = nI t
/-- between the steps of a call -/
def MI (P b : Nat) (s : St) : Prop := NOK s.1 ∧ NT s.1 ∧ CQ s.2 ∧ LB s.2 b ∧ CI s.1 s.2 ∧ OKv s.1 s.2 ∧ BI s.1 s.2 ∧ ∃ p, p ≤ P ∧ s.1 0 = nI p
theorem nI_ti {n : Nat} (h : n < 2 ^ 31) : (nI n).toInt = n := by
  show (Int32.ofNat n).toInt = n
  rw [Int32.toInt_ofNat_of_lt h]
/-- a place is in the places -/
theorem pl_mem {v : Mu} {k : Nat} {r : Rec} (hk : isP k = true) (hr : r ∈ uC v k) : rP r ∈ (flat v).map cP := List.mem_map.mpr ⟨mp k r, flat_mem.mpr ⟨k, hk, r, hr, rfl⟩, cP_mp⟩
theorem mk_eq {ys : List Rec} {k : Nat} : (ys.map (mp k)).map cP = ys.map rP := by
  rw [List.map_map]
  exact List.map_congr_left (fun r _ => cP_mp)
/-- the places when list k changes -/
theorem pl_up {v : Mu} {k : Nat} {l : List Rec} {a b : List Int32} (hk : isP k = true) (h : (l.map rP ++ a).Perm ((uC v k).map rP ++ b)) : ((flat (upC v k l)).map cP ++ a).Perm ((flat v).map cP ++ b) := by
  have key : ∀ n, (n ≤ k → fl (upC v k l) n = fl v n) ∧ (k < n → ((fl (upC v k l) n).map cP ++ a).Perm ((fl v n).map cP ++ b)) := by
    intro n
    induction n with
    | zero => exact ⟨fun _ => rfl, fun h => absurd h (Nat.not_lt_zero _)⟩
    | succ n ih =>
      refine ⟨fun hn => ?_, fun hn => ?_⟩
      · show fl (upC v k l) n ++ _ = fl v n ++ _
        rw [ih.1 (by omega), uC_n (by omega)]
      · show ((fl (upC v k l) n ++ _).map cP ++ a).Perm ((fl v n ++ _).map cP ++ b)
        rw [List.map_append, List.map_append]
        by_cases hz : n = k
        · subst hz
          rw [ih.1 (Nat.le_refl _), hk, if_pos rfl, if_pos rfl, uC_s, mk_eq, mk_eq, List.append_assoc, List.append_assoc]
          exact h.append_left _
        · rw [uC_n hz]
          generalize (if isP n then (uC v n).map (mp n) else []).map cP = Z
          rw [List.append_assoc, List.append_assoc]
          refine (List.perm_append_comm.append_left _).trans ?_
          rw [← List.append_assoc]
          refine ((ih.2 (by omega)).append_right Z).trans ?_
          rw [List.append_assoc]
          exact List.perm_append_comm.append_left _
  exact (key 18).2 (by have := isP_lt hk; omega)
theorem flat_1 {v : Mu} {k : Nat} {l : List Rec} (hk : isP k = false) : flat (upC v k l) = flat v := flat_cg (fun j hj => uC_n (fun z => by rw [z, hk] at hj; cases hj))
theorem opPut_eq {s : St} {q : Nat} {m : Msg} : opPut s q m = (upd s.1 0 (s.1 0 + 1), upC (upC s.2 (2 + q) ((insR (uC s.2 (2 + q)) (mkR m q (s.1 0 + 1))).drop ((uC s.2 (2 + q)).length + 1 - lim s.1 q))) 1 (uC s.2 1 ++ (insR (uC s.2 (2 + q)) (mkR m q (s.1 0 + 1))).take ((uC s.2 (2 + q)).length + 1 - lim s.1 q))) := by
  have hp : uC (putI s.2 q (mkR m q (s.1 0 + 1))) (2 + q) = insR (uC s.2 (2 + q)) (mkR m q (s.1 0 + 1)) := uC_s
  have hp1 : uC (putI s.2 q (mkR m q (s.1 0 + 1))) 1 = uC s.2 1 := uC_n (by omega)
  unfold opPut
  rw [shN_eq _ _ (by rw [hp, insR_len]; omega), hp, hp1]
  unfold putI
  rw [upC_upC]
theorem CI.W {I : Nat → Int32} {v : Mu} {k : Nat} {l : List Rec} (h : CI I v) (h1 : ∀ q, q < 6 → k = 2 + q → Srt kP l) (h2 : ∀ c, c < 4 → k = 14 + c → Srt kT l ∧ ∀ r, r ∈ l → 0 < kT r ∧ kT r ≤ (I (302 + 10 * c)).toInt) (h3 : FP (I 0).toInt ((flat (upC v k l)).map cP)) : CI I (upC v k l) := by
  refine ⟨fun q hq6 => ?_, fun c hc => ?_, h3⟩
  · by_cases hz : 2 + q = k
    · subst hz; rw [uC_s]; exact h1 q hq6 rfl
    · rw [uC_n hz]; exact h.1 q hq6
  · by_cases hz : 14 + c = k
    · subst hz; rw [uC_s]; exact h2 c hc rfl
    · rw [uC_n hz]; exact h.2.1 c hc
theorem CI.I0 {I : Nat → Int32} {v : Mu} {x : Int32} (h : CI I v) (h3 : FP x.toInt ((flat v).map cP)) : CI (upd I 0 x) v := by
  refine ⟨h.1, fun c hc => ?_, by rw [pk_us]; exact h3⟩
  rw [pk_un (by omega)]
  exact h.2.1 c hc
theorem MI.put {P b q : Nat} {s : St} {m : Msg} (h : MI P b s) (hP : P + 1 < 2 ^ 31) (hq6 : q < 6) (hd : ¬ s.1 (200 + 10 * q) = 0) (hk : isKeyB (mKey m) = true) (hh : ∃ n, n ≤ 3 ∧ mHops m = nI n) : MI (P + 1) (b + 1) (opPut s q m) := by
  obtain ⟨h1, h2, h3, h4, h5, h6, h7, p, h8, h9⟩ := h
  have hsm := Sm.put (s := s) (q := q) (m := m) hq6
  have e0 : s.1 0 + 1 = nI (p + 1) := by rw [h9, nI_1]
  have t0 : (s.1 0).toInt = p := by rw [h9]; exact nI_ti (by omega)
  have t1 : (s.1 0 + 1).toInt = (p : Int) + 1 := by rw [e0, nI_ti (by omega)]; omega
  refine ⟨hsm.nok h1, fun e he hz => ?_, h3.put hq6, h4.put hq6 (h1.lm hq6), ?_, fun k hkk r hr => ?_, ?_, p + 1, by omega, ?_⟩
  · rw [hsm.1 _ (by omega)] at hz ⊢
    exact h2 e he hz
  · rw [opPut_eq]
    have hpl : ∀ y, y ∈ uC s.2 (2 + q) → kP y ≠ kP (mkR m q (s.1 0 + 1)) := fun y hy => by
      have := h5.2.2.2 _ (pl_mem (isP_q hq6) hy)
      show (rP y).toInt ≠ (s.1 0 + 1).toInt
      omega
    have hfp : FP (s.1 0 + 1).toInt ((flat (upC s.2 (2 + q) ((insR (uC s.2 (2 + q)) (mkR m q (s.1 0 + 1))).drop ((uC s.2 (2 + q)).length + 1 - lim s.1 q)))).map cP) := by
      have g := pl_up (v := s.2) (k := 2 + q) (l := (insR (uC s.2 (2 + q)) (mkR m q (s.1 0 + 1))).drop ((uC s.2 (2 + q)).length + 1 - lim s.1 q)) (a := ((insR (uC s.2 (2 + q)) (mkR m q (s.1 0 + 1))).take ((uC s.2 (2 + q)).length + 1 - lim s.1 q)).map rP) (b := [s.1 0 + 1]) (isP_q hq6) (by
        refine List.perm_append_comm.trans ?_
        rw [← List.map_append, List.take_append_drop]
        exact (insR_perm.map rP).trans (List.perm_append_singleton _ _).symm)
      have g2 : FP (s.1 0 + 1).toInt ((flat s.2).map cP ++ [s.1 0 + 1]) := by
        refine FP.perm ?_ (List.perm_append_singleton _ _).symm
        have := h5.2.2.cons (x := s.1 0 + 1) (by omega)
        rw [t1, ← t0]
        exact this
      exact (g2.perm g.symm).sub (List.sublist_append_left _ _)
    refine ⟨fun q' hq' => ?_, fun c hc => ?_, ?_⟩
    · dsimp only
      rw [uC_n (by omega)]
      by_cases hz : 2 + q' = 2 + q
      · rw [hz, uC_s]
        exact (Srt.ins (h5.1 q hq6) hpl).sub (List.drop_sublist _ _)
      · rw [uC_n hz]
        exact h5.1 q' hq'
    · dsimp only
      rw [uC_n (by omega), uC_n (by omega), pk_un (by omega)]
      exact h5.2.1 c hc
    · dsimp only
      rw [pk_us, flat_1 rfl]
      exact hfp
  · have hI : ∀ r, rOK s.1 r → rOK (opPut s q m).1 r := fun r ⟨w1, w2, q', w3, w4, w5⟩ => ⟨w1, w2, q', w3, w4, by rw [hsm.1 _ (by omega)]; exact w5⟩
    apply hI
    have hn : rOK s.1 (mkR m q (s.1 0 + 1)) := ⟨hk, hh, q, hq6, rfl, hd⟩
    have hin : ∀ x, x ∈ insR (uC s.2 (2 + q)) (mkR m q (s.1 0 + 1)) → rOK s.1 x := fun x hx => by
      rcases mem_insG hx with rfl | hx
      · exact hn
      · exact h6 (2 + q) (isC_q hq6) x hx
    rw [opPut_eq] at hr
    dsimp only at hr
    by_cases hz : k = 1
    · subst hz
      rw [uC_s] at hr
      rcases List.mem_append.mp hr with hr | hr
      · exact h6 1 hkk r hr
      · exact hin r (List.mem_of_mem_take hr)
    · rw [uC_n hz] at hr
      by_cases hz2 : k = 2 + q
      · subst hz2
        rw [uC_s] at hr
        exact hin r (List.mem_of_mem_drop hr)
      · rw [uC_n hz2] at hr
        exact h6 k hkk r hr
  · unfold BI
    rw [show uB (opPut s q m).2 0 = uB s.2 0 from congrFun hsm.2.1 0]
    refine ⟨h7.1, fun x hx => ?_⟩
    obtain ⟨w1, ⟨e, w2, w3, w4⟩, q', w5, w6, w7⟩ := h7.2 x hx
    exact ⟨w1, ⟨e, w2, w3, by rw [hsm.1 _ (by omega)]; exact w4⟩, q', w5, w6, by rw [hsm.1 _ (by omega)]; exact w7⟩
  · rw [opPut_eq]
    dsimp only
    rw [pk_us, e0]
