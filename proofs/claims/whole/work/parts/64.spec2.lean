/-! settling: what the calls do -/
def meant (tg : Int32) (wh : Bool) (r : Rec) : Bool := decide (rD r = -1) && (if wh then decide (tg = 0) || decide (¬ tg < rT r) else decide (rT r = tg))
def rSetD (r : Rec) (D : Int32) : Rec := (rM r, rRet r, rQ r, rP r, rT r, D)
def mrk (tg : Int32) (wh : Bool) (D : Int32) (r : Rec) : Rec := if meant tg wh r then rSetD r D else r
def rBk (r : Rec) : Rec := (rM r, true, rQ r, rP r, rT r, -1)
def bk (v : Mu) (r : Rec) : Mu := upC v (2 + (rQ r).toNatClampNeg) (insR (uC v (2 + (rQ r).toNatClampNeg)) (rBk r))
def stl (v : Mu) (r : Rec) (how : Int32) : Mu := if how = 1 then bk v r else if how = 2 then upC v 1 (uC v 1 ++ [rW r]) else v
def smF (c : Nat) (P : Rec → Bool) (how : Int32) : Nat → Nat → Mu → Mu
  | 0, _, v => v
  | n + 1, j, v => match (uC v (14 + c))[j]? with
    | none => v
    | some r => if P r then smF c P how n j (stl (upC v (14 + c) ((uC v (14 + c)).eraseIdx j)) r how) else smF c P how n (j + 1) v
def clF (c : Nat) : Nat → Mu → Mu
  | 0, v => v
  | n + 1, v => match uC v (14 + c) with
    | [] => v
    | r :: l => clF c n (bk (upC v (14 + c) l) r)
theorem countP_er {p : Rec → Bool} : ∀ {l : List Rec} {j : Nat} {r : Rec}, l[j]? = some r → (l.eraseIdx j).countP p + (p r).toNat = l.countP p ∧ (l.eraseIdx j).length + 1 = l.length := by
  intro l
  induction l with
  | nil => intro j r h; cases h
  | cons y l ih =>
    intro j r h
    cases j with
    | zero =>
      have : y = r := Option.some.inj h
      subst this
      show l.countP p + _ = _ ∧ _
      rw [List.countP_cons]
      refine ⟨?_, rfl⟩
      cases p y <;> rfl
    | succ j =>
      obtain ⟨h1, h2⟩ := ih (j := j) (r := r) h
      show (y :: l.eraseIdx j).countP p + _ = _ ∧ (y :: l.eraseIdx j).length + 1 = _
      rw [List.countP_cons, List.countP_cons, List.length_cons, List.length_cons]
      omega
/-- a copy is taken from a channel -/
theorem LB.tk {v : Mu} {b c j : Nat} {r : Rec} (h : LB v b) (hc : c < 4) (hj : (uC v (14 + c))[j]? = some r) : 1 ≤ b ∧ LB (upC v (14 + c) ((uC v (14 + c)).eraseIdx j)) (b - 1) ∧ ∀ p, p < 6 → (uC v (2 + p)).length + hq (upC v (14 + c) ((uC v (14 + c)).eraseIdx j)) p + (pq p r).toNat ≤ 60 := by
  have ew : ∀ k, k < 8 → uC (upC v (14 + c) ((uC v (14 + c)).eraseIdx j)) k = uC v k := fun k hk => uC_n (by omega)
  have e1 : ∀ p, hq (upC v (14 + c) ((uC v (14 + c)).eraseIdx j)) p + (pq p r).toNat = hq v p := fun p => by
    have h1 := sum_up (f := v.2.1) (g := fun l => l.countP (pq p)) (o := 14) (i := c) (n := 4) (l := (uC v (14 + c)).eraseIdx j) hc
    have h2 := (countP_er (p := pq p) hj).1
    have h1 : hq (upC v (14 + c) ((uC v (14 + c)).eraseIdx j)) p + (uC v (14 + c)).countP (pq p) = hq v p + ((uC v (14 + c)).eraseIdx j).countP (pq p) := h1
    omega
  have e2 : sh (upC v (14 + c) ((uC v (14 + c)).eraseIdx j)) + 1 = sh v := by
    have h1 := sum_up (f := v.2.1) (g := List.length) (o := 14) (i := c) (n := 4) (l := (uC v (14 + c)).eraseIdx j) hc
    have h2 := (countP_er (p := pq 0) hj).2
    have h1 : sh (upC v (14 + c) ((uC v (14 + c)).eraseIdx j)) + (uC v (14 + c)).length = sh v + ((uC v (14 + c)).eraseIdx j).length := h1
    omega
  have e3 : sw (upC v (14 + c) ((uC v (14 + c)).eraseIdx j)) = sw v := sumTo_cg 6 (fun q hq6 => by rw [ew (2 + q) (by omega)])
  have h3 := h.2.2
  refine ⟨by omega, ⟨fun i hi => ?_, fun q hq6 => ?_, ?_⟩, fun p hp => ?_⟩
  · by_cases hz : 14 + i = 14 + c
    · rw [hz, uC_s]
      have := (countP_er (p := pq 0) hj).2
      have := h.1 c hc
      omega
    · rw [uC_n hz]
      exact h.1 i hi
  · rw [ew (2 + q) (by omega)]
    have := h.2.1 q hq6
    have := e1 q
    omega
  · rw [ew 1 (by omega), e3]
    omega
  · have := h.2.1 p hp
    have := e1 p
    omega
theorem LB.upW1 {v : Mu} {b c q : Nat} {W : List Rec} (h : LB v b) (hq6 : q < 6) (h1 : W.length + hq v q ≤ 60) (h2 : W.length + b ≤ (uC v (2 + q)).length + c) : LB (upC v (2 + q) W) c := by
  have := h.upW (L := uC v 1) hq6 h1 (c := c) (by omega)
  have e : upC (upC v (2 + q) W) 1 (uC v 1) = upC v (2 + q) W := by
    have e1 : uC (upC v (2 + q) W) 1 = uC v 1 := uC_n (by omega)
    rw [← e1, upC_id]
  rw [e] at this
  exact this
theorem LB.upL {v : Mu} {b c : Nat} {L : List Rec} (h : LB v b) (h2 : L.length + b ≤ (uC v 1).length + c) : LB (upC v 1 L) c := by
  have := h.upW (q := 0) (W := uC v (2 + 0)) (L := L) (by omega) (h.2.1 0 (by omega)) (c := c) (by omega)
  rw [upC_id] at this
  exact this
theorem LB.bkk {v : Mu} {b c j q : Nat} {r : Rec} (h : LB v b) (hc : c < 4) (hj : (uC v (14 + c))[j]? = some r) (hq6 : q < 6) (hr : rQ r = nI q) : LB (bk (upC v (14 + c) ((uC v (14 + c)).eraseIdx j)) r) b := by
  obtain ⟨h0, h1, h2⟩ := h.tk hc hj
  unfold bk
  rw [hr, nI_clamp (by omega)]
  have h3 := h2 q hq6
  have h4 : pq q r = true := decide_eq_true hr
  rw [h4] at h3
  have h3 : (uC v (2 + q)).length + hq (upC v (14 + c) ((uC v (14 + c)).eraseIdx j)) q + 1 ≤ 60 := h3
  have e : uC (upC v (14 + c) ((uC v (14 + c)).eraseIdx j)) (2 + q) = uC v (2 + q) := uC_n (by omega)
  refine h1.upW1 hq6 ?_ ?_
  · rw [insR_len, e]; omega
  · rw [insR_len, e]; omega
theorem LB.stlk {v : Mu} {b c j : Nat} {r : Rec} {how : Int32} (h : LB v b) (hcq : CQ v) (hc : c < 4) (hj : (uC v (14 + c))[j]? = some r) : LB (stl (upC v (14 + c) ((uC v (14 + c)).eraseIdx j)) r how) b := by
  obtain ⟨q, hq6, hr⟩ := hcq.1 (14 + c) (by unfold isC; omega) r (List.mem_of_getElem? hj)
  obtain ⟨h0, h1, h2⟩ := h.tk hc hj
  unfold stl
  split
  · exact h.bkk hc hj hq6 hr
  · split
    · refine h1.upL ?_
      rw [List.length_append, List.length_singleton]
      omega
    · exact h1.mono (by omega)
theorem CQ.bkk {v : Mu} {r : Rec} {q : Nat} (h : CQ v) (hq6 : q < 6) (hr : rQ r = nI q) : CQ (bk v r) := by
  unfold bk
  rw [hr, nI_clamp (by omega)]
  have hi : ∀ x, x ∈ insR (uC v (2 + q)) (rBk r) → rQ x = nI q := fun x hx => by
    rcases mem_insG hx with rfl | hx
    · exact hr
    · exact h.2 q hq6 x hx
  refine h.up (fun x hx => ⟨q, hq6, hi x hx⟩) (fun p hp e x hx => ?_)
  rw [show p = q by omega]
  exact hi x hx
theorem CQ.er {v : Mu} {c j : Nat} (h : CQ v) (hc : c < 4) : CQ (upC v (14 + c) ((uC v (14 + c)).eraseIdx j)) :=
  h.up (fun x hx => h.1 (14 + c) (by unfold isC; omega) x (List.mem_of_mem_eraseIdx hx)) (fun p hp e => by omega)
theorem CQ.stlk {v : Mu} {c j : Nat} {r : Rec} {how : Int32} (h : CQ v) (hc : c < 4) (hj : (uC v (14 + c))[j]? = some r) : CQ (stl (upC v (14 + c) ((uC v (14 + c)).eraseIdx j)) r how) := by
  obtain ⟨q, hq6, hr⟩ := h.1 (14 + c) (by unfold isC; omega) r (List.mem_of_getElem? hj)
  unfold stl
  split
  · exact (h.er hc).bkk hq6 hr
  · split
    · refine (h.er hc).up (fun x hx => ?_) (fun p hp e => by omega)
      rcases List.mem_append.mp hx with hx | hx
      · exact (h.er hc).1 1 (by unfold isC; omega) x hx
      · rw [List.mem_singleton.mp hx]
        exact ⟨q, hq6, hr⟩
    · exact h.er hc
/-- bindings, rows, deeds stay -/
def Sv (v w : Mu) : Prop := w.1 = v.1 ∧ w.2.2 = v.2.2
theorem Sv.refl (v : Mu) : Sv v v := ⟨rfl, rfl⟩
theorem Sv.trans {u v w : Mu} (h1 : Sv u v) (h2 : Sv v w) : Sv u w := ⟨h2.1.trans h1.1, h2.2.trans h1.2⟩
theorem Sv.up {v : Mu} {k : Nat} {l : List Rec} : Sv v (upC v k l) := ⟨rfl, rfl⟩
theorem Sv.stlk {v : Mu} {r : Rec} {how : Int32} : Sv v (stl v r how) := by
  unfold stl
  split
  · exact Sv.up
  · split
    · exact Sv.up
    · exact Sv.refl _
/-- marked or unmarked one by one -/
def mpF (f : Rec → Rec) (l : List Rec) (i : Nat) : List Rec := (l.take i).map f ++ l.drop i
theorem mpF_0 {f : Rec → Rec} {l : List Rec} : mpF f l 0 = l := rfl
theorem mpF_n {f : Rec → Rec} {l : List Rec} : mpF f l l.length = l.map f := by
  unfold mpF
  rw [List.take_length, List.drop_length, List.append_nil]
theorem mpF_len {f : Rec → Rec} {l : List Rec} {i : Nat} : (mpF f l i).length = l.length := by
  unfold mpF
  rw [List.length_append, List.length_map, List.length_take, List.length_drop]
  omega
theorem mpF_get {f : Rec → Rec} {l : List Rec} {i : Nat} (hi : i < l.length) : (mpF f l i)[i]? = some l[i] := by
  unfold mpF
  have hl : ((l.take i).map f).length = i := by rw [List.length_map, List.length_take]; omega
  rw [List.getElem?_append_right (by omega), hl, Nat.sub_self, List.getElem?_drop, Nat.add_zero, List.getElem?_eq_getElem hi]
theorem mpF_set {f : Rec → Rec} {l : List Rec} {i : Nat} (hi : i < l.length) : (mpF f l i).set i (f l[i]) = mpF f l (i + 1) := by
  unfold mpF
  have hl : ((l.take i).map f).length = i := by rw [List.length_map, List.length_take]; omega
  rw [List.set_append_right _ _ (by omega), hl, Nat.sub_self, List.drop_eq_getElem_cons hi, List.set_cons_zero, List.take_add_one, List.getElem?_eq_getElem hi, List.map_append, List.append_assoc]
  rfl
theorem mpF_same {f : Rec → Rec} {l : List Rec} {i : Nat} (hi : i < l.length) (hf : f l[i] = l[i]) : mpF f l (i + 1) = mpF f l i := by
  rw [← mpF_set hi, hf]
  apply List.ext_getElem?
  intro j
  by_cases hj : i = j
  · subst hj
    rw [List.getElem?_set_self (by rw [mpF_len]; exact hi), mpF_get hi]
  · rw [List.getElem?_set_ne hj]
/-- settling a copy leaves what is held alone -/
theorem stl_H {v : Mu} {r : Rec} {how : Int32} {k q : Nat} (hk : 14 ≤ k) (hq6 : q < 6) (hr : rQ r = nI q) : uC (stl v r how) k = uC v k := by
  unfold stl bk
  rw [hr, nI_clamp (by omega)]
  split
  · exact uC_n (by omega)
  · split
    · exact uC_n (by omega)
    · rfl
