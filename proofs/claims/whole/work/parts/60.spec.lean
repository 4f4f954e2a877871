/-! what the calls do: put, route, letters -/
abbrev St : Type := (Nat → Int32) × Mu
def mKey (m : Msg) : Int32 := m.2.1
def mHops (m : Msg) : Int32 := m.2.2.1
def mPers (m : Msg) : Bool := m.2.2.2
def hopM (m : Msg) : Msg := (m.1, m.2.1, m.2.2.1 + 1, m.2.2.2)
def rW (r : Rec) : Rec := (rM r, rRet r, rQ r, rP r, rT r, -1)
/-- does a binding choose queue q -/
def chB (ty : Int32) (e q : Nat) (key : Int32) (b : Bnd) : Bool := decide (b.1 = nI e) && (decide (b.2.1 = nI q) && (decide (ty = 1) || (decide (b.2.2 = key) || (decide (ty = 2) && isM b.2.2 key))))
def isCh (s : St) (e q : Nat) (key : Int32) : Bool := (uB s.2 0).any (chB (s.1 (101 + 10 * e)) e q key)
/-- where a copy with place p goes in -/
def ipos (p : Int32) (ys : List Rec) : Nat → Nat
  | 0 => 0
  | n + 1 => match ys[n]? with
    | none => ipos p ys n
    | some y => if rP y ≤ p then n + 1 else ipos p ys n
def insR (ys : List Rec) (r : Rec) : List Rec := insG ys (ipos (rP r) ys ys.length) r
def mkR (m : Msg) (q : Nat) (p : Int32) : Rec := (m, false, nI q, p, 0, -1)
def shN : Nat → Nat → Mu → Mu
  | 0, _, v => v
  | n + 1, q, v => match uC v (2 + q) with
    | [] => v
    | r :: W => shN n q (upC (upC v (2 + q) W) 1 (uC v 1 ++ [r]))
def lim (I : Nat → Int32) (q : Nat) : Nat := (I (201 + 10 * q)).toNatClampNeg
def putI (v : Mu) (q : Nat) (r : Rec) : Mu := upC v (2 + q) (insR (uC v (2 + q)) r)
def opPut (s : St) (q : Nat) (m : Msg) : St := (upd s.1 0 (s.1 0 + 1), shN ((uC s.2 (2 + q)).length + 1 - lim s.1 q) q (putI s.2 q (mkR m q (s.1 0 + 1))))
def rtF (e : Nat) (m : Msg) : Nat → Nat → St → St
  | 0, _, s => s
  | n + 1, q, s => rtF e m n (q + 1) (if isCh s e q (mKey m) then opPut s q m else s)
def opRt (s : St) (e : Nat) (m : Msg) : St := rtF e m 6 0 s
/-- the exchange that a letter goes on to -/
def dead (I : Nat → Int32) (r : Rec) : Int32 := I (202 + 10 * (rQ r).toNatClampNeg)
def goOn (I : Nat → Int32) (r : Rec) : Bool := isEx I (dead I r) && decide (¬ 3 ≤ mHops (rM r))
/-- letters from i on, n steps at most; k have been routed -/
def rlF : Nat → Nat → Nat → St → Nat × St
  | 0, _, k, s => (k, s)
  | n + 1, i, k, s => match (uC s.2 1)[i]? with
    | none => (k, s)
    | some r => if decide (k < 3) && goOn s.1 r then rlF n (i + 1) (k + 1) (opRt s (dead s.1 r).toNatClampNeg (hopM (rM r))) else rlF n (i + 1) k (upd s.1 2 (s.1 2 + 1), s.2)
def opRl (s : St) : St := (fun t : Nat × St => (upd t.2.1 1 (t.2.1 1 + nI t.1), upC t.2.2 1 [])) (rlF 450 0 0 s)
/-! bounds -/
def pq (q : Nat) (r : Rec) : Bool := decide (rQ r = nI q)
def hq (v : Mu) (q : Nat) : Nat := sumTo (fun c => (uC v (14 + c)).countP (pq q)) 4
def sw (v : Mu) : Nat := sumTo (fun q => (uC v (2 + q)).length) 6
def sh (v : Mu) : Nat := sumTo (fun c => (uC v (14 + c)).length) 4
def LB (v : Mu) (b : Nat) : Prop := (∀ c, c < 4 → (uC v (14 + c)).length ≤ 12) ∧ (∀ q, q < 6 → (uC v (2 + q)).length + hq v q ≤ 60) ∧ (uC v 1).length + sw v + sh v ≤ b
theorem sumTo_cg {f g : Nat → Nat} : ∀ n, (∀ i, i < n → f i = g i) → sumTo f n = sumTo g n := by
  intro n
  induction n with
  | zero => intro _; rfl
  | succ n ih => intro h; show sumTo f n + f n = sumTo g n + g n; rw [ih (fun i hi => h i (by omega)), h n (by omega)]
theorem sumTo_le2 {f g : Nat → Nat} : ∀ n, (∀ i, i < n → f i ≤ g i) → sumTo f n ≤ sumTo g n := by
  intro n
  induction n with
  | zero => intro _; exact Nat.le_refl _
  | succ n ih => intro h; show sumTo f n + f n ≤ sumTo g n + g n; have := ih (fun i hi => h i (by omega)); have := h n (by omega); omega
theorem sumTo_at {f : Nat → Nat} {i : Nat} : ∀ n, i < n → f i ≤ sumTo f n := by
  intro n
  induction n with
  | zero => intro h; omega
  | succ n ih =>
    intro h
    show f i ≤ sumTo f n + f n
    by_cases hi : i = n
    · subst hi; omega
    · have := ih (by omega); omega
/-- a sum over lists, one of which changes -/
theorem sum_up {α : Type} {f : Nat → List α} {g : List α → Nat} {o i n : Nat} {l : List α} (hi : i < n) : sumTo (fun j => g (va_up f (o + i) l (o + j))) n + g (f (o + i)) = sumTo (fun j => g (f (o + j))) n + g l := by
  have h1 : (fun j => g (va_up f (o + i) l (o + j))) = va_up (fun j => g (f (o + j))) i (g l) := by
    funext j
    by_cases hj : j = i
    · subst hj; rw [va_up_self, va_up_self]
    · rw [va_up_ne _ _ (by omega), va_up_ne _ _ hj]
  rw [h1]
  exact (sumTo_up (f := fun j => g (f (o + j))) n).1 hi
theorem sum_ot {α : Type} {f : Nat → List α} {g : List α → Nat} {o k n : Nat} {l : List α} (hi : ∀ j, j < n → o + j ≠ k) : sumTo (fun j => g (va_up f k l (o + j))) n = sumTo (fun j => g (f (o + j))) n := sumTo_cg n (fun j hj => by rw [va_up_ne _ _ (hi j hj)])
theorem hq_le {v : Mu} {b q : Nat} (h : LB v b) : hq v q ≤ sh v ∧ sh v ≤ 48 := by
  refine ⟨sumTo_le2 4 (fun c _ => List.countP_le_length), ?_⟩
  have := sumTo_le (f := fun c => (uC v (14 + c)).length) (b := 12) 4 (fun c hc => h.1 c hc)
  unfold sh
  omega
theorem LB.w {v : Mu} {b q : Nat} (h : LB v b) (hq6 : q < 6) : (uC v (2 + q)).length ≤ 60 := by
  have := h.2.1 q hq6
  omega
theorem LB.l {v : Mu} {b : Nat} (h : LB v b) {q : Nat} (hq6 : q < 6) : (uC v 1).length + (uC v (2 + q)).length ≤ b := by
  have h1 := h.2.2
  have : (uC v (2 + q)).length ≤ sw v := sumTo_at (f := fun q => (uC v (2 + q)).length) 6 hq6
  omega
theorem LB.mono {v : Mu} {b c : Nat} (h : LB v b) (hc : b ≤ c) : LB v c := ⟨h.1, h.2.1, Nat.le_trans h.2.2 hc⟩
/-- waiting and letters change -/
theorem LB.upW {v : Mu} {b c q : Nat} {W L : List Rec} (h : LB v b) (hq6 : q < 6) (h1 : W.length + hq v q ≤ 60) (h2 : L.length + W.length + b ≤ (uC v 1).length + (uC v (2 + q)).length + c) : LB (upC (upC v (2 + q) W) 1 L) c := by
  have ew : ∀ p, p < 6 → uC (upC (upC v (2 + q) W) 1 L) (2 + p) = if p = q then W else uC v (2 + p) := fun p hp => by
    rw [uC_n (by omega)]
    by_cases hz : p = q
    · subst hz; rw [uC_s, if_pos rfl]
    · rw [uC_n (by omega), if_neg hz]
  have eh : ∀ c, c < 4 → uC (upC (upC v (2 + q) W) 1 L) (14 + c) = uC v (14 + c) := fun c hc => by rw [uC_n (by omega), uC_n (by omega)]
  have ehq : ∀ p, hq (upC (upC v (2 + q) W) 1 L) p = hq v p := fun p => sumTo_cg 4 (fun c hc => by rw [eh c hc])
  have esh : sh (upC (upC v (2 + q) W) 1 L) = sh v := sumTo_cg 4 (fun c hc => by rw [eh c hc])
  have esw : sw (upC (upC v (2 + q) W) 1 L) + (uC v (2 + q)).length = sw v + W.length := by
    have h0 : sw (upC (upC v (2 + q) W) 1 L) = sw (upC v (2 + q) W) := sumTo_cg 6 (fun p hp => by rw [uC_n (by omega)])
    rw [h0]
    exact sum_up (f := v.2.1) (g := List.length) (o := 2) hq6
  refine ⟨fun c hc => by rw [eh c hc]; exact h.1 c hc, fun p hp => ?_, ?_⟩
  · rw [ew p hp, ehq]
    split
    · rename_i hz; subst hz; exact h1
    · exact h.2.1 p hp
  · rw [uC_s, esh]
    have := h.2.2
    omega
theorem insG_len {α : Type} {ys : List α} {i : Nat} {y : α} : (insG ys i y).length = ys.length + 1 := by
  unfold insG
  rw [List.length_append, List.length_cons, List.length_take, List.length_drop]
  omega
theorem insR_len {ys : List Rec} {r : Rec} : (insR ys r).length = ys.length + 1 := insG_len
theorem ipos_le {p : Int32} {ys : List Rec} : ∀ n, ipos p ys n ≤ n := by
  intro n
  induction n with
  | zero => exact Nat.le_refl _
  | succ n ih =>
    unfold ipos
    split
    · omega
    · split <;> omega
theorem upC_cm {v : Mu} {k j : Nat} {a b : List Rec} (h : k ≠ j) : upC (upC v k a) j b = upC (upC v j b) k a := by
  unfold upC
  have : va_up (va_up v.2.1 k a) j b = va_up (va_up v.2.1 j b) k a := by
    funext i
    by_cases h1 : i = j
    · subst h1; rw [va_up_self, va_up_ne _ _ (Ne.symm h), va_up_self]
    · by_cases h2 : i = k
      · subst h2; rw [va_up_ne _ _ h, va_up_self, va_up_self]
      · rw [va_up_ne _ _ h1, va_up_ne _ _ h2, va_up_ne _ _ h2, va_up_ne _ _ h1]
  rw [this]
theorem upC_id {v : Mu} {k : Nat} : upC v k (uC v k) = v := by
  unfold upC uC
  have : va_up v.2.1 k (v.2.1 k) = v.2.1 := by
    funext i
    by_cases h1 : i = k
    · subst h1; rw [va_up_self]
    · rw [va_up_ne _ _ h1]
  rw [this]
theorem shN_eq {q : Nat} : ∀ (n : Nat) (v : Mu), n ≤ (uC v (2 + q)).length → shN n q v = upC (upC v (2 + q) ((uC v (2 + q)).drop n)) 1 (uC v 1 ++ (uC v (2 + q)).take n) := by
  intro n
  induction n with
  | zero =>
    intro v _
    show v = _
    rw [List.drop_zero, List.take_zero, List.append_nil, upC_id, upC_id]
  | succ n ih =>
    intro v hn
    unfold shN
    cases hW : uC v (2 + q) with
    | nil => rw [hW] at hn; cases hn
    | cons r W =>
      dsimp only
      rw [hW] at hn
      have e1 : uC (upC (upC v (2 + q) W) 1 (uC v 1 ++ [r])) (2 + q) = W := by rw [uC_n (by omega), uC_s]
      rw [ih _ (by rw [e1]; exact Nat.le_of_succ_le_succ hn), e1, uC_s, upC_cm (k := 1) (j := 2 + q) (by omega), upC_upC, upC_upC, List.drop_succ_cons, List.take_succ_cons, List.append_assoc]
      rfl
theorem LB.put {s : St} {b q : Nat} {m : Msg} (h : LB s.2 b) (hq6 : q < 6) (hl : lim s.1 q ≤ 12) : LB (opPut s q m).2 (b + 1) := by
  unfold opPut
  dsimp only
  have hp : uC (putI s.2 q (mkR m q (s.1 0 + 1))) (2 + q) = insR (uC s.2 (2 + q)) (mkR m q (s.1 0 + 1)) := uC_s
  have hp1 : uC (putI s.2 q (mkR m q (s.1 0 + 1))) 1 = uC s.2 1 := uC_n (by omega)
  rw [shN_eq _ _ (by rw [hp, insR_len]; omega), hp, hp1]
  unfold putI
  rw [upC_upC]
  have g := hq_le (q := q) h
  have g2 := h.2.1 q hq6
  refine h.upW hq6 ?_ ?_
  · rw [List.length_drop, insR_len]
    omega
  · rw [List.length_drop, List.length_append, List.length_take, insR_len]
    omega
/-- the queues' numbers are what they may be -/
def NOK (I : Nat → Int32) : Prop := ∀ q, q < 6 → ∃ l, I (201 + 10 * q) = nI l ∧ 1 ≤ l ∧ l ≤ 12
theorem NOK.lm {I : Nat → Int32} (h : NOK I) {q : Nat} (hq6 : q < 6) : lim I q ≤ 12 := by
  obtain ⟨l, h1, h2, h3⟩ := h q hq6
  unfold lim
  rw [h1, nI_clamp (by omega)]
  exact h3
/-- only lastPlace, waiting copies and letters differ -/
def Sm (s t : St) : Prop := (∀ j, 1 ≤ j → t.1 j = s.1 j) ∧ t.2.1 = s.2.1 ∧ t.2.2.2 = s.2.2.2 ∧ ∀ c, c < 4 → uC t.2 (14 + c) = uC s.2 (14 + c)
theorem Sm.refl (s : St) : Sm s s := ⟨fun _ _ => rfl, rfl, rfl, fun _ _ => rfl⟩
theorem Sm.trans {s t u : St} (h1 : Sm s t) (h2 : Sm t u) : Sm s u := ⟨fun j hj => (h2.1 j hj).trans (h1.1 j hj), h2.2.1.trans h1.2.1, h2.2.2.1.trans h1.2.2.1, fun c hc => (h2.2.2.2 c hc).trans (h1.2.2.2 c hc)⟩
theorem Sm.nok {s t : St} (h : Sm s t) (hn : NOK s.1) : NOK t.1 := fun q hq6 => by
  rw [h.1 _ (by omega)]
  exact hn q hq6
theorem Sm.put {s : St} {q : Nat} {m : Msg} (hq6 : q < 6) : Sm s (opPut s q m) := by
  have hp : uC (putI s.2 q (mkR m q (s.1 0 + 1))) (2 + q) = insR (uC s.2 (2 + q)) (mkR m q (s.1 0 + 1)) := uC_s
  unfold opPut
  rw [shN_eq _ _ (by rw [hp, insR_len]; omega)]
  refine ⟨fun j hj => pk_un (by omega), rfl, rfl, fun c hc => ?_⟩
  rw [uC_n (by omega), uC_n (by omega)]
  exact uC_n (by omega)
theorem Sm.rt {e : Nat} {m : Msg} : ∀ n q (s : St), q + n ≤ 6 → Sm s (rtF e m n q s) := by
  intro n
  induction n with
  | zero => intro q s _; exact Sm.refl s
  | succ n ih =>
    intro q s hq6
    show Sm s (rtF e m n (q + 1) (if isCh s e q (mKey m) then opPut s q m else s))
    refine Sm.trans ?_ (ih (q + 1) _ (by omega))
    split
    · exact Sm.put (by omega)
    · exact Sm.refl s
theorem LB.rt {e : Nat} {m : Msg} : ∀ n q (s : St) b, q + n ≤ 6 → NOK s.1 → LB s.2 b → LB (rtF e m n q s).2 (b + n) := by
  intro n
  induction n with
  | zero => intro q s b _ _ h; exact h
  | succ n ih =>
    intro q s b hq6 hl h
    show LB (rtF e m n (q + 1) (if isCh s e q (mKey m) then opPut s q m else s)).2 (b + (n + 1))
    rw [show b + (n + 1) = b + 1 + n by omega]
    refine ih (q + 1) _ (b + 1) (by omega) ?_ ?_
    · split
      · exact (Sm.put (by omega)).nok hl
      · exact hl
    · split
      · exact h.put (by omega) (hl.lm (by omega))
      · exact h.mono (by omega)
/-- what the copies say of their queues -/
def CQ (v : Mu) : Prop := (∀ k, isC k → ∀ r, r ∈ uC v k → ∃ q, q < 6 ∧ rQ r = nI q) ∧ ∀ q, q < 6 → ∀ r, r ∈ uC v (2 + q) → rQ r = nI q
theorem mem_insG {α : Type} {ys : List α} {i : Nat} {y x : α} (h : x ∈ insG ys i y) : x = y ∨ x ∈ ys := by
  unfold insG at h
  rcases List.mem_append.mp h with h | h
  · exact Or.inr (List.mem_of_mem_take h)
  · rcases List.mem_cons.mp h with h | h
    · exact Or.inl h
    · exact Or.inr (List.mem_of_mem_drop h)
/-- a list whose copies come from elsewhere -/
theorem CQ.up {v : Mu} (h : CQ v) {k : Nat} {l : List Rec} (h1 : ∀ r, r ∈ l → ∃ q, q < 6 ∧ rQ r = nI q) (h2 : ∀ q, q < 6 → k = 2 + q → ∀ r, r ∈ l → rQ r = nI q) : CQ (upC v k l) := by
  refine ⟨fun j hj r hr => ?_, fun q hq6 r hr => ?_⟩
  · by_cases hz : j = k
    · subst hz; rw [uC_s] at hr; exact h1 r hr
    · rw [uC_n hz] at hr; exact h.1 j hj r hr
  · by_cases hz : 2 + q = k
    · subst hz; rw [uC_s] at hr; exact h2 q hq6 rfl r hr
    · rw [uC_n hz] at hr; exact h.2 q hq6 r hr
theorem CQ.put {s : St} {q : Nat} {m : Msg} (h : CQ s.2) (hq6 : q < 6) : CQ (opPut s q m).2 := by
  have hp : uC (putI s.2 q (mkR m q (s.1 0 + 1))) (2 + q) = insR (uC s.2 (2 + q)) (mkR m q (s.1 0 + 1)) := uC_s
  have hp1 : uC (putI s.2 q (mkR m q (s.1 0 + 1))) 1 = uC s.2 1 := uC_n (by omega)
  have hi : ∀ r, r ∈ insR (uC s.2 (2 + q)) (mkR m q (s.1 0 + 1)) → rQ r = nI q := fun r hr => by
    rcases mem_insG hr with rfl | hr
    · rfl
    · exact h.2 q hq6 r hr
  unfold opPut
  dsimp only
  rw [shN_eq _ _ (by rw [hp, insR_len]; omega), hp, hp1]
  unfold putI
  rw [upC_upC]
  refine CQ.up (CQ.up h (fun r hr => ⟨q, hq6, hi r (List.mem_of_mem_drop hr)⟩) (fun p hp6 e r hr => ?_)) (fun r hr => ?_) (fun p hp6 e => by omega)
  · rw [show p = q by omega]
    exact hi r (List.mem_of_mem_drop hr)
  · rcases List.mem_append.mp hr with hr | hr
    · exact h.1 1 (by unfold isC; omega) r hr
    · exact ⟨q, hq6, hi r (List.mem_of_mem_take hr)⟩
theorem CQ.rt {e : Nat} {m : Msg} : ∀ n q (s : St), q + n ≤ 6 → CQ s.2 → CQ (rtF e m n q s).2 := by
  intro n
  induction n with
  | zero => intro q s _ h; exact h
  | succ n ih =>
    intro q s hq6 h
    show CQ (rtF e m n (q + 1) (if isCh s e q (mKey m) then opPut s q m else s)).2
    refine ih (q + 1) _ (by omega) ?_
    split
    · exact h.put (by omega)
    · exact h
