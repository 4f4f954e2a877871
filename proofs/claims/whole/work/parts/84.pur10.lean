/-! routing and unmarking do not meet -/
def fgS (c : Nat) (t : St) : St := (t.1, fgt c t.2)
theorem fgt_up {c k : Nat} {v : Mu} {l : List Rec} (h : k ≠ 14 + c) : fgt c (upC v k l) = upC (fgt c v) k l := by
  unfold fgt
  rw [uC_n (Ne.symm h)]
  exact (upC_cm (v := upD v (18 + c) []) h).symm ▸ rfl
theorem fgt_C {c k : Nat} {v : Mu} (h : k ≠ 14 + c) : uC (fgt c v) k = uC v k := by
  unfold fgt
  exact uC_n h
theorem put_fgt {c q : Nat} {t : St} {m : Msg} (hq6 : q < 6) : opPut (fgS c t) q m = fgS c (opPut t q m) := by
  rw [opPut_eq, opPut_eq]
  unfold fgS
  dsimp only
  rw [fgt_up (by omega), fgt_up (by omega), fgt_C (by omega), fgt_C (by omega)]
theorem rt_fgt {c e : Nat} {m : Msg} : ∀ n q (t : St), q + n ≤ 6 → rtF e m n q (fgS c t) = fgS c (rtF e m n q t) := by
  intro n
  induction n with
  | zero => intro q t _; rfl
  | succ n ih =>
    intro q t hq6
    show rtF e m n (q + 1) (if isCh (fgS c t) e q (mKey m) then opPut (fgS c t) q m else fgS c t) = fgS c (rtF e m n (q + 1) (if isCh t e q (mKey m) then opPut t q m else t))
    rw [← ih (q + 1) _ (by omega), put_fgt (by omega)]
    congr 1
    show (if isCh t e q (mKey m) = true then fgS c (opPut t q m) else fgS c t) = _
    split <;> rfl
theorem rlF_fgt {c : Nat} : ∀ n i k (t : St), rlF n i k (fgS c t) = ((rlF n i k t).1, fgS c (rlF n i k t).2) := by
  intro n
  induction n with
  | zero => intro i k t; rfl
  | succ n ih =>
    intro i k t
    have hs : ∀ s : St, rlF (n + 1) i k s = (match (uC s.2 1)[i]? with
      | none => (k, s)
      | some r => if decide (k < 3) && goOn s.1 r then rlF n (i + 1) (k + 1) (opRt s (dead s.1 r).toNatClampNeg (hopM (rM r))) else rlF n (i + 1) k (upd s.1 2 (s.1 2 + 1), s.2)) := fun s => rfl
    rw [hs, hs]
    have e : uC (fgS c t).2 1 = uC t.2 1 := fgt_C (by omega)
    rw [e]
    cases hg : (uC t.2 1)[i]? with
    | none => rfl
    | some r =>
      dsimp only
      have e1 : (fgS c t).1 = t.1 := rfl
      rw [e1]
      split
      · have : opRt (fgS c t) (dead t.1 r).toNatClampNeg (hopM (rM r)) = fgS c (opRt t (dead t.1 r).toNatClampNeg (hopM (rM r))) := rt_fgt 6 0 t (by omega)
        rw [this]
        exact ih _ _ _
      · exact ih (i + 1) k (upd t.1 2 (t.1 2 + 1), t.2)
theorem rl_fgt {c : Nat} {t : St} : opRl (fgS c t) = fgS c (opRl t) := by
  unfold opRl
  rw [rlF_fgt]
  dsimp only
  generalize rlF 450 0 0 t = w
  unfold fgS
  dsimp only
  rw [fgt_up (by omega)]
/-- whether a queue is chosen does not change while copies are put -/
theorem Sm.ch {s t : St} (h : Sm s t) {e q : Nat} {key : Int32} : isCh t e q key = isCh s e q key := by
  unfold isCh
  rw [show uB t.2 0 = uB s.2 0 from congrFun h.2.1 0, h.1 _ (by omega)]
/-- all puts of a route, chosen before -/
def rtG (m : Msg) (ch : Nat → Bool) : Nat → Nat → St → St
  | 0, _, s => s
  | n + 1, q, s => rtG m ch n (q + 1) (if ch q then opPut s q m else s)
theorem rtG_eq {e : Nat} {m : Msg} {s0 : St} : ∀ n q (s : St), q + n ≤ 6 → Sm s0 s → rtG m (fun q => isCh s0 e q (mKey m)) n q s = rtF e m n q s := by
  intro n
  induction n with
  | zero => intro q s _ _; rfl
  | succ n ih =>
    intro q s hq6 h
    show rtG m _ n (q + 1) (if isCh s0 e q (mKey m) = true then opPut s q m else s) = rtF e m n (q + 1) (if isCh s e q (mKey m) then opPut s q m else s)
    rw [h.ch]
    refine ih (q + 1) _ (by omega) ?_
    split
    · exact h.trans (Sm.put (by omega))
    · exact h
