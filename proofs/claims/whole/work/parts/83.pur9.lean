/-! the reference's search among its copies -/
def rdQ (q : Nat) (x : Cp) : Bool := decide (cQ x = nI q) && decide (cH x < 0)
def hdC (c : Nat) (x : Cp) : Bool := decide (cH x = nI c)
theorem isP_qc {k : Nat} (h : isP k = true) : (∃ q, q < 6 ∧ k = 2 + q) ∨ ∃ c, c < 4 ∧ k = 14 + c := by
  rcases isP_lt h with z | z
  · exact Or.inl ⟨k - 2, by omega, by omega⟩
  · exact Or.inr ⟨k - 14, by omega, by omega⟩
theorem sel_q {v : Mu} {q : Nat} (h : CQ v) (hq6 : q < 6) : (flat v).filter (rdQ q) = (uC v (2 + q)).map (mp (2 + q)) := by
  refine flat_sel (isP_q hq6) (fun r hr => ?_) (fun j hj hjq r hr => ?_)
  · rw [mp_q hq6]
    have : rQ r = nI q := h.2 q hq6 r hr
    unfold rdQ
    rw [decide_eq_true (show cQ (wCp r) = nI q from this), decide_eq_true (show cH (wCp r) < 0 from (by decide : (-1 : Int32) < 0))]
    rfl
  · unfold rdQ
    rcases isP_qc hj with ⟨p, hp, rfl⟩ | ⟨c, hc, rfl⟩
    · rw [mp_q hp, decide_eq_false, Bool.false_and]
      intro z
      have z : rQ r = nI q := z
      rw [h.2 p hp r hr] at z
      have := (nI_eq (by omega) (by omega)).mp z
      omega
    · rw [mp_c, decide_eq_false (show ¬ cH (hCp c r) < 0 from nI_pos (by omega)), Bool.and_false]
theorem sel_c {v : Mu} {c : Nat} (hc : c < 4) : (flat v).filter (hdC c) = (uC v (14 + c)).map (mp (14 + c)) := by
  refine flat_sel (isP_c hc) (fun r hr => ?_) (fun j hj hjc r hr => ?_)
  · rw [mp_c]
    exact decide_eq_true rfl
  · refine decide_eq_false (fun z => ?_)
    rcases isP_qc hj with ⟨p, hp, rfl⟩ | ⟨c', hc', rfl⟩
    · rw [mp_q hp] at z
      exact nI_m1 (n := c) (by omega) z.symm
    · rw [mp_c] at z
      have z : nI c' = nI c := z
      have := (nI_eq (by omega) (by omega)).mp z
      omega
section
variable {X : XT} {n k : Nat} {v : Mu} {p : Cp → Bool}
theorem sel_perm (hp : (cpL X n).Perm (flat v)) (hs : (flat v).filter p = (uC v k).map (mp k)) : ((cpL X n).filter p).Perm ((uC v k).map (mp k)) := by
  rw [← hs]
  exact hp.filter p
theorem sel_cnt (hp : (cpL X n).Perm (flat v)) (hs : (flat v).filter p = (uC v k).map (mp k)) : cF (fun i => p (cpA X i)) n 0 = (uC v k).length := by
  rw [cF_map (p := p) (f := cpA X)]
  show (cpL X n).countP p = _
  rw [List.countP_eq_length_filter, (sel_perm hp hs).length_eq, List.length_map]
theorem sel_idx (hp : (cpL X n).Perm (flat v)) (hs : (flat v).filter p = (uC v k).map (mp k)) {i : Nat} (hi : i < n) (hpi : p (cpA X i) = true) : ∃ j, ∃ hj : j < (uC v k).length, cpA X i = mp k (uC v k)[j] := by
  have h1 : cpA X i ∈ (cpL X n).filter p := List.mem_filter.mpr ⟨cpL_mem.mpr ⟨i, hi, rfl⟩, hpi⟩
  have h2 := (sel_perm hp hs).mem_iff.mp h1
  obtain ⟨r, hr, he⟩ := List.mem_map.mp h2
  obtain ⟨j, hj, hjr⟩ := List.mem_iff_getElem.mp hr
  exact ⟨j, hj, by rw [hjr]; exact he.symm⟩
theorem sel_fwd (hp : (cpL X n).Perm (flat v)) (hs : (flat v).filter p = (uC v k).map (mp k)) {j : Nat} (hj : j < (uC v k).length) : ∃ i, i < n ∧ cpA X i = mp k (uC v k)[j] ∧ p (cpA X i) = true := by
  have h1 : mp k (uC v k)[j] ∈ (cpL X n).filter p := (sel_perm hp hs).mem_iff.mpr (List.mem_map.mpr ⟨_, List.getElem_mem hj, rfl⟩)
  obtain ⟨h2, h3⟩ := List.mem_filter.mp h1
  obtain ⟨i, hi, he⟩ := cpL_mem.mp h2
  exact ⟨i, hi, he, by rw [he]; exact h3⟩
theorem sel_lt {K : Cp → Int32} {κ : Rec → Int} (hp : (cpL X n).Perm (flat v)) (hs : (flat v).filter p = (uC v k).map (mp k)) (hK : ∀ r, (K (mp k r)).toInt = κ r) (hS : Srt κ (uC v k)) {i j : Nat} (hj : j < (uC v k).length) (he : cpA X i = mp k (uC v k)[j]) : cF (fun o => p (cpA X o) && decide (K (cpA X o) < K (cpA X i))) n 0 = j := by
  rw [cF_map (p := fun x => p x && decide (K x < K (cpA X i))) (f := cpA X)]
  show (cpL X n).countP _ = j
  have e1 : (cpL X n).countP (fun x => p x && decide (K x < K (cpA X i))) = ((cpL X n).filter p).countP (fun x => decide (K x < K (cpA X i))) := by
    rw [List.countP_filter, show (fun x => p x && decide (K x < K (cpA X i))) = (fun x => decide (K x < K (cpA X i)) && p x) from funext (fun x => Bool.and_comm _ _)]
  rw [e1, (sel_perm hp hs).countP_eq, List.countP_map]
  have e2 : ((fun x => decide (K x < K (cpA X i))) ∘ mp k) = fun y => decide (κ y < κ (uC v k)[j]) := funext (fun r => by
    show decide (K (mp k r) < K (cpA X i)) = _
    rw [he]
    exact decide_eq_decide.mpr (by rw [Int32.lt_iff_toInt_lt, hK, hK]))
  rw [e2]
  exact hS.cnt hj
/-- the nth in order -/
theorem sel_at {K : Cp → Int32} {κ : Rec → Int} (hp : (cpL X n).Perm (flat v)) (hs : (flat v).filter p = (uC v k).map (mp k)) (hK : ∀ r, (K (mp k r)).toInt = κ r) (hS : Srt κ (uC v k)) (nth : Nat) : (fF (fun i => p (cpA X i) && decide (cF (fun o => p (cpA X o) && decide (K (cpA X o) < K (cpA X i))) n 0 = nth)) n 0 = none ∧ (uC v k).length ≤ nth) ∨ ∃ i, ∃ hj : nth < (uC v k).length, fF (fun i => p (cpA X i) && decide (cF (fun o => p (cpA X o) && decide (K (cpA X o) < K (cpA X i))) n 0 = nth)) n 0 = some i ∧ i < n ∧ cpA X i = mp k (uC v k)[nth] := by
  cases hf : fF (fun i => p (cpA X i) && decide (cF (fun o => p (cpA X o) && decide (K (cpA X o) < K (cpA X i))) n 0 = nth)) n 0 with
  | none =>
    refine Or.inl ⟨rfl, ?_⟩
    apply Nat.le_of_not_lt
    intro hn
    obtain ⟨i, hi, he, hpi⟩ := sel_fwd hp hs hn
    have := fF_none n 0 hf i (Nat.zero_le _) (by omega)
    rw [hpi, sel_lt hp hs hK hS hn he, decide_eq_true rfl] at this
    cases this
  | some i =>
    obtain ⟨h1, h2, h3, h4⟩ := fF_some n 0 i hf
    rw [Bool.and_eq_true, decide_eq_true_eq] at h3
    obtain ⟨j, hj, he⟩ := sel_idx hp hs (by omega) h3.1
    have hjn := sel_lt hp hs hK hS hj he
    rw [h3.2] at hjn
    subst hjn
    exact Or.inr ⟨i, hj, rfl, by omega, he⟩
end
/-- the least of those meant -/
def bet (t : Nat → Int32) (i : Nat) : Option Nat → Bool
  | none => true
  | some b => decide (t i < t b)
def mnF (p : Nat → Bool) (t : Nat → Int32) : Nat → Nat → Option Nat → Option Nat
  | 0, _, o => o
  | n + 1, i, o => mnF p t n (i + 1) (if p i && bet t i o then some i else o)
theorem mnF_sp {p : Nat → Bool} {t : Nat → Int32} : ∀ n i o, (∀ b, o = some b → p b = true ∧ b < i ∧ ∀ j, j < i → p j = true → (t b).toInt ≤ (t j).toInt) → (o = none → ∀ j, j < i → p j = false) → (mnF p t n i o = none ∧ ∀ j, j < i + n → p j = false) ∨ ∃ b, mnF p t n i o = some b ∧ b < i + n ∧ p b = true ∧ ∀ j, j < i + n → p j = true → (t b).toInt ≤ (t j).toInt := by
  intro n
  induction n with
  | zero =>
    intro i o h1 h2
    cases o with
    | none => exact Or.inl ⟨rfl, fun j hj => h2 rfl j hj⟩
    | some b =>
      obtain ⟨w1, w2, w3⟩ := h1 b rfl
      exact Or.inr ⟨b, rfl, w2, w1, w3⟩
  | succ n ih =>
    intro i o h1 h2
    rw [show i + (n + 1) = i + 1 + n by omega]
    show (mnF p t n (i + 1) _ = none ∧ _) ∨ ∃ b, mnF p t n (i + 1) _ = some b ∧ _
    refine ih (i + 1) _ (fun b hb => ?_) (fun hn j hj => ?_)
    · split at hb
      · rename_i hc
        rw [Bool.and_eq_true] at hc
        cases hb
        refine ⟨hc.1, by omega, fun j hj hpj => ?_⟩
        by_cases hz : j = i
        · subst hz; omega
        · cases o with
          | none => rw [h2 rfl j (by omega)] at hpj; cases hpj
          | some b =>
            have h3 := of_decide_eq_true hc.2
            have h3 := Int32.lt_iff_toInt_lt.mp h3
            have := (h1 b rfl).2.2 j (by omega) hpj
            omega
      · rename_i hc
        obtain ⟨w1, w2, w3⟩ := h1 b hb
        refine ⟨w1, by omega, fun j hj hpj => ?_⟩
        by_cases hz : j = i
        · subst hz
          subst hb
          have : ¬ t j < t b := fun z => hc (by rw [hpj, Bool.true_and]; exact decide_eq_true z)
          rw [Int32.lt_iff_toInt_lt] at this
          omega
        · exact w3 j (by omega) hpj
    · split at hn
      · cases hn
      · rename_i hc
        by_cases hz : j = i
        · subst hz
          subst hn
          rw [show bet t j none = true from rfl, Bool.and_true] at hc
          exact Bool.eq_false_iff.mpr hc
        · exact h2 hn j (by omega)
/-- settling one after the other, the first meant first -/
def stA (c : Nat) (p : Rec → Bool) (how : Int32) : Nat → Mu → Mu
  | 0, v => v
  | n + 1, v => match (uC v (14 + c))[ix p (uC v (14 + c))]? with
    | none => v
    | some r => stA c p how n (stl (upC v (14 + c) ((uC v (14 + c)).eraseIdx (ix p (uC v (14 + c))))) r how)
theorem ix_sp {α : Type} {p : α → Bool} : ∀ {l : List α} {j : Nat} (hj : j < l.length), p l[j] = true → (∀ i (hi : i < j), p (l[i]'(Nat.lt_trans hi hj)) = false) → ix p l = j := by
  intro l
  induction l with
  | nil => intro j hj; exact absurd hj (Nat.not_lt_zero _)
  | cons y l ih =>
    intro j hj hp hn
    unfold ix
    cases j with
    | zero =>
      have hp : p y = true := hp
      rw [if_pos hp]
    | succ j =>
      have := hn 0 (Nat.succ_pos _)
      have this : p y = false := this
      rw [if_neg (by rw [this]; decide), ih (Nat.lt_of_succ_lt_succ hj) hp (fun i hi => hn (i + 1) (Nat.succ_lt_succ hi))]
theorem ix_none {α : Type} {p : α → Bool} : ∀ {l : List α}, (∀ x, x ∈ l → p x = false) → ix p l = l.length := by
  intro l
  induction l with
  | nil => intro _; rfl
  | cons y l ih =>
    intro h
    unfold ix
    rw [if_neg (by rw [h y List.mem_cons_self]; decide), ih (fun x hx => h x (List.mem_cons_of_mem _ hx))]
    rfl
theorem smF_stA {c : Nat} {p : Rec → Bool} {how : Int32} (hc : c < 4) : ∀ n j (v : Mu) f, CQ v → j + n = (uC v (14 + c)).length → (∀ i (hi : i < (uC v (14 + c)).length), i < j → p (uC v (14 + c))[i] = false) → n ≤ f → smF c p how n j v = stA c p how f v := by
  intro n
  induction n with
  | zero =>
    intro j v f hcq hj hn _
    have hno : ix p (uC v (14 + c)) = (uC v (14 + c)).length := ix_none (fun x hx => by
      obtain ⟨i, hi, rfl⟩ := List.mem_iff_getElem.mp hx
      exact hn i hi (by omega))
    cases f with
    | zero => rfl
    | succ f =>
      show v = (match (uC v (14 + c))[ix p (uC v (14 + c))]? with
        | none => v
        | some r => stA c p how f (stl (upC v (14 + c) ((uC v (14 + c)).eraseIdx (ix p (uC v (14 + c))))) r how))
      rw [hno, List.getElem?_eq_none (Nat.le_refl _)]
  | succ n ih =>
    intro j v f hcq hj hn hf
    have hjl : j < (uC v (14 + c)).length := by omega
    have hg := List.getElem?_eq_getElem hjl
    have hs : smF c p how (n + 1) j v = (match (uC v (14 + c))[j]? with
      | none => v
      | some r => if p r then smF c p how n j (stl (upC v (14 + c) ((uC v (14 + c)).eraseIdx j)) r how) else smF c p how n (j + 1) v) := rfl
    rw [hg] at hs
    dsimp only at hs
    rw [hs]
    by_cases hp : p (uC v (14 + c))[j] = true
    · rw [if_pos hp]
      obtain ⟨f, rfl⟩ : ∃ g, f = g + 1 := ⟨f - 1, by omega⟩
      have hix : ix p (uC v (14 + c)) = j := ix_sp hjl hp (fun i hi => hn i _ hi)
      show _ = (match (uC v (14 + c))[ix p (uC v (14 + c))]? with
        | none => v
        | some r => stA c p how f (stl (upC v (14 + c) ((uC v (14 + c)).eraseIdx (ix p (uC v (14 + c))))) r how))
      rw [hix, hg]
      dsimp only
      obtain ⟨q, hq6, hr⟩ := hcq.1 (14 + c) (isC_c hc) _ (List.getElem_mem hjl)
      have e : uC (stl (upC v (14 + c) ((uC v (14 + c)).eraseIdx j)) (uC v (14 + c))[j] how) (14 + c) = (uC v (14 + c)).eraseIdx j := by rw [stl_H (by omega) hq6 hr, uC_s]
      refine ih j _ f (hcq.stlk hc hg) (by rw [e, List.length_eraseIdx_of_lt hjl]; omega) (fun i hi hij => ?_) (by omega)
      have e2 : (uC (stl (upC v (14 + c) ((uC v (14 + c)).eraseIdx j)) (uC v (14 + c))[j] how) (14 + c))[i] = (uC v (14 + c))[i] := by
        simp only [e]
        exact List.getElem_eraseIdx_of_lt (by rw [e] at hi; exact hi) hij
      rw [e2]
      exact hn i (by omega) hij
    · rw [if_neg hp]
      refine ih (j + 1) v f hcq (by omega) (fun i hi hij => ?_) (by omega)
      by_cases hz : i = j
      · subst hz; exact Bool.eq_false_iff.mpr hp
      · exact hn i hi (by omega)
/-- marking and then settling the marked is settling the meant -/
theorem mrk_st {c : Nat} {tg : Int32} {wh : Bool} {how : Int32} (hc : c < 4) : ∀ n j (v : Mu), CQ v → j + n = (uC v (14 + c)).length → (∀ r, r ∈ uC v (14 + c) → rD r = -1) → (∀ i (hi : i < (uC v (14 + c)).length), i < j → meant tg wh (uC v (14 + c))[i] = false) → smF c (isDd (nI 0)) how n j (upC v (14 + c) ((uC v (14 + c)).map (mrk tg wh (nI 0)))) = smF c (meant tg wh) how n j v := by
  intro n
  induction n with
  | zero =>
    intro j v hcq hj hD hn
    show upC v (14 + c) _ = v
    have : (uC v (14 + c)).map (mrk tg wh (nI 0)) = uC v (14 + c) := by
      have := List.map_congr_left (l := uC v (14 + c)) (f := mrk tg wh (nI 0)) (g := id) (fun r hr => by
        obtain ⟨i, hi, rfl⟩ := List.mem_iff_getElem.mp hr
        unfold mrk
        rw [if_neg (by rw [hn i hi (by omega)]; decide)]
        rfl)
      rw [this, List.map_id]
    rw [this, upC_id]
  | succ n ih =>
    intro j v hcq hj hD hn
    have hjl : j < (uC v (14 + c)).length := by omega
    have hg := List.getElem?_eq_getElem hjl
    have hs : smF c (meant tg wh) how (n + 1) j v = (match (uC v (14 + c))[j]? with
      | none => v
      | some r => if meant tg wh r then smF c (meant tg wh) how n j (stl (upC v (14 + c) ((uC v (14 + c)).eraseIdx j)) r how) else smF c (meant tg wh) how n (j + 1) v) := rfl
    rw [hg] at hs
    dsimp only at hs
    have hs2 : ∀ w : Mu, smF c (isDd (nI 0)) how (n + 1) j w = (match (uC w (14 + c))[j]? with
      | none => w
      | some r => if isDd (nI 0) r then smF c (isDd (nI 0)) how n j (stl (upC w (14 + c) ((uC w (14 + c)).eraseIdx j)) r how) else smF c (isDd (nI 0)) how n (j + 1) w) := fun w => rfl
    rw [hs, hs2, uC_s, List.getElem?_map, hg]
    dsimp only [Option.map]
    by_cases hp : meant tg wh (uC v (14 + c))[j] = true
    · have hm : mrk tg wh (nI 0) (uC v (14 + c))[j] = rSetD (uC v (14 + c))[j] (nI 0) := if_pos hp
      rw [if_pos hp, hm, if_pos (show isDd (nI 0) (rSetD (uC v (14 + c))[j] (nI 0)) = true from decide_eq_true rfl), upC_upC]
      obtain ⟨q, hq6, hr⟩ := hcq.1 (14 + c) (isC_c hc) _ (List.getElem_mem hjl)
      have e : uC (stl (upC v (14 + c) ((uC v (14 + c)).eraseIdx j)) (uC v (14 + c))[j] how) (14 + c) = (uC v (14 + c)).eraseIdx j := by rw [stl_H (by omega) hq6 hr, uC_s]
      have := ih j (stl (upC v (14 + c) ((uC v (14 + c)).eraseIdx j)) (uC v (14 + c))[j] how) (hcq.stlk hc hg) (by rw [e, List.length_eraseIdx_of_lt hjl]; omega) (by rw [e]; exact fun r hr => hD r (List.mem_of_mem_eraseIdx hr)) (fun i hi hij => ?_)
      · rw [← this, e]
        congr 1
        unfold stl bk
        show (if how = 1 then upC (upC v (14 + c) _) (2 + (rQ (uC v (14 + c))[j]).toNatClampNeg) (insR (uC (upC v (14 + c) _) (2 + (rQ (uC v (14 + c))[j]).toNatClampNeg)) (rBk (uC v (14 + c))[j])) else if how = 2 then upC (upC v (14 + c) _) 1 (uC (upC v (14 + c) _) 1 ++ [rW (uC v (14 + c))[j]]) else upC v (14 + c) _) = _
        rw [hr, nI_clamp (by omega)]
        have e5 : (List.map (mrk tg wh (nI 0)) (uC v (14 + c))).eraseIdx j = ((uC v (14 + c)).eraseIdx j).map (mrk tg wh (nI 0)) := by
          rw [List.eraseIdx_eq_take_drop_succ, List.eraseIdx_eq_take_drop_succ, List.map_append, List.map_take, List.map_drop]
        rw [e5]
        split
        · rw [uC_n (by omega), uC_n (by omega), upC_cm (k := 14 + c) (j := 2 + q) (by omega), upC_cm (k := 14 + c) (j := 2 + q) (by omega), upC_upC]
        · split
          · rw [uC_n (by omega), uC_n (by omega), upC_cm (k := 14 + c) (j := 1) (by omega), upC_cm (k := 14 + c) (j := 1) (by omega), upC_upC]
          · rw [upC_upC]
      · have e2 : (uC (stl (upC v (14 + c) ((uC v (14 + c)).eraseIdx j)) (uC v (14 + c))[j] how) (14 + c))[i] = (uC v (14 + c))[i] := by
          simp only [e]
          exact List.getElem_eraseIdx_of_lt (by rw [e] at hi; exact hi) hij
        rw [e2]
        exact hn i (by omega) hij
    · have hm : mrk tg wh (nI 0) (uC v (14 + c))[j] = (uC v (14 + c))[j] := if_neg hp
      rw [if_neg hp, hm, if_neg (show ¬ isDd (nI 0) (uC v (14 + c))[j] = true from fun z => by
        have z := of_decide_eq_true z
        rw [hD _ (List.getElem_mem hjl)] at z
        exact nI_m1 (n := 0) (by decide) z.symm)]
      refine ih (j + 1) v hcq (by omega) hD (fun i hi hij => ?_)
      by_cases hz : i = j
      · subst hz; exact Bool.eq_false_iff.mpr hp
      · exact hn i hi (by omega)
