/-! the reference: close -/
def bkC (x : Cp) : Cp := (x.1, x.2.1, x.2.2.1, x.2.2.2.1, x.2.2.2.2.1, -1, x.2.2.2.2.2.2.1, 0, x.2.2.2.2.2.2.2.2.1, 1)
theorem n_back1 {gc : Nat → Nat} {m : Nat} {M : Nat → Nat} {d : Nat} {X : XT} {i : Nat} (hi : i < 400) : WM gc m M (d + 1) 129 [.ref m, .int (nI i), .int 1] X (fun r X' => r = none ∧ (∀ k, k ≠ 26 → k ≠ 28 → k ≠ 30 → X' k = X k) ∧ ∀ j, cpA X' j = if j = i then bkC (cpA X j) else cpA X j) := by
  have hcl : (nI i).toNatClampNeg = i := nI_clamp (by omega)
  have pi : ¬ nI i < 0 := nI_pos (by omega)
  refine N129 ⟨fun _ => N129_9 ⟨fun _ => N129_19 ⟨fun _ => N129_25 ?_, fun z => absurd rfl z⟩, fun z => absurd z (by decide)⟩, fun z => absurd z (by decide)⟩
  rw [hcl]
  refine ⟨pi, hi, fun Y1 e1 => ⟨pi, hi, fun Y2 e2 => ⟨pi, hi, Or.inr rfl, fun Y3 e3 => ⟨rfl, fun k w1 w2 w3 => ?_, fun j => ?_⟩⟩⟩⟩
  · rw [e3, e2, e1]
    exact funext (fun j => by rw [wr_k w3, wr_k w2, wr_k w1])
  · by_cases hj : j = i
    · subst hj
      rw [if_pos rfl, e3, e2, e1]
      unfold cpA bkC
      simp [wr]
    · rw [if_neg hj]
      exact cpA_cg (fun k _ _ => by rw [e3, wr_i hj, e2, wr_i hj, e1, wr_i hj])
theorem bc_loop {gc : Nat → Nat} {m : Nat} {M : Nat → Nat} {d : Nat} {X0 : XT} {q : QT} {n c : Nat} (hn : X0 31 0 = nI n) (hn2 : n ≤ 400) : ∀ l i (X : XT), i + l = n → (∀ k, k ≠ 26 → k ≠ 28 → k ≠ 30 → X k = X0 k) → (∀ j, cpA X j = if j < i ∧ hdC c (cpA X0 j) = true then bkC (cpA X0 j) else cpA X0 j) → (∀ Y x2, (∀ k, k ≠ 26 → k ≠ 28 → k ≠ 30 → Y k = X0 k) → (∀ j, j < n → cpA Y j = if hdC c (cpA X0 j) = true then bkC (cpA X0 j) else cpA X0 j) → TM gc m M (d + 1) 135 q 48 [.ref m, .int (nI c), .int x2] [] Y) → TM gc m M (d + 1) 135 q 18 [.ref m, .int (nI c), .int (nI i)] [] X := by
  intro l
  induction l with
  | zero =>
    intro i X hi hk hc2 hq
    refine N135_18 ⟨fun _ => hq X _ hk (fun j hj => ?_), fun z => absurd (by rw [hk 31 (by decide) (by decide) (by decide), hn]; exact nI_le (by omega) (by omega)) z⟩
    rw [hc2 j]
    by_cases hz : hdC c (cpA X0 j) = true
    · rw [if_pos ⟨by omega, hz⟩, if_pos hz]
    · rw [if_neg (fun w => hz w.2), if_neg hz]
  | succ l ih =>
    intro i X hi hk hc2 hq
    have hcl : (nI i).toNatClampNeg = i := nI_clamp (by omega)
    have hXi : cpA X i = cpA X0 i := by rw [hc2 i, if_neg (fun w => Nat.lt_irrefl _ w.1)]
    have h26 : X 26 i = cH (cpA X0 i) := by rw [← hXi]; rfl
    refine N135_18 ⟨fun z => absurd z (by rw [hk 31 (by decide) (by decide) (by decide), hn]; exact nI_ge (by omega) (by omega)), fun _ => ⟨nI_pos (by omega), by omega, ?_⟩⟩
    rw [hcl, h26]
    refine ⟨fun z => N135_42 ?_, fun z => ⟨_, n_back1 (i := i) (by omega), ?_⟩⟩
    · rw [nI_1]
      refine ih (i + 1) X (by omega) hk (fun j => ?_) hq
      rw [hc2 j]
      by_cases hj : j = i
      · subst hj
        rw [if_neg (fun w => Nat.lt_irrefl _ w.1), if_neg (fun w => z (of_decide_eq_true w.2))]
      · by_cases h1 : j < i ∧ hdC c (cpA X0 j) = true
        · rw [if_pos h1, if_pos ⟨by omega, h1.2⟩]
        · rw [if_neg h1, if_neg (fun w => h1 ⟨by omega, w.2⟩)]
    · rintro r Y ⟨rfl, y1, y2⟩
      refine ⟨rfl, N135_42 ?_⟩
      rw [nI_1]
      refine ih (i + 1) Y (by omega) (fun k w1 w2 w3 => (y1 k w1 w2 w3).trans (hk k w1 w2 w3)) (fun j => ?_) hq
      rw [y2 j]
      by_cases hj : j = i
      · subst hj
        rw [if_pos rfl, if_pos ⟨by omega, decide_eq_true z⟩, hXi]
      · rw [if_neg hj, hc2 j]
        by_cases h1 : j < i ∧ hdC c (cpA X0 j) = true
        · rw [if_pos h1, if_pos ⟨by omega, h1.2⟩]
        · rw [if_neg h1, if_neg (fun w => h1 ⟨by omega, w.2⟩)]
def fB (c : Nat) (x : Cp) : Cp := if hdC c x = true then bkC x else x
theorem fB_h {c : Nat} {r : Rec} : fB c (hCp c r) = wCp (rBk r) := by
  unfold fB
  rw [if_pos (show hdC c (hCp c r) = true from decide_eq_true rfl)]
  rfl
theorem fB_o {c j : Nat} {r : Rec} (hc : c < 4) (hj : isP j = true) (hz : j ≠ 14 + c) : fB c (mp j r) = mp j r := by
  unfold fB
  rw [if_neg (by rw [hdC_o hc hj hz]; decide)]
theorem cl_perm {c : Nat} (hc : c < 4) : ∀ n (v : Mu), CQ v → ((flat (clF c n v)).map (fB c)).Perm ((flat v).map (fB c)) := by
  intro n
  induction n with
  | zero => intro v _; exact List.Perm.refl _
  | succ n ih =>
    intro v hcq
    have hs : clF c (n + 1) v = (match uC v (14 + c) with
      | [] => v
      | r :: l => clF c n (bk (upC v (14 + c) l) r)) := rfl
    rw [hs]
    cases hu : uC v (14 + c) with
    | nil => exact List.Perm.refl _
    | cons r l =>
      dsimp only
      obtain ⟨w, hw6, hwr⟩ := hcq.1 (14 + c) (isC_c hc) r (by rw [hu]; exact List.mem_cons_self)
      have hcb := (hcq.er (j := 0) hc).bkk hw6 hwr
      have hE : (uC v (14 + c)).eraseIdx 0 = l := by rw [hu]; rfl
      rw [hE] at hcb
      refine (ih _ hcb).trans ?_
      have hj : 0 < (uC v (14 + c)).length := by rw [hu]; exact Nat.succ_pos _
      have h0 : (uC v (14 + c))[0] = r := by simp only [hu, List.getElem_cons_zero]
      have p1 := flat_er (isP_c hc) hj
      rw [h0, hE, mp_c] at p1
      have p2 : (flat (bk (upC v (14 + c) l) r)).Perm (wCp (rBk r) :: flat (upC v (14 + c) l)) := by
        unfold bk
        rw [hwr, nI_clamp (by omega)]
        have := flat_add (v := upC v (14 + c) l) (k := 2 + w) (l := insR (uC (upC v (14 + c) l) (2 + w)) (rBk r)) (r := rBk r) (isP_q hw6) insR_perm
        rw [mp_q hw6] at this
        exact this
      have e1 := p1.map (fB c)
      have e2 := p2.map (fB c)
      rw [List.map_cons, fB_h] at e1
      rw [List.map_cons] at e2
      have e3 : fB c (wCp (rBk r)) = wCp (rBk r) := by
        have := fB_o (c := c) (j := 2 + w) (r := rBk r) hc (isP_q hw6) (by omega)
        rw [mp_q hw6] at this
        exact this
      rw [e3] at e2
      exact e2.trans e1
theorem cl_flat {c : Nat} {v : Mu} (hc : c < 4) (hcq : CQ v) (hH : uC (clF c (uC v (14 + c)).length v) (14 + c) = []) : (flat (clF c (uC v (14 + c)).length v)).Perm ((flat v).map (fB c)) := by
  have h1 := cl_perm hc (uC v (14 + c)).length v hcq
  have h2 : (flat (clF c (uC v (14 + c)).length v)).map (fB c) = flat (clF c (uC v (14 + c)).length v) := by
    have := List.map_congr_left (l := flat (clF c (uC v (14 + c)).length v)) (f := fB c) (g := id) (fun x hx => by
      obtain ⟨k, hk, r, hr, rfl⟩ := flat_mem.mp hx
      by_cases hz : k = 14 + c
      · subst hz
        rw [hH] at hr
        cases hr
      · exact fB_o hc hk hz)
    rw [this, List.map_id]
  rw [h2] at h1
  exact h1
/-- consumers filtered -/
theorem sN.flt {X Y : XT} {n n' : Nat} {v v' : Mu} {p : Cn → Bool} (h : sN X n v) (h1 : Y 12 0 = nI n') (h2 : cnL Y n' = (cnL X n).filter (fun x => !p x)) (h3 : ∀ q, q < 6 → uR v' (8 + q) = (uR v (8 + q)).filter (fun c => !p (cnM q c))) : sN Y n' v' := by
  refine ⟨h1, fun i hi => ?_, fun q hq6 => ?_⟩
  · have e : cnA Y i ∈ cnL Y n' := List.mem_map.mpr ⟨i, List.mem_range.mpr hi, rfl⟩
    rw [h2] at e
    obtain ⟨j, hj, he⟩ := List.mem_map.mp (List.mem_filter.mp e).1
    rw [show Y 9 i = (cnA Y i).1 from rfl, ← he]
    exact h.2.1 j (List.mem_range.mp hj)
  · rw [h2, List.filter_filter, h3 q hq6]
    have e1 : (cnL X n).filter (fun a => cnQ q a && !p a) = ((cnL X n).filter (cnQ q)).filter (fun x => !p x) := by
      rw [List.filter_filter]
      congr 1
      funext a
      exact Bool.and_comm _ _
    rw [e1, h.2.2 q hq6, List.filter_map]
    rfl
theorem cx_loop {gc : Nat → Nat} {m : Nat} {M : Nat → Nat} {d : Nat} {X0 : XT} {q : QT} {c : Nat} {l0 : List Cn} (hl0 : l0.length ≤ 25) (h01 : ∀ x, x ∈ l0 → x.2.2 = 0 ∨ x.2.2 = 1) : ∀ k n (X : XT), k ≤ l0.length → X 12 0 = nI n → cnL X n = flF (cnC (nI c)) l0 k → Ag pC X0 X → (∀ Y n' x2, Y 12 0 = nI n' → cnL Y n' = l0.filter (fun x => !cnC (nI c) x) → Ag pC X0 Y → TM gc m M (d + 1) 135 q 80 [.ref m, .int (nI c), .int x2] [] Y) → TM gc m M (d + 1) 135 q 55 [.ref m, .int (nI c), .int (nI k - 1)] [] X := by
  intro k
  induction k with
  | zero =>
    intro n X hk hn hl ha hq
    exact N135_55 ⟨fun _ => hq X n _ hn hl ha, fun z => absurd neg_1 z⟩
  | succ k ih =>
    intro n X hk hn hl ha hq
    have hkl : k < l0.length := by omega
    have hlen : n = (flF (cnC (nI c)) l0 (k + 1)).length := by rw [← hl, cnL_len]
    have hkn : k < n := by rw [hlen]; exact Nat.lt_of_succ_le (flF_len hk)
    have hget : (cnL X n)[k]? = some l0[k] := by rw [hl]; exact flF_get hkl
    rw [cnL_get hkn] at hget
    have hent : cnA X k = l0[k] := Option.some.inj hget
    have hn25 : n ≤ 25 := by
      rw [hlen]
      unfold flF
      rw [List.length_append, List.length_take]
      have := List.length_filter_le (fun y => !cnC (nI c) y) (l0.drop (k + 1))
      rw [List.length_drop] at this
      omega
    have hmem : ∀ j, j < n → cnA X j ∈ l0 := fun j hj => by
      have : cnA X j ∈ cnL X n := List.mem_map.mpr ⟨j, List.mem_range.mpr hj, rfl⟩
      rw [hl] at this
      unfold flF at this
      rcases List.mem_append.mp this with y | y
      · exact List.mem_of_mem_take y
      · exact List.mem_of_mem_drop (List.mem_filter.mp y).1
    rw [nI_pred]
    have hcl : (nI k).toNatClampNeg = k := nI_clamp (by omega)
    have h10 : X 10 k = (l0[k]).2.1 := congrArg (fun z => z.2.1) hent
    refine N135_55 ⟨fun z => absurd z (nI_pos (by omega)), fun _ => ⟨nI_pos (by omega), by omega, ?_⟩⟩
    rw [hcl, h10]
    refine ⟨fun z => N135_74 ?_, fun z => ?_⟩
    · rw [ne_1]
      refine ih n X (by omega) hn ?_ ha hq
      rw [hl]
      exact flF_sk hkl (decide_eq_false z)
    · obtain ⟨n, rfl⟩ : ∃ n', n = n' + 1 := ⟨n - 1, by omega⟩
      refine ⟨_, n_rmC hn (by omega) (by omega) (fun j hj => h01 _ (hmem j (by omega))), ?_⟩
      rintro r Y ⟨rfl, g1, g2, g3⟩
      refine ⟨rfl, N135_74 ?_⟩
      rw [ne_1]
      refine ih n Y (by omega) g2 ?_ (ha.trans g1) hq
      rw [g3, hl]
      exact flF_er hkl (decide_eq_true z)
theorem rmN_flt {x : Int32} : ∀ {l : List Con}, l.countP (nEq x) ≤ 1 → rmN x l = l.filter (fun y => !nEq x y) := by
  intro l
  induction l with
  | nil => intro _; rfl
  | cons y l ih =>
    intro h
    rw [List.countP_cons] at h
    by_cases hp : nEq x y = true
    · rw [if_pos hp] at h
      have h0 : l.countP (nEq x) = 0 := by omega
      have hix : ix (nEq x) (y :: l) = 0 := if_pos hp
      unfold rmN
      rw [hix, if_pos (by rw [List.length_cons]; omega), List.filter_cons_of_neg (by rw [hp]; decide)]
      show l = _
      refine (List.filter_eq_self.mpr (fun z hz => ?_)).symm
      have := List.countP_eq_zero.mp h0 z hz
      rw [Bool.eq_false_iff.mpr this]
      rfl
    · rw [if_neg hp, Nat.add_zero] at h
      have ih := ih h
      have hix : ix (nEq x) (y :: l) = ix (nEq x) l + 1 := if_neg hp
      rw [List.filter_cons_of_pos (by rw [Bool.eq_false_iff.mpr hp]; rfl), ← ih]
      unfold rmN
      rw [hix]
      by_cases hl : ix (nEq x) l < l.length
      · rw [if_pos hl, if_pos (by rw [List.length_cons]; omega)]
        rfl
      · rw [if_neg hl, if_neg (by rw [List.length_cons]; omega)]
theorem n_close0 {gc : Nat → Nat} {m : Nat} {M : Nat → Nat} {d : Nat} {X : XT} {s : St} {P T c : Nat} (h : SX 0 X s) (hv : IV P T s) (hc : c < 4) : WM gc m M (d + 2) 135 [.ref m, .int (nI c)] X (fun r X' => r = some (.int 0) ∧ SX 0 X' (opCc c s)) := by
  have hcl : (nI c).toNatClampNeg = c := nI_clamp (by omega)
  have hall := hv.1.2.2.2.1.all hv.1.2.2.1
  have hfl := flat_len (v := s.2)
  have hvc := v_cc hv hc
  have z : wi (nI c) 0 3 = true := wi_t (nI_pos (by omega)) (show ¬ nI 3 < nI c from nI_nlt (by omega) (by decide))
  refine N135 ⟨_, n_in (k := 3) (by decide), ?_⟩
  rintro r X3 ⟨rfl, rfl⟩
  refine ⟨_, rfl, fun _ => N135_10 ⟨_, n_forget h hv.2.1 hc (by omega), ?_⟩, fun y => absurd (show wi (nI c) 0 3 = false from b2i_z.mp y) (by rw [z]; decide)⟩
  rintro r X4 ⟨rfl, h4⟩
  refine ⟨_, rfl, ?_⟩
  have hp4 : sP X4 (fgt c s.2) := h4.2.2.2.2.2.1
  have hfl4 : (flat (fgt c s.2)).length = (flat s.2).length := by
    have e : flat (fgt c s.2) = (flat s.2).map (fun x => if hdC c x = true then setD x 0 else x) := flat_map (v := s.2) (k := 14 + c) (g := un) (fun r => by
      rw [mp_c, mp_c, if_pos (show hdC c (hCp c r) = true from decide_eq_true rfl)]
      unfold setD hCp
      rw [show rD (un r) + 1 = 0 from (by decide : (-1 : Int32) + 1 = 0)]
      rfl) (fun j hj hz r => by rw [if_neg (by rw [hdC_o hc hj hz]; decide)])
    rw [e, List.length_map]
  refine bc_loop (X0 := X4) hp4.1 (by rw [hfl4]; omega) (flat (fgt c s.2)).length 0 X4 (by omega) (fun _ _ _ _ => rfl) (fun j => by rw [if_neg (fun w => Nat.not_lt_zero _ w.1)]) (fun Y x2 y1 y2 => N135_48 ?_)
  obtain ⟨n, hN⟩ := h4.2.2.2.1
  have hN : sN X4 n s.2 := hN
  have hn24 := sN_24 hN hv.2.2.1
  have hNY : sN Y n s.2 := by
    have e : ∀ i, cnA Y i = cnA X4 i := fun i => by
      unfold cnA
      rw [y1 9 (by decide) (by decide) (by decide), y1 10 (by decide) (by decide) (by decide), y1 11 (by decide) (by decide) (by decide)]
    unfold sN cnL at hN ⊢
    rw [y1 12 (by decide) (by decide) (by decide), y1 9 (by decide) (by decide) (by decide), List.map_congr_left (fun i _ => e i)]
    exact hN
  rw [hNY.1]
  refine cx_loop (X0 := Y) (l0 := cnL Y n) (by rw [cnL_len]; omega) (fun x hx => ?_) n n Y (by rw [cnL_len]; exact Nat.le_refl _) hNY.1 (by
    have := flF_n (p := cnC (nI c)) (l := cnL Y n)
    rw [cnL_len] at this
    exact this.symm) (Ag.refl _ _) (fun Z n' x2 z1 z2 z3 => N135_80 ?_)
  · obtain ⟨i, hi, rfl⟩ := List.mem_map.mp hx
    exact sN_01 hNY (List.mem_range.mp hi)
  rw [hcl]
  refine ⟨nI_pos (by omega), hc, fun Y1 e1 => ⟨nI_pos (by omega), hc, Or.inl rfl, fun Y2 e2 => ⟨nI_pos (by omega), hc, fun Y3 e3 => ⟨rfl, ?_⟩⟩⟩⟩
  -- all together
  have kz : ∀ k, ¬ (9 ≤ k ∧ k ≤ 12) → k ≠ 26 → k ≠ 28 → k ≠ 30 → Z k = X4 k := fun k w1 w2 w3 w4 => by
    rw [z3 k (pC_f (by omega)), y1 k w2 w3 w4]
  have k3 : ∀ k, k ≠ 13 → k ≠ 14 → k ≠ 16 → Y3 k = Z k := fun k w1 w2 w3 => by
    rw [e3, e2, e1]
    exact funext (fun j => by rw [wr_k w2, wr_k w3, wr_k w1])
  have ky : ∀ k, ¬ (9 ≤ k ∧ k ≤ 12) → k ≠ 13 → k ≠ 14 → k ≠ 16 → k ≠ 26 → k ≠ 28 → k ≠ 30 → Y3 k = X4 k := fun k w1 w2 w3 w4 w5 w6 w7 => by rw [k3 k w2 w3 w4, kz k w1 w5 w6 w7]
  have en : ∀ j, ¬ (300 + 10 * c ≤ j ∧ j ≤ 302 + 10 * c) → (opCc c s).1 j = s.1 j := fun j hj => by
    show rstI c s.1 j = _
    unfold rstI
    rw [pk_un (by omega), pk_un (by omega), pk_un (by omega)]
  have i0 : (opCc c s).1 (300 + 10 * c) = 12 := by
    show rstI c s.1 _ = _
    unfold rstI
    rw [pk_un (by omega), pk_un (by omega), pk_us]
  have i1 : (opCc c s).1 (301 + 10 * c) = 0 := by
    show rstI c s.1 _ = _
    unfold rstI
    rw [pk_un (by omega), pk_us]
  have i2 : (opCc c s).1 (302 + 10 * c) = 0 := pk_us
  have hsv := Sv.clFk (c := c) (uC s.2 (14 + c)).length s.2
  have hB : uB (opCc c s).2 0 = uB s.2 0 := by
    show (rmA (nI c) 6 0 (clF c (uC s.2 (14 + c)).length s.2)).1 0 = _
    rw [(rmA_eq 6 0 _).1, hsv.1]
    rfl
  have hR : ∀ q, q < 6 → uR (opCc c s).2 (8 + q) = rmN (nI c) (uR s.2 (8 + q)) := fun q hq6 => by
    show uR (rmA (nI c) 6 0 (clF c (uC s.2 (14 + c)).length s.2)) (8 + q) = _
    rw [rmA_at, if_pos (by omega)]
    rw [show uR (clF c (uC s.2 (14 + c)).length s.2) (8 + q) = uR s.2 (8 + q) from congrFun (congrArg Prod.fst hsv.2) _]
  have hDd : ∀ k, uD (opCc c s).2 k = uD (upD s.2 (18 + c) []) k := fun k => by
    show va_up (rmA (nI c) 6 0 (clF c (uC s.2 (14 + c)).length s.2)).2.2.2 (18 + c) [] k = va_up s.2.2.2.2 (18 + c) [] k
    rw [(rmA_eq 6 0 _).2.2, hsv.2]
  have hC : (opCc c s).2.2.1 = (clF c (uC s.2 (14 + c)).length s.2).2.1 := cc_C (I := s.1) (v := s.2) hc hv.1.2.2.1 hv.1.2.2.2.1
  obtain ⟨c1, c2, c3⟩ := cl_keep hc (uC s.2 (14 + c)).length s.2 hv.1.2.2.1 hv.1.2.2.2.1
  rw [List.drop_length] at c3
  have hFl : flat (opCc c s).2 = flat (clF c (uC s.2 (14 + c)).length s.2) := flat_cg (fun k _ => congrFun hC k)
  have hcf := cl_flat hc hv.1.2.2.1 c3
  have hL : uC (opCc c s).2 1 = [] := hvc.2.1
  generalize hst : opCc c s = t at *
  obtain ⟨g1, g2, g3, g4, g5, g6, g7, g8, g9, g10⟩ := h4
  have g3 : sB X4 s.2 := g3
  have g5 : sD X4 s.1 (fgt c s.2) := g5
  refine ⟨?_, ?_, ?_, ⟨n', ?_⟩, fun c' hc' => ?_, ?_, ?_, ⟨?_, fun j r hr => ?_⟩, ?_, ?_⟩
  · unfold sE at g1 ⊢
    rw [ky 0 (by omega) (by decide) (by decide) (by decide) (by decide) (by decide) (by decide), ky 3 (by omega) (by decide) (by decide) (by decide) (by decide) (by decide) (by decide)]
    intro e he
    rw [en _ (by omega), en _ (by omega), en _ (by omega)]
    exact g1 e he
  · unfold sQ at g2 ⊢
    rw [ky 1 (by omega) (by decide) (by decide) (by decide) (by decide) (by decide) (by decide), ky 2 (by omega) (by decide) (by decide) (by decide) (by decide) (by decide) (by decide), ky 4 (by omega) (by decide) (by decide) (by decide) (by decide) (by decide) (by decide)]
    intro e he
    rw [en _ (by omega), en _ (by omega), en _ (by omega), en _ (by omega)]
    exact g2 e he
  · unfold sB bnL bnA at g3 ⊢
    rw [ky 5 (by omega) (by decide) (by decide) (by decide) (by decide) (by decide) (by decide), ky 6 (by omega) (by decide) (by decide) (by decide) (by decide) (by decide) (by decide), ky 7 (by omega) (by decide) (by decide) (by decide) (by decide) (by decide) (by decide), ky 8 (by omega) (by decide) (by decide) (by decide) (by decide) (by decide) (by decide), hB]
    exact g3
  · have e9 : Y3 9 = Z 9 := k3 9 (by decide) (by decide) (by decide)
    have e10 : Y3 10 = Z 10 := k3 10 (by decide) (by decide) (by decide)
    have e11 : Y3 11 = Z 11 := k3 11 (by decide) (by decide) (by decide)
    have eL : cnL Y3 n' = cnL Z n' := List.map_congr_left (fun i _ => by unfold cnA; rw [e9, e10, e11])
    have := sN.flt (X := Y) (Y := Y3) (n' := n') (v' := t.2) (p := cnC (nI c)) hNY (by rw [k3 12 (by decide) (by decide) (by decide)]; exact z1) (by rw [eL]; exact z2) (fun q hq6 => by
      rw [hR q hq6, rmN_flt ((hv.2.2.1 q hq6).2.1 c hc)]
      rfl)
    exact this
  · obtain ⟨w1, w2, w3, w4, w5⟩ := g5 c' hc'
    have e15 : Y3 15 = X4 15 := ky 15 (by omega) (by decide) (by decide) (by decide) (by decide) (by decide) (by decide)
    have e17 : ∀ k, 17 ≤ k → k ≤ 20 → Y3 k = X4 k := fun k w1 w2 => ky k (by omega) (by omega) (by omega) (by omega) (by omega) (by omega) (by omega)
    have z13 : Z 13 = X4 13 := kz 13 (by omega) (by decide) (by decide) (by decide)
    have z14 : Z 14 = X4 14 := kz 14 (by omega) (by decide) (by decide) (by decide)
    have z16 : Z 16 = X4 16 := kz 16 (by omega) (by decide) (by decide) (by decide)
    have hdd : ∀ k, uD t.2 k = uD (fgt c s.2) k := fun k => hDd k
    rw [hdd]
    refine ⟨?_, ?_, ?_, by rw [e15]; exact w4, fun j d hd => ?_⟩
    · rw [e3, wr_k (by decide), e2, wr_k (by decide), e1]
      by_cases hz : c' = c
      · subst hz; rw [wr_s, i0]
      · rw [wr_i hz, z13, en _ (by omega)]; exact w1
    · rw [e3]
      by_cases hz : c' = c
      · subst hz; rw [wr_s, i2]
      · rw [wr_i hz, e2, wr_k (by decide), e1, wr_k (by decide), z14, en _ (by omega)]; exact w2
    · rw [e3, wr_k (by decide), e2]
      by_cases hz : c' = c
      · subst hz; rw [wr_s, i1]
      · rw [wr_i hz, e1, wr_k (by decide), z16, en _ (by omega)]; exact w3
    · have := w5 j d hd
      unfold ddS at this ⊢
      rw [e17 17 (by decide) (by decide), e17 18 (by decide) (by decide), e17 19 (by decide) (by decide), e17 20 (by decide) (by decide)]
      exact this
  · have hlenT : (flat t.2).length = (flat s.2).length := by rw [hFl, hcf.length_eq, List.length_map]
    unfold sP
    rw [hlenT]
    have e31 : Y3 31 = X4 31 := ky 31 (by omega) (by decide) (by decide) (by decide) (by decide) (by decide) (by decide)
    refine ⟨by rw [e31, hp4.1, hfl4], ?_⟩
    have cY : ∀ i, i < (flat s.2).length → cpA Y3 i = fB c (cpA X4 i) := fun i hi => by
      rw [cpA_cg (X := Y) (Y := Y3) (fun k w1 w2 => by rw [k3 k (by omega) (by omega) (by omega), z3 k (pC_f (by omega))])]
      exact y2 i (by rw [hfl4]; exact hi)
    have eL : cpL Y3 (flat s.2).length = (cpL X4 (flat s.2).length).map (fB c) := by
      unfold cpL
      rw [List.map_map]
      exact List.map_congr_left (fun i hi => cY i (List.mem_range.mp hi))
    rw [eL, hFl]
    have hp4b := hp4.2
    rw [hfl4] at hp4b
    have e : (flat (fgt c s.2)).map (fB c) = (flat s.2).map (fB c) := by
      have e0 : flat (fgt c s.2) = (flat s.2).map (fun x => if hdC c x = true then setD x 0 else x) := flat_map (v := s.2) (k := 14 + c) (g := un) (fun r => by
        rw [mp_c, mp_c, if_pos (show hdC c (hCp c r) = true from decide_eq_true rfl)]
        unfold setD hCp
        rw [show rD (un r) + 1 = 0 from (by decide : (-1 : Int32) + 1 = 0)]
        rfl) (fun j hj hz r => by rw [if_neg (by rw [hdC_o hc hj hz]; decide)])
      rw [e0, List.map_map]
      refine List.map_congr_left (fun x _ => ?_)
      show fB c (if hdC c x = true then setD x 0 else x) = fB c x
      unfold fB
      by_cases hz : hdC c x = true
      · rw [if_pos hz, if_pos (show hdC c (setD x 0) = true from hz), if_pos hz]
        rfl
      · rw [if_neg hz]
    exact ((hp4b.map (fB c)).trans (by rw [e])).trans hcf.symm
  · rw [ky 32 (by omega) (by decide) (by decide) (by decide) (by decide) (by decide) (by decide), g7]
    exact (en 0 (by omega)).symm
  · rw [hL]
    have hL4 : uC (fgt c s.2) 1 = [] := by rw [fgt_C (by omega)]; exact hv.2.1
    have g8 : X4 38 0 = nI (uC (fgt c s.2) 1).length := g8.1
    rw [ky 38 (by omega) (by decide) (by decide) (by decide) (by decide) (by decide) (by decide), g8, hL4]
  · rw [hL] at hr
    cases hr
  · rw [ky 39 (by omega) (by decide) (by decide) (by decide) (by decide) (by decide) (by decide), g9]
    show s.1 1 + _ = _
    rw [en 1 (by omega)]
  · rw [ky 40 (by omega) (by decide) (by decide) (by decide) (by decide) (by decide) (by decide), g10]
    exact (en 2 (by omega)).symm
theorem n_close {gc : Nat → Nat} {m : Nat} {M : Nat → Nat} {d : Nat} {X : XT} {s : St} {P T : Nat} {x : Int32} (h : SX 0 X s) (hv : IV P T s) : WM gc m M (d + 2) 135 [.ref m, .int x] X (fun r X' => r = some (.int (opCl s x).1) ∧ SX 0 X' (opCl s x).2) := by
  by_cases z : wi x 0 3 = true
  · obtain ⟨c, hc, rfl⟩ := wi_rng (n := 3) (by decide) z
    have ho : opCl s (nI c) = (0, opCc c s) := by
      unfold opCl
      rw [z, if_pos rfl, nI_clamp (by omega)]
    rw [ho]
    exact n_close0 h hv hc
  · have ho : opCl s x = (-1, s) := by
      unfold opCl
      rw [if_neg z]
    rw [ho]
    refine N135 ⟨_, n_in (k := 3) (by decide), ?_⟩
    rintro r X3 ⟨rfl, rfl⟩
    exact ⟨_, rfl, fun y => absurd (b2i_nz y) z, fun _ => ⟨rfl, h⟩⟩
