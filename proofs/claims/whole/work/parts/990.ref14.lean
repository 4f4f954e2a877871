/-! the reference: drop -/
/-- one after the other taken out, from the end: copies -/
def rmP (p : Cp → Bool) (X0 : XT) (n0 : Nat) (X : XT) (n k g : Nat) : Prop := X 31 0 = nI n ∧ k ≤ n ∧ n ≤ n0 ∧ ((cpL X n).filter (fun x => !p x)).Perm ((cpL X0 n0).filter (fun x => !p x)) ∧ (∀ j, k ≤ j → j < n → p (cpA X j) = false) ∧ (∀ j, j < n → ∃ j', j' < n0 ∧ cpA X j = cpA X0 j') ∧ g + n = n0 ∧ Ag pP X0 X
theorem rmP.fin {p : Cp → Bool} {X0 X : XT} {n0 n g : Nat} (h : rmP p X0 n0 X n 0 g) : (cpL X n).Perm ((cpL X0 n0).filter (fun x => !p x)) ∧ g = (cpL X0 n0).countP p := by
  obtain ⟨h1, h2, h3, h4, h5, h6, h7, h8⟩ := h
  have e : (cpL X n).filter (fun x => !p x) = cpL X n := List.filter_eq_self.mpr (fun x hx => by
    obtain ⟨i, hi, rfl⟩ := cpL_mem.mp hx
    rw [h5 i (Nat.zero_le _) hi]
    rfl)
  rw [e] at h4
  refine ⟨h4, ?_⟩
  have e2 := h4.length_eq
  rw [cpL_len] at e2
  have e3 : (cpL X0 n0).countP p + ((cpL X0 n0).filter (fun x => !p x)).length = n0 := by
    have := List.length_eq_countP_add_countP (p := p) (l := cpL X0 n0)
    rw [cpL_len, List.countP_eq_length_filter (p := fun a => decide ¬p a = true)] at this
    have q : (cpL X0 n0).filter (fun a => decide ¬p a = true) = (cpL X0 n0).filter (fun x => !p x) := List.filter_congr (fun x _ => by cases p x <;> rfl)
    rw [q] at this
    omega
  omega
theorem rmP.no {p : Cp → Bool} {X0 X : XT} {n0 n k g : Nat} (h : rmP p X0 n0 X n (k + 1) g) (hp : p (cpA X k) = false) : rmP p X0 n0 X n k g := by
  obtain ⟨h1, h2, h3, h4, h5, h6, h7, h8⟩ := h
  refine ⟨h1, by omega, h3, h4, fun j w1 w2 => ?_, h6, h7, h8⟩
  by_cases hz : j = k
  · subst hz; exact hp
  · exact h5 j (by omega) w2
theorem rmP.yes {p : Cp → Bool} {X0 X Y : XT} {n0 n k g : Nat} (h : rmP p X0 n0 X (n + 1) (k + 1) g) (hp : p (cpA X k) = true) (g1 : Ag pP X Y) (g2 : Y 31 0 = nI n) (g3 : ∀ j, cpA Y j = if j = k then cpA X n else cpA X j) : rmP p X0 n0 Y n k (g + 1) := by
  obtain ⟨h1, h2, h3, h4, h5, h6, h7, h8⟩ := h
  refine ⟨g2, by omega, by omega, ?_, fun j w1 w2 => ?_, fun j hj => ?_, by omega, h8.trans g1⟩
  · have p1 := (cp_sw (by omega) g3).filter (fun x => !p x)
    rw [List.filter_cons_of_neg (by rw [hp]; decide)] at p1
    exact p1.symm.trans h4
  · rw [g3 j]
    by_cases hz : j = k
    · rw [if_pos hz]
      exact h5 n (by omega) (by omega)
    · rw [if_neg hz]
      exact h5 j (by omega) (by omega)
  · rw [g3 j]
    by_cases hz : j = k
    · rw [if_pos hz]
      exact h6 n (by omega)
    · rw [if_neg hz]
      exact h6 j (by omega)
def cQw (w : Nat) (x : Cp) : Bool := decide (cQ x = nI w)
/-- flags, of all -/
def f01 (X : XT) (n : Nat) : Prop := ∀ i, i < n → (X 29 i = 0 ∨ X 29 i = 1) ∧ (X 30 i = 0 ∨ X 30 i = 1)
theorem rmP.f {p : Cp → Bool} {X0 X : XT} {n0 n k g : Nat} (h : rmP p X0 n0 X n k g) (hf : f01 X0 n0) : f01 X n := fun i hi => by
  obtain ⟨j, hj, he⟩ := h.2.2.2.2.2.1 i hi
  have e1 : X 29 i = X0 29 j := congrArg (fun z : Cp => z.2.2.2.2.2.2.2.2.1) he
  have e2 : X 30 i = X0 30 j := congrArg (fun z : Cp => z.2.2.2.2.2.2.2.2.2) he
  rw [e1, e2]
  exact hf j hj
theorem dc_loop {gc : Nat → Nat} {m : Nat} {M : Nat → Nat} {d : Nat} {X0 : XT} {q : QT} {n0 w : Nat} (hn0 : n0 ≤ 400) (hf : f01 X0 n0) : ∀ k n g (X : XT), rmP (cQw w) X0 n0 X n k g → (∀ Y n' g' x3, rmP (cQw w) X0 n0 Y n' 0 g' → TM gc m M (d + 1) 106 q 50 [.ref m, .int (nI w), .int (nI g'), .int x3] [] Y) → TM gc m M (d + 1) 106 q 19 [.ref m, .int (nI w), .int (nI g), .int (nI k - 1)] [] X := by
  intro k
  induction k with
  | zero =>
    intro n g X h hq
    exact N106_19 ⟨fun _ => hq X n g _ h, fun z => absurd neg_1 z⟩
  | succ k ih =>
    intro n g X h hq
    have hkn := h.2.1
    have hnn := h.2.2.1
    rw [nI_pred]
    have hcl : (nI k).toNatClampNeg = k := nI_clamp (by omega)
    refine N106_19 ⟨fun z => absurd z (nI_pos (by omega)), fun _ => ⟨nI_pos (by omega), by omega, ?_⟩⟩
    rw [hcl]
    refine ⟨fun z => ?_, fun z => N106_44 ?_⟩
    · obtain ⟨n, rfl⟩ : ∃ n', n = n' + 1 := ⟨n - 1, by omega⟩
      have ff := h.f hf n (by omega)
      refine N106_36 ⟨_, n_remove h.1 (by omega) (by omega) ff.1 ff.2, ?_⟩
      rintro r Y ⟨rfl, g1, g2, g3⟩
      refine ⟨rfl, N106_44 ?_⟩
      rw [ne_1, nI_1]
      exact ih n (g + 1) Y (h.yes (decide_eq_true z) g1 g2 g3) hq
    · rw [ne_1]
      exact ih n g X (h.no (decide_eq_false z)) hq
/-- the same for bindings -/
def rmB (p : Bnd → Bool) (X0 : XT) (n0 : Nat) (X : XT) (n k : Nat) : Prop := X 8 0 = nI n ∧ k ≤ n ∧ n ≤ n0 ∧ ((bnL X n).filter (fun x => !p x)).Perm ((bnL X0 n0).filter (fun x => !p x)) ∧ (∀ j, k ≤ j → j < n → p (bnA X j) = false) ∧ Ag pB X0 X
theorem rmB.fin {p : Bnd → Bool} {X0 X : XT} {n0 n : Nat} (h : rmB p X0 n0 X n 0) : (bnL X n).Perm ((bnL X0 n0).filter (fun x => !p x)) := by
  obtain ⟨h1, h2, h3, h4, h5, h6⟩ := h
  have e : (bnL X n).filter (fun x => !p x) = bnL X n := List.filter_eq_self.mpr (fun x hx => by
    obtain ⟨i, hi, rfl⟩ := bn_mem.mp hx
    rw [h5 i (Nat.zero_le _) hi]
    rfl)
  rw [e] at h4
  exact h4
theorem rmB.no {p : Bnd → Bool} {X0 X : XT} {n0 n k : Nat} (h : rmB p X0 n0 X n (k + 1)) (hp : p (bnA X k) = false) : rmB p X0 n0 X n k := by
  obtain ⟨h1, h2, h3, h4, h5, h6⟩ := h
  refine ⟨h1, by omega, h3, h4, fun j w1 w2 => ?_, h6⟩
  by_cases hz : j = k
  · subst hz; exact hp
  · exact h5 j (by omega) w2
theorem rmB.yes {p : Bnd → Bool} {X0 X Y : XT} {n0 n k : Nat} (h : rmB p X0 n0 X (n + 1) (k + 1)) (hp : p (bnA X k) = true) (g1 : Ag pB X Y) (g2 : Y 8 0 = nI n) (g3 : ∀ j, bnA Y j = if j = k then bnA X n else bnA X j) : rmB p X0 n0 Y n k := by
  obtain ⟨h1, h2, h3, h4, h5, h6⟩ := h
  refine ⟨g2, by omega, by omega, ?_, fun j w1 w2 => ?_, h6.trans g1⟩
  · have p1 := (bn_sw (by omega) g3).filter (fun x => !p x)
    rw [List.filter_cons_of_neg (by rw [hp]; decide)] at p1
    exact p1.symm.trans h4
  · rw [g3 j]
    by_cases hz : j = k
    · rw [if_pos hz]
      exact h5 n (by omega) (by omega)
    · rw [if_neg hz]
      exact h5 j (by omega) (by omega)
theorem db_loop {gc : Nat → Nat} {m : Nat} {M : Nat → Nat} {d : Nat} {X0 : XT} {q : QT} {n0 w : Nat} {x2 : Int32} (hn0 : n0 ≤ 24) : ∀ k n (X : XT), rmB (bQ (nI w)) X0 n0 X n k → (∀ Y n' x3, rmB (bQ (nI w)) X0 n0 Y n' 0 → TM gc m M (d + 1) 106 q 82 [.ref m, .int (nI w), .int x2, .int x3] [] Y) → TM gc m M (d + 1) 106 q 57 [.ref m, .int (nI w), .int x2, .int (nI k - 1)] [] X := by
  intro k
  induction k with
  | zero =>
    intro n X h hq
    exact N106_57 ⟨fun _ => hq X n _ h, fun z => absurd neg_1 z⟩
  | succ k ih =>
    intro n X h hq
    have hkn := h.2.1
    have hnn := h.2.2.1
    rw [nI_pred]
    have hcl : (nI k).toNatClampNeg = k := nI_clamp (by omega)
    refine N106_57 ⟨fun z => absurd z (nI_pos (by omega)), fun _ => ⟨nI_pos (by omega), by omega, ?_⟩⟩
    rw [hcl]
    refine ⟨fun z => N106_76 ?_, fun z => ?_⟩
    · rw [ne_1]
      exact ih n X (h.no (decide_eq_false z)) hq
    · obtain ⟨n, rfl⟩ : ∃ n', n = n' + 1 := ⟨n - 1, by omega⟩
      refine ⟨_, n_unbindAt h.1 (by omega) (by omega), ?_⟩
      rintro r Y ⟨rfl, g1, g2, g3⟩
      refine ⟨rfl, N106_76 ?_⟩
      rw [ne_1]
      exact ih n Y (h.yes (decide_eq_true z) g1 g2 g3) hq
theorem dx_loop {gc : Nat → Nat} {m : Nat} {M : Nat → Nat} {d : Nat} {X0 : XT} {q : QT} {w : Nat} {l0 : List Cn} {x2 : Int32} (hl0 : l0.length ≤ 25) (h01 : ∀ x, x ∈ l0 → x.2.2 = 0 ∨ x.2.2 = 1) : ∀ k n (X : XT), k ≤ l0.length → X 12 0 = nI n → cnL X n = flF (cnQ w) l0 k → Ag pC X0 X → (∀ Y n' x3, Y 12 0 = nI n' → cnL Y n' = l0.filter (fun x => !cnQ w x) → Ag pC X0 Y → TM gc m M (d + 1) 106 q 114 [.ref m, .int (nI w), .int x2, .int x3] [] Y) → TM gc m M (d + 1) 106 q 89 [.ref m, .int (nI w), .int x2, .int (nI k - 1)] [] X := by
  intro k
  induction k with
  | zero =>
    intro n X hk hn hl ha hq
    exact N106_89 ⟨fun _ => hq X n _ hn hl ha, fun z => absurd neg_1 z⟩
  | succ k ih =>
    intro n X hk hn hl ha hq
    have hkl : k < l0.length := by omega
    have hlen : n = (flF (cnQ w) l0 (k + 1)).length := by rw [← hl, cnL_len]
    have hkn : k < n := by rw [hlen]; exact Nat.lt_of_succ_le (flF_len hk)
    have hget : (cnL X n)[k]? = some l0[k] := by rw [hl]; exact flF_get hkl
    rw [cnL_get hkn] at hget
    have hent : cnA X k = l0[k] := Option.some.inj hget
    have hn25 : n ≤ 25 := by
      rw [hlen]
      unfold flF
      rw [List.length_append, List.length_take]
      have := List.length_filter_le (fun y => !cnQ w y) (l0.drop (k + 1))
      rw [List.length_drop] at this
      omega
    have hmem : ∀ j, j < n → cnA X j ∈ l0 := fun j hj => by
      have : cnA X j ∈ cnL X n := List.mem_map.mpr ⟨j, List.mem_range.mpr hj, rfl⟩
      rw [hl] at this
      unfold flF at this
      rcases List.mem_append.mp this with y | y
      · exact List.mem_of_mem_take y
      · exact List.mem_of_mem_drop (List.mem_filter.mp y).1
    rw [nI_pred]
    have hcl : (nI k).toNatClampNeg = k := nI_clamp (by omega)
    have h9 : X 9 k = (l0[k]).1 := congrArg (fun z => z.1) hent
    refine N106_89 ⟨fun z => absurd z (nI_pos (by omega)), fun _ => ⟨nI_pos (by omega), by omega, ?_⟩⟩
    rw [hcl, h9]
    refine ⟨fun z => N106_108 ?_, fun z => ?_⟩
    · rw [ne_1]
      refine ih n X (by omega) hn ?_ ha hq
      rw [hl]
      exact flF_sk hkl (decide_eq_false z)
    · obtain ⟨n, rfl⟩ : ∃ n', n = n' + 1 := ⟨n - 1, by omega⟩
      refine ⟨_, n_rmC hn (by omega) (by omega) (fun j hj => h01 _ (hmem j (by omega))), ?_⟩
      rintro r Y ⟨rfl, g1, g2, g3⟩
      refine ⟨rfl, N106_108 ?_⟩
      rw [ne_1]
      refine ih n Y (by omega) g2 ?_ (ha.trans g1) hq
      rw [g3, hl]
      exact flF_er hkl (decide_eq_true z)
theorem cQ_mp {k : Nat} {r : Rec} : cQ (mp k r) = rQ r := by
  unfold mp
  split <;> rfl
/-- what drop leaves of the copies -/
theorem fgQ_fl {w : Nat} {s : St} (hw : w < 6) (hcq : CQ s.2) : ∀ n, fl (fgQ w s).2.2 n = (fl s.2 n).filter (fun x => !cQw w x) := by
  intro n
  induction n with
  | zero => rfl
  | succ n ih =>
    show fl (fgQ w s).2.2 n ++ _ = (fl s.2 n ++ _).filter _
    rw [ih, List.filter_append]
    congr 1
    by_cases hp : isP n = true
    · rw [if_pos hp, if_pos hp, fgQ_C hw]
      have hcw : ∀ r, cQw w (mp n r) = pq w r := fun r => by
        unfold cQw pq
        rw [cQ_mp]
      by_cases hz : n = 2 + w
      · subst hz
        rw [if_pos rfl]
        refine (List.filter_eq_nil_iff.mpr (fun x hx => ?_)).symm
        obtain ⟨r, hr, rfl⟩ := List.mem_map.mp hx
        rw [hcw, show pq w r = true from decide_eq_true (hcq.2 w hw r hr)]
        decide
      · rw [if_neg hz]
        by_cases hz2 : 14 ≤ n ∧ n < 18
        · rw [if_pos hz2, List.filter_map]
          congr 1
          refine List.filter_congr (fun r _ => ?_)
          show _ = !cQw w (mp n r)
          rw [hcw]
        · rw [if_neg hz2]
          obtain ⟨p, hp6, rfl⟩ : ∃ p, p < 6 ∧ n = 2 + p := by
            rcases isP_qc hp with y | ⟨c, hc, y⟩
            · exact y
            · omega
          refine (List.filter_eq_self.mpr (fun x hx => ?_)).symm
          obtain ⟨r, hr, rfl⟩ := List.mem_map.mp hx
          rw [hcw, show pq w r = false from decide_eq_false (fun y => by
            rw [hcq.2 p hp6 r hr] at y
            have := (nI_eq (by omega) (by omega)).mp y
            omega)]
          rfl
    · rw [if_neg hp, if_neg hp]
      rfl
theorem lgN_eq {w : Nat} : ∀ n c (v : Mu) g, lgN w n c v g = g + sumTo (fun i => (uC v (14 + (c + i))).countP (pq w)) n := by
  intro n
  induction n with
  | zero => intro c v g; rfl
  | succ n ih =>
    intro c v g
    show lgN w n (c + 1) (upC v (14 + c) _) (g + (uC v (14 + c)).countP (pq w)) = _
    rw [ih]
    have e : sumTo (fun i => (uC (upC v (14 + c) ((uC v (14 + c)).filter (fun y => !pq w y))) (14 + (c + 1 + i))).countP (pq w)) n = sumTo (fun i => (uC v (14 + (c + 1 + i))).countP (pq w)) n := sumTo_cg n (fun i _ => by rw [uC_n (by omega)])
    rw [e]
    have e2 : ∀ n, sumTo (fun i => (uC v (14 + (c + i))).countP (pq w)) (n + 1) = (uC v (14 + c)).countP (pq w) + sumTo (fun i => (uC v (14 + (c + 1 + i))).countP (pq w)) n := by
      intro n
      induction n with
      | zero => show 0 + _ = _ + 0; rw [Nat.zero_add, Nat.add_zero]; rfl
      | succ n ih2 =>
        show sumTo (fun i => (uC v (14 + (c + i))).countP (pq w)) (n + 1) + (uC v (14 + (c + (n + 1)))).countP (pq w) = _ + (sumTo _ n + (uC v (14 + (c + 1 + n))).countP (pq w))
        rw [ih2, show c + (n + 1) = c + 1 + n by omega]
        omega
    rw [e2 n]
    omega
theorem fl_cnt {w : Nat} {v : Mu} : ∀ n, (fl v n).countP (cQw w) = sumTo (fun k => if isP k then (uC v k).countP (pq w) else 0) n := by
  intro n
  induction n with
  | zero => rfl
  | succ n ih =>
    show (fl v n ++ _).countP _ = sumTo _ n + _
    rw [List.countP_append, ih]
    dsimp only
    split
    · rw [List.countP_map]
      congr 1
      refine List.countP_congr (fun r _ => ?_)
      show cQw w (mp n r) = true ↔ _
      unfold cQw pq
      rw [cQ_mp]
    · rfl
theorem fgQ_n {w : Nat} {s : St} (hw : w < 6) (hcq : CQ s.2) : (fgQ w s).1 = (flat s.2).countP (cQw w) := by
  show lgN w 4 0 (upB s.2 0 _) (uC s.2 (2 + w)).length = _
  rw [lgN_eq]
  unfold flat
  rw [fl_cnt]
  have hq : ∀ q, q < 6 → (uC s.2 (2 + q)).countP (pq w) = if q = w then (uC s.2 (2 + w)).length else 0 := fun q hq6 => by
    by_cases hz : q = w
    · subst hz
      rw [if_pos rfl]
      exact List.countP_eq_length.mpr (fun r hr => decide_eq_true (hcq.2 q hq6 r hr))
    · rw [if_neg hz]
      refine List.countP_eq_zero.mpr (fun r hr y => ?_)
      have y := of_decide_eq_true y
      rw [hcq.2 q hq6 r hr] at y
      exact hz ((nI_eq (by omega) (by omega)).mp y)
  show (uC s.2 (2 + w)).length + (0 + (uC s.2 14).countP (pq w) + (uC s.2 15).countP (pq w) + (uC s.2 16).countP (pq w) + (uC s.2 17).countP (pq w)) = 0 + (0 : Nat) + 0 + (uC s.2 (2 + 0)).countP (pq w) + (uC s.2 (2 + 1)).countP (pq w) + (uC s.2 (2 + 2)).countP (pq w) + (uC s.2 (2 + 3)).countP (pq w) + (uC s.2 (2 + 4)).countP (pq w) + (uC s.2 (2 + 5)).countP (pq w) + 0 + 0 + 0 + 0 + 0 + 0 + (uC s.2 14).countP (pq w) + (uC s.2 15).countP (pq w) + (uC s.2 16).countP (pq w) + (uC s.2 17).countP (pq w)
  rw [hq 0 (by decide), hq 1 (by decide), hq 2 (by decide), hq 3 (by decide), hq 4 (by decide), hq 5 (by decide)]
  match w, hw with
  | 0, _ => simp; omega
  | 1, _ => simp; omega
  | 2, _ => simp; omega
  | 3, _ => simp; omega
  | 4, _ => simp; omega
  | 5, _ => simp; omega
  | w + 6, h => omega
theorem n_drop0 {gc : Nat → Nat} {m : Nat} {M : Nat → Nat} {d : Nat} {X : XT} {s : St} {P T w : Nat} (h : SX 0 X s) (hv : IV P T s) (hw : w < 6) (hd : ¬ s.1 (200 + 10 * w) = 0) : WM gc m M (d + 3) 106 [.ref m, .int (nI w)] X (fun r X' => r = some (.int (nI (fgQ w s).1)) ∧ SX 0 X' (fgQ w s).2) := by
  have hcl : (nI w).toNatClampNeg = w := nI_clamp (by omega)
  have hall := hv.1.2.2.2.1.all hv.1.2.2.1
  have hfl := flat_len (v := s.2)
  have hcq := hv.1.2.2.1
  have hp := h.2.2.2.2.2.1
  have hq0 : isQu s.1 (nI w) = true := by
    unfold isQu
    rw [hcl, decide_eq_true hd, decide_eq_true (show ¬ nI w < 0 ∧ ¬ 5 < nI w from ⟨nI_pos (by omega), (show ¬ nI 5 < nI w from nI_nlt (by omega) (by decide))⟩)]
    rfl
  refine N106 ⟨_, n_isQ h.2.1 hv.1.1, ?_⟩
  rintro r X3 ⟨rfl, rfl⟩
  refine ⟨_, rfl, fun _ => N106_10 ?_, fun y => absurd (b2i_z.mp y) (by rw [hq0]; decide)⟩
  rw [hp.1]
  refine dc_loop (d := d + 1) (X0 := X3) (n0 := (flat s.2).length) (by omega) (fun i hi => sP_01 hp hi) (flat s.2).length (flat s.2).length 0 X3 ⟨hp.1, Nat.le_refl _, Nat.le_refl _, List.Perm.refl _, fun j w1 w2 => by omega, fun j hj => ⟨j, hj, rfl⟩, by omega, Ag.refl _ _⟩ (fun Y1 n1 g1 x3 r1 => N106_50 ?_)
  obtain ⟨f1, f2⟩ := r1.fin
  have a1 : Ag pP X3 Y1 := r1.2.2.2.2.2.2.2
  have hb := h.2.2.1
  have hbn := hv.1.2.2.2.2.2.2.1.1
  have hb8 : Y1 8 0 = nI (uB s.2 0).length := by rw [a1 8 rfl]; exact hb.1
  rw [hb8]
  refine db_loop (d := d + 1) (X0 := Y1) (n0 := (uB s.2 0).length) hbn (uB s.2 0).length (uB s.2 0).length Y1 ⟨hb8, Nat.le_refl _, Nat.le_refl _, List.Perm.refl _, fun j w1 w2 => by omega, Ag.refl _ _⟩ (fun Y2 n2 x3 r2 => N106_82 ?_)
  have f3 := r2.fin
  have a2 : Ag pB Y1 Y2 := r2.2.2.2.2.2
  obtain ⟨n, hN⟩ := h.2.2.2.1
  have hN : sN X3 n s.2 := hN
  have hn24 := sN_24 hN hv.2.2.1
  have hN2 : sN Y2 n s.2 := by
    have k9 : ∀ k, 9 ≤ k → k ≤ 12 → Y2 k = X3 k := fun k w1 w2 => by rw [a2 k (pB_f (by omega)), a1 k (pP_f (by omega))]
    have e : ∀ i, cnA Y2 i = cnA X3 i := fun i => by
      unfold cnA
      rw [k9 9 (by decide) (by decide), k9 10 (by decide) (by decide), k9 11 (by decide) (by decide)]
    unfold sN cnL at hN ⊢
    rw [k9 12 (by decide) (by decide), k9 9 (by decide) (by decide), List.map_congr_left (fun i _ => e i)]
    exact hN
  rw [hN2.1]
  refine dx_loop (d := d + 1) (X0 := Y2) (l0 := cnL Y2 n) (by rw [cnL_len]; omega) (fun x hx => ?_) n n Y2 (by rw [cnL_len]; exact Nat.le_refl _) hN2.1 (by
    have := flF_n (p := cnQ w) (l := cnL Y2 n)
    rw [cnL_len] at this
    exact this.symm) (Ag.refl _ _) (fun Y3 n3 x3 z1 z2 a3 => N106_114 ?_)
  · obtain ⟨i, hi, rfl⟩ := List.mem_map.mp hx
    exact sN_01 hN2 (List.mem_range.mp hi)
  rw [hcl]
  refine ⟨nI_pos (by omega), hw, fun Y4 e4 => ⟨?_, ?_⟩⟩
  · rw [f2, fgQ_n hw hcq, hp.2.countP_eq]
  have k3 : ∀ k, ¬ (5 ≤ k ∧ k ≤ 12) → ¬ (21 ≤ k ∧ k ≤ 31) → Y3 k = X3 k := fun k w1 w2 => by rw [a3 k (pC_f (by omega)), a2 k (pB_f (by omega)), a1 k (pP_f (by omega))]
  have k4 : ∀ k, k ≠ 1 → Y4 k = Y3 k := fun k hk => by rw [e4]; exact funext (fun j => wr_k hk)
  have ky : ∀ k, k ≠ 1 → ¬ (5 ≤ k ∧ k ≤ 12) → ¬ (21 ≤ k ∧ k ≤ 31) → Y4 k = X3 k := fun k w1 w2 w3 => by rw [k4 k w1, k3 k w2 w3]
  have kp : ∀ k, 21 ≤ k → k ≤ 31 → Y4 k = Y1 k := fun k w1 w2 => by rw [k4 k (by omega), a3 k (pC_f (by omega)), a2 k (pB_f (by omega))]
  have kb : ∀ k, 5 ≤ k → k ≤ 8 → Y4 k = Y2 k := fun k w1 w2 => by rw [k4 k (by omega), a3 k (pC_f (by omega))]
  have kc : ∀ k, 9 ≤ k → k ≤ 12 → Y4 k = Y3 k := fun k w1 w2 => k4 k (by omega)
  have en : ∀ j, j ≠ 200 + 10 * w → (fgQ w s).2.1 j = s.1 j := fun j hj => pk_un hj
  have e0 : (fgQ w s).2.1 (200 + 10 * w) = 0 := pk_us
  have hC := fun k => fgQ_C (s := s) (k := k) hw
  have hBb := fgQ_B (w := w) (s := s)
  have hR := fun k => fgQ_R (w := w) (s := s) (k := k)
  have hD := fun k => fgQ_D (w := w) (s := s) (k := k)
  have hF : flat (fgQ w s).2.2 = (flat s.2).filter (fun x => !cQw w x) := fgQ_fl hw hcq 18
  have hL : uC (fgQ w s).2.2 1 = [] := (v_fgQ hv hw).2.1
  show SX 0 Y4 ((fgQ w s).2.1, (fgQ w s).2.2)
  generalize (fgQ w s).2.1 = J at en e0
  generalize (fgQ w s).2.2 = V at hC hBb hR hD hF hL
  obtain ⟨g1', g2', g3', g4', g5', g6', g7', g8', g9', g10'⟩ := h
  refine ⟨fun e he => ?_, fun q hq6 => ?_, ?_, ⟨n3, ?_⟩, fun c hc => ?_, ?_, ?_, ⟨?_, fun j r hr => ?_⟩, ?_, ?_⟩
  · rw [ky 0 (by decide) (by omega) (by omega), ky 3 (by decide) (by omega) (by omega)]
    show X3 0 e = (if J (100 + 10 * e) = 0 then -1 else J (101 + 10 * e)) ∧ (¬ J (100 + 10 * e) = 0 → X3 3 e = J (102 + 10 * e))
    rw [en _ (by omega), en _ (by omega), en _ (by omega)]
    exact g1' e he
  · show Y4 1 q = (if J (200 + 10 * q) = 0 then 0 else J (201 + 10 * q)) ∧ (¬ J (200 + 10 * q) = 0 → Y4 2 q = J (202 + 10 * q) ∧ Y4 4 q = J (203 + 10 * q))
    rw [ky 2 (by decide) (by omega) (by omega), ky 4 (by decide) (by omega) (by omega)]
    by_cases hz : q = w
    · subst hz
      rw [e4, wr_s, e0, if_pos rfl]
      exact ⟨rfl, fun y => absurd rfl y⟩
    · rw [e4, wr_i hz, k3 1 (by omega) (by omega), en _ (by omega), en _ (by omega), en _ (by omega), en _ (by omega)]
      exact g2' q hq6
  · show Y4 8 0 = nI (uB V 0).length ∧ (bnL Y4 (uB V 0).length).Perm (uB V 0)
    have eb : ∀ i, bnA Y4 i = bnA Y2 i := fun i => by
      unfold bnA
      rw [kb 5 (by decide) (by decide), kb 6 (by decide) (by decide), kb 7 (by decide) (by decide)]
    have f4 : (bnL Y2 n2).Perm (uB V 0) := by
      rw [hBb]
      refine f3.trans ?_
      have : bnL Y1 (uB s.2 0).length = bnL X3 (uB s.2 0).length := bn_cg (fun i _ => ag_bn a1 rfl rfl rfl)
      rw [this]
      exact hb.2.filter _
    have hl2 : n2 = (uB V 0).length := by
      rw [← f4.length_eq]
      unfold bnL
      rw [List.length_map, List.length_range]
    rw [← hl2, kb 8 (by decide) (by decide), bn_cg (fun i _ => eb i)]
    exact ⟨r2.1, f4⟩
  · have e9 : ∀ i, cnA Y4 i = cnA Y3 i := fun i => by
      unfold cnA
      rw [kc 9 (by decide) (by decide), kc 10 (by decide) (by decide), kc 11 (by decide) (by decide)]
    have eL : cnL Y4 n3 = cnL Y3 n3 := List.map_congr_left (fun i _ => e9 i)
    exact sN.flt (X := Y2) (Y := Y4) (n' := n3) (v' := V) (p := cnQ w) hN2 (by rw [kc 12 (by decide) (by decide)]; exact z1) (by rw [eL]; exact z2) (fun q hq6 => by
      rw [hR]
      by_cases hz : 8 + q = 8 + w
      · obtain rfl : q = w := by omega
        rw [if_pos rfl]
        refine (List.filter_eq_nil_iff.mpr (fun x hx => ?_)).symm
        rw [show cnQ q (cnM q x) = true from decide_eq_true rfl]
        decide
      · rw [if_neg hz]
        refine (List.filter_eq_self.mpr (fun x hx => ?_)).symm
        rw [show cnQ w (cnM q x) = false from decide_eq_false (fun y => by
          have y : nI q = nI w := y
          have := (nI_eq (by omega) (by omega)).mp y
          omega)]
        rfl)
  · obtain ⟨w1, w2, w3, w4, w5⟩ := g5' c hc
    show Y4 13 c = J (300 + 10 * c) ∧ Y4 14 c = J (302 + 10 * c) ∧ Y4 16 c = J (301 + 10 * c) ∧ Y4 15 c = nI (uD V (18 + c)).length ∧ ∀ j d, (uD V (18 + c))[j]? = some d → ddS Y4 (4 * c + j) d
    rw [hD, en _ (by omega), en _ (by omega), en _ (by omega), ky 13 (by decide) (by omega) (by omega), ky 14 (by decide) (by omega) (by omega), ky 15 (by decide) (by omega) (by omega), ky 16 (by decide) (by omega) (by omega)]
    refine ⟨w1, w2, w3, w4, fun j d hd => ?_⟩
    have := w5 j d hd
    unfold ddS at this ⊢
    rw [ky 17 (by decide) (by omega) (by omega), ky 18 (by decide) (by omega) (by omega), ky 19 (by decide) (by omega) (by omega), ky 20 (by decide) (by omega) (by omega)]
    exact this
  · show Y4 31 0 = nI (flat V).length ∧ (cpL Y4 (flat V).length).Perm (flat V)
    have ec : ∀ i, cpA Y4 i = cpA Y1 i := fun i => cpA_cg (fun k w1 w2 => by rw [kp k w1 (by omega)])
    have f5 : (cpL Y1 n1).Perm (flat V) := by
      rw [hF]
      exact f1.trans (hp.2.filter _)
    have hl1 : n1 = (flat V).length := by rw [← f5.length_eq, cpL_len]
    rw [← hl1, kp 31 (by decide) (by decide), cpL_cg (fun i _ => ec i)]
    exact ⟨r1.1, f5⟩
  · rw [ky 32 (by decide) (by omega) (by omega), g7']
    exact (en 0 (by omega)).symm
  · show Y4 38 0 = nI (uC V 1).length
    rw [hL, ky 38 (by decide) (by omega) (by omega), g8'.1, hv.2.1]
  · have hr : (uC V 1)[j]? = some r := hr
    rw [hL] at hr
    cases hr
  · rw [ky 39 (by decide) (by omega) (by omega), g9']
    show s.1 1 + _ = J 1 + _
    rw [en 1 (by omega)]
  · rw [ky 40 (by decide) (by omega) (by omega), g10']
    exact (en 2 (by omega)).symm
theorem n_drop {gc : Nat → Nat} {m : Nat} {M : Nat → Nat} {d : Nat} {X : XT} {s : St} {P T : Nat} {x : Int32} (h : SX 0 X s) (hv : IV P T s) : WM gc m M (d + 3) 106 [.ref m, .int x] X (fun r X' => r = some (.int (opDr s x).1) ∧ SX 0 X' (opDr s x).2) := by
  by_cases z : isQu s.1 x = true
  · obtain ⟨w, hw, rfl, hd⟩ := isQu_dec z
    have ho : opDr s (nI w) = (nI (fgQ w s).1, (fgQ w s).2) := by
      unfold opDr
      rw [z, if_pos rfl, nI_clamp (by omega)]
    rw [ho]
    exact n_drop0 h hv hw hd
  · have ho : opDr s x = (-1, s) := by
      unfold opDr
      rw [if_neg z]
    rw [ho]
    refine N106 ⟨_, n_isQ h.2.1 hv.1.1, ?_⟩
    rintro r X3 ⟨rfl, rfl⟩
    exact ⟨_, rfl, fun y => absurd (b2i_nz y) z, fun _ => ⟨rfl, h⟩⟩
