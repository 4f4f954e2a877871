/-! the reference's start -/
def rk : Nat → Nat
  | 0 => 0
  | k + 1 => rk k + (if xty k = 0 then 0 else 1)
def pf (n0 k : Nat) : List Value := (List.range 43).map (fun j => if xty j = 0 then .int 0 else if j < k then .ref (n0 + rk j) else .null)
theorem pf_len {n0 k : Nat} : (pf n0 k).length = 43 := by
  unfold pf
  rw [List.length_map, List.length_range]
theorem pf_set {n0 k : Nat} (hk : k < 43) (ht : ¬ xty k = 0) : (pf n0 k).set k (.ref (n0 + rk k)) = pf n0 (k + 1) := by
  apply List.ext_getElem?
  intro j
  rw [List.getElem?_set, pf_len]
  unfold pf
  rw [List.getElem?_map, List.getElem?_map]
  by_cases hj : j < 43
  · rw [List.getElem?_range hj]
    by_cases hz : k = j
    · subst hz
      rw [if_pos rfl, if_pos hj]
      show _ = some (if xty k = 0 then Value.int 0 else if k < k + 1 then Value.ref (n0 + rk k) else Value.null)
      rw [if_neg ht, if_pos (by omega)]
    · rw [if_neg hz]
      show some (if xty j = 0 then Value.int 0 else if j < k then Value.ref (n0 + rk j) else Value.null) = some (if xty j = 0 then Value.int 0 else if j < k + 1 then Value.ref (n0 + rk j) else Value.null)
      by_cases h1 : j < k
      · rw [if_pos h1, if_pos (show j < k + 1 by omega)]
      · rw [if_neg h1, if_neg (show ¬ j < k + 1 by omega)]
  · rw [List.getElem?_eq_none (by rw [List.length_range]; omega), if_neg (by omega)]
    rfl
theorem pf_skip {n0 k : Nat} (ht : xty k = 0) : pf n0 k = pf n0 (k + 1) := by
  unfold pf
  apply List.map_congr_left
  intro j _
  by_cases hz : j = k
  · subst hz
    rw [if_pos ht, if_pos ht]
  · by_cases h1 : j < k
    · rw [if_pos h1, if_pos (show j < k + 1 by omega)]
    · rw [if_neg h1, if_neg (show ¬ j < k + 1 by omega)]
theorem ar_0 {n : Nat} : ar n (fun _ => 0) = List.replicate n (.int 0) := by
  apply List.ext_getElem?
  intro j
  by_cases hj : j < n
  · rw [ar_get' hj, List.getElem?_replicate, if_pos hj]
  · rw [List.getElem?_eq_none (by unfold ar; rw [List.length_map, List.length_range]; omega), List.getElem?_eq_none (by rw [List.length_replicate]; omega)]
def PM (h0 : AH) (a n0 CC SS k : Nat) (h : AH) : Prop := Fr h ∧ h.1 = n0 + rk k ∧ CC ≤ h.2.1 + k ∧ SS ≤ h.2.2.1 + 500 * k ∧ at_ h a 11 (pf n0 k) ∧ (∀ j, j < k → ¬ xty j = 0 → at_ h (n0 + rk j) (xty j) (ar (xsz j) (fun _ => 0))) ∧ KP h0 h (fun x => x = a)
theorem PM.skip {h0 h : AH} {a n0 CC SS k : Nat} (hp : PM h0 a n0 CC SS k h) (ht : xty k = 0) : PM h0 a n0 CC SS (k + 1) h := by
  obtain ⟨p1, p2, p3, p4, p5, p6, p7⟩ := hp
  refine ⟨p1, ?_, by omega, by omega, by rw [← pf_skip ht]; exact p5, fun j hj hz => p6 j ?_ hz, p7⟩
  · rw [p2]
    show _ = n0 + (rk k + (if xty k = 0 then 0 else 1))
    rw [if_pos ht]
    rfl
  · have : j ≠ k := fun z => hz (by rw [z]; exact ht)
    omega
theorem PM.step {h0 h : AH} {a n0 CC SS k t : Nat} {z : Int32} {P : AH → Prop} (hk : k < 43) (hk2 : xty k = t) (ht : t = 104 ∨ t = 105) (hz : ¬ z < 0) (hz2 : z.toNatClampNeg = xsz k) (hz3 : xsz k ≤ 450) (hC : 45 ≤ CC) (hS : 25000 ≤ SS) (hp : PM h0 a n0 CC SS k h) (hP : ∀ h', PM h0 a n0 CC SS (k + 1) h' → P h') : ¬ z < 0 ∧ 1 ≤ h.2.1 ∧ z.toNatClampNeg ≤ h.2.2.1 ∧ z.toNatClampNeg ≤ 100000 ∧ ∀ (b1 : Nat) (h2 : AH), b1 = h.1 → h2 = ah_new h (t, List.replicate z.toNatClampNeg (.int 0)) → (∃ vs3 : List Value, at_ h2 a 11 vs3 ∧ k < vs3.length ∧ True ∧ ∀ h4 : AH, h4 = ah_set h2 a (11, vs3.set k (.ref b1)) → P h4) := by
  obtain ⟨p1, p2, p3, p4, p5, p6, p7⟩ := hp
  have ht0 : ¬ xty k = 0 := by rw [hk2]; omega
  refine ⟨hz, by omega, by omega, by omega, ?_⟩
  rintro b1 h2 rfl e2
  rw [hz2] at e2
  have hal := p1.lt p5 (by decide)
  have a2 : at_ h2 a 11 (pf n0 k) := by rw [e2]; exact at_old p1 p5 (by decide)
  refine ⟨_, a2, by rw [pf_len]; exact hk, trivial, ?_⟩
  rintro h4 e4
  rw [p2, pf_set hk ht0] at e4
  have f2 : Fr h2 := by rw [e2]; exact p1.new
  have t2 : h2.1 = h.1 + 1 ∧ h2.2.1 = h.2.1 - 1 ∧ h2.2.2.1 = h.2.2.1 - xsz k := by
    rw [e2]
    refine ⟨rfl, rfl, ?_⟩
    show h.2.2.1 - (List.replicate (xsz k) (Value.int 0)).length = _
    rw [List.length_replicate]
  have t4 : h4.1 = h2.1 ∧ h4.2.1 = h2.2.1 ∧ h4.2.2.1 = h2.2.2.1 := by rw [e4]; exact ⟨rfl, rfl, rfl⟩
  have rk1 : rk (k + 1) = rk k + 1 := by
    show rk k + (if xty k = 0 then 0 else 1) = _
    rw [if_neg ht0]
  refine hP h4 ⟨by rw [e4]; exact f2.set a2 (by decide), by omega, by omega, by omega, by rw [e4]; exact at_s, fun j hj hj0 => ?_, KP.trans p7 (by rw [e4, e2]; exact KP.trans (KP.new p1) (KP.set rfl))⟩
  by_cases hjk : j = k
  · subst hjk
    rw [e4, e2, hk2, ar_0, ← p2]
    exact at_n at_new (by omega)
  · have w := p6 j (by omega) hj0
    rw [e4, e2]
    refine at_n (at_old p1 w hj0) (at_ne w p5 ?_)
    rcases xty_v j with y | y | y <;> omega
theorem PM.zero {h : AH} {a : Nat} (hf : Fr h) (ha : at_ h a 11 (dfl 11)) : PM h a h.1 h.2.1 h.2.2.1 0 h := ⟨hf, rfl, Nat.le_refl _, Nat.le_refl _, ha, fun j hj => absurd hj (Nat.not_lt_zero _), fun _ _ _ _ _ hb => hb⟩
theorem xty_lt {k : Nat} (h : ¬ xty k = 0) : k < 43 := by
  apply Nat.lt_of_not_le
  intro z
  apply h
  unfold xty
  rw [List.getD_eq_getElem?_getD, List.getElem?_eq_none (by show 43 ≤ k; omega)]
  rfl
theorem rk_inj : ∀ j k : Fin 43, ¬ xty j.1 = 0 → ¬ xty k.1 = 0 → rk j.1 = rk k.1 → j = k := by decide +kernel
def Xe (e c : Nat) : XT := fun k i => if k = 0 ∧ i < e then -1 else if k = 13 ∧ i < c then 12 else 0
theorem Xe_0 : Xe 0 0 = fun _ _ => 0 := by
  funext k i
  unfold Xe
  rw [if_neg (by omega), if_neg (by omega)]
theorem Xe_e {e : Nat} : wr (Xe e 0) 0 e (-1) = Xe (e + 1) 0 := by
  funext k i
  unfold wr Xe
  by_cases h1 : k = 0 ∧ i = e
  · rw [if_pos h1, if_pos (by omega)]
  · rw [if_neg h1]
    by_cases h2 : k = 0 ∧ i < e
    · rw [if_pos h2, if_pos (by omega)]
    · rw [if_neg h2, if_neg (show ¬ (k = 0 ∧ i < e + 1) by omega)]
theorem Xe_c {e c : Nat} : wr (Xe e c) 13 c 12 = Xe e (c + 1) := by
  funext k i
  unfold wr Xe
  by_cases h1 : k = 13 ∧ i = c
  · rw [if_pos h1, if_neg (by omega), if_pos (by omega)]
  · rw [if_neg h1]
    by_cases h2 : k = 0 ∧ i < e
    · rw [if_pos h2, if_pos h2]
    · rw [if_neg h2, if_neg h2]
      by_cases h3 : k = 13 ∧ i < c
      · rw [if_pos h3, if_pos (by omega)]
      · rw [if_neg h3, if_neg (show ¬ (k = 13 ∧ i < c + 1) by omega)]
theorem PM.rm {h0 h : AH} {a n0 CC SS : Nat} (hp : PM h0 a n0 CC SS 43 h) : RM h a (fun k => n0 + rk k) (Xe 0 0) := by
  obtain ⟨p1, p2, p3, p4, p5, p6, p7⟩ := hp
  rw [Xe_0]
  refine ⟨p5, fun k hk => p6 k (xty_lt hk) hk, fun j k hj hk z => ?_⟩
  have := rk_inj ⟨j, xty_lt hj⟩ ⟨k, xty_lt hk⟩ hj hk (by have z : n0 + rk j = n0 + rk k := z; show rk j = rk k; omega)
  exact congrArg Fin.val this
theorem me_loop {gc : Nat → Nat} {d : Nat} {q : PT} {h0 : AH} {a : Nat} {M : Nat → Nat} : ∀ n e (h : AH), e + n = 5 → RM h a M (Xe e 0) → KXm h0 h → (∀ h' x1, RM h' a M (Xe 5 0) → KXm h0 h' → TT gc d 93 q 321 [.ref a, .int x1] [] h') → TT gc d 93 q 303 [.ref a, .int (nI e)] [] h := by
  intro n
  induction n with
  | zero =>
    intro e h he hp hk hq
    obtain rfl : e = 5 := by omega
    exact B93_303 ⟨fun _ => hq h _ hp hk, fun z => absurd (by decide) z⟩
  | succ n ih =>
    intro e h he hp hk hq
    have hcl : (nI e).toNatClampNeg = e := nI_clamp (by omega)
    have h5 : xsz 0 = 5 := rfl
    refine B93_303 ⟨fun z => absurd z (show ¬ (5 : Int32) ≤ nI e from nI_ge (b := 5) (by omega) (by decide)), fun _ => ⟨_, _, hp.1, rfl, _, hp.i (k := 0) rfl, nI_pos (by omega), by rw [hcl]; exact ar_len (k := 0) (by omega), ?_⟩⟩
    rintro h4 e4
    rw [hcl] at e4
    rw [nI_1]
    have := hp.wi (k := 0) rfl e4
    rw [Xe_e] at this
    exact ih (e + 1) h4 (by omega) this (hk.wi (hp.i (k := 0) rfl) e4) hq
theorem mc_loop {gc : Nat → Nat} {d : Nat} {q : PT} {h0 : AH} {a : Nat} {M : Nat → Nat} : ∀ n e (h : AH), e + n = 4 → RM h a M (Xe 5 e) → KXm h0 h → (∀ h', RM h' a M (Xe 5 4) → KXm h0 h' → q none h') → TT gc d 93 q 323 [.ref a, .int (nI e)] [] h := by
  intro n
  induction n with
  | zero =>
    intro e h he hp hk hq
    obtain rfl : e = 4 := by omega
    exact B93_323 ⟨fun _ => B93_342 (hq h hp hk), fun z => absurd (by decide) z⟩
  | succ n ih =>
    intro e h he hp hk hq
    have hcl : (nI e).toNatClampNeg = e := nI_clamp (by omega)
    have h5 : xsz 13 = 4 := rfl
    refine B93_323 ⟨fun z => absurd z (show ¬ (4 : Int32) ≤ nI e from nI_ge (b := 4) (by omega) (by decide)), fun _ => ⟨_, _, hp.1, rfl, _, hp.i (k := 13) rfl, nI_pos (by omega), by rw [hcl]; exact ar_len (k := 13) (by omega), ?_⟩⟩
    rintro h4 e4
    rw [hcl] at e4
    rw [nI_1]
    have := hp.wi (k := 13) rfl e4
    rw [Xe_c] at this
    exact ih (e + 1) h4 (by omega) this (hk.wi (hp.i (k := 13) rfl) e4) hq
/-- the reference's constructor -/
theorem n_ctor {gc : Nat → Nat} {d : Nat} {h : AH} {a : Nat} (hf : Fr h) (ha : at_ h a 11 (dfl 11)) (r1 : 100 ≤ h.2.1) (r2 : 25000 ≤ h.2.2.1) : WP gc (d + 1) 93 [.ref a] h (fun r h' => r = none ∧ RM h' a (fun k => h.1 + rk k) (Xe 5 4) ∧ Fr h' ∧ h.2.1 ≤ h'.2.1 + 43 ∧ h.2.2.1 ≤ h'.2.2.1 + 21500 ∧ ∀ b t vs, t ≠ 0 → t ≠ 11 → t ≠ 104 → t ≠ 105 → at_ h b t vs → at_ h' b t vs) := by
  have p0 := PM.zero hf ha
  refine M93 ?_
  refine PM.step (k := 0) (by decide) rfl (by decide) (by decide) rfl (by decide) (by omega) (by omega) p0 (fun g1 p1 => ?_)
  refine PM.step (k := 1) (by decide) rfl (by decide) (by decide) rfl (by decide) (by omega) (by omega) p1 (fun g2 p2 => ?_)
  refine PM.step (k := 2) (by decide) rfl (by decide) (by decide) rfl (by decide) (by omega) (by omega) p2 (fun g3 p3 => ?_)
  refine PM.step (k := 3) (by decide) rfl (by decide) (by decide) rfl (by decide) (by omega) (by omega) p3 (fun g4 p4 => ?_)
  refine PM.step (k := 4) (by decide) rfl (by decide) (by decide) rfl (by decide) (by omega) (by omega) p4 (fun g5 p5 => ?_)
  refine PM.step (k := 5) (by decide) rfl (by decide) (by decide) rfl (by decide) (by omega) (by omega) p5 (fun g6 p6 => ?_)
  refine PM.step (k := 6) (by decide) rfl (by decide) (by decide) rfl (by decide) (by omega) (by omega) p6 (fun g7 p7 => ?_)
  refine PM.step (k := 7) (by decide) rfl (by decide) (by decide) rfl (by decide) (by omega) (by omega) p7 (fun g8 p8 => ?_)
  have p9 := p8.skip (k := 8) rfl
  refine PM.step (k := 9) (by decide) rfl (by decide) (by decide) rfl (by decide) (by omega) (by omega) p9 (fun g10 p10 => ?_)
  refine PM.step (k := 10) (by decide) rfl (by decide) (by decide) rfl (by decide) (by omega) (by omega) p10 (fun g11 p11 => ?_)
  refine PM.step (k := 11) (by decide) rfl (by decide) (by decide) rfl (by decide) (by omega) (by omega) p11 (fun g12 p12 => ?_)
  have p13 := p12.skip (k := 12) rfl
  refine PM.step (k := 13) (by decide) rfl (by decide) (by decide) rfl (by decide) (by omega) (by omega) p13 (fun g14 p14 => ?_)
  refine PM.step (k := 14) (by decide) rfl (by decide) (by decide) rfl (by decide) (by omega) (by omega) p14 (fun g15 p15 => ?_)
  refine PM.step (k := 15) (by decide) rfl (by decide) (by decide) rfl (by decide) (by omega) (by omega) p15 (fun g16 p16 => ?_)
  refine PM.step (k := 16) (by decide) rfl (by decide) (by decide) rfl (by decide) (by omega) (by omega) p16 (fun g17 p17 => ?_)
  refine PM.step (k := 17) (by decide) rfl (by decide) (by decide) rfl (by decide) (by omega) (by omega) p17 (fun g18 p18 => ?_)
  refine PM.step (k := 18) (by decide) rfl (by decide) (by decide) rfl (by decide) (by omega) (by omega) p18 (fun g19 p19 => ?_)
  refine PM.step (k := 19) (by decide) rfl (by decide) (by decide) rfl (by decide) (by omega) (by omega) p19 (fun g20 p20 => ?_)
  refine PM.step (k := 20) (by decide) rfl (by decide) (by decide) rfl (by decide) (by omega) (by omega) p20 (fun g21 p21 => ?_)
  refine PM.step (k := 21) (by decide) rfl (by decide) (by decide) rfl (by decide) (by omega) (by omega) p21 (fun g22 p22 => ?_)
  refine PM.step (k := 22) (by decide) rfl (by decide) (by decide) rfl (by decide) (by omega) (by omega) p22 (fun g23 p23 => ?_)
  refine PM.step (k := 23) (by decide) rfl (by decide) (by decide) rfl (by decide) (by omega) (by omega) p23 (fun g24 p24 => ?_)
  refine PM.step (k := 24) (by decide) rfl (by decide) (by decide) rfl (by decide) (by omega) (by omega) p24 (fun g25 p25 => ?_)
  refine PM.step (k := 25) (by decide) rfl (by decide) (by decide) rfl (by decide) (by omega) (by omega) p25 (fun g26 p26 => ?_)
  refine PM.step (k := 26) (by decide) rfl (by decide) (by decide) rfl (by decide) (by omega) (by omega) p26 (fun g27 p27 => ?_)
  refine PM.step (k := 27) (by decide) rfl (by decide) (by decide) rfl (by decide) (by omega) (by omega) p27 (fun g28 p28 => ?_)
  refine PM.step (k := 28) (by decide) rfl (by decide) (by decide) rfl (by decide) (by omega) (by omega) p28 (fun g29 p29 => ?_)
  refine PM.step (k := 29) (by decide) rfl (by decide) (by decide) rfl (by decide) (by omega) (by omega) p29 (fun g30 p30 => ?_)
  refine PM.step (k := 30) (by decide) rfl (by decide) (by decide) rfl (by decide) (by omega) (by omega) p30 (fun g31 p31 => ?_)
  have p32 := p31.skip (k := 31) rfl
  have p33 := p32.skip (k := 32) rfl
  refine PM.step (k := 33) (by decide) rfl (by decide) (by decide) rfl (by decide) (by omega) (by omega) p33 (fun g34 p34 => ?_)
  refine PM.step (k := 34) (by decide) rfl (by decide) (by decide) rfl (by decide) (by omega) (by omega) p34 (fun g35 p35 => ?_)
  refine PM.step (k := 35) (by decide) rfl (by decide) (by decide) rfl (by decide) (by omega) (by omega) p35 (fun g36 p36 => ?_)
  refine PM.step (k := 36) (by decide) rfl (by decide) (by decide) rfl (by decide) (by omega) (by omega) p36 (fun g37 p37 => ?_)
  refine PM.step (k := 37) (by decide) rfl (by decide) (by decide) rfl (by decide) (by omega) (by omega) p37 (fun g38 p38 => ?_)
  have p39 := p38.skip (k := 38) rfl
  have p40 := p39.skip (k := 39) rfl
  have p41 := p40.skip (k := 40) rfl
  refine PM.step (k := 41) (by decide) rfl (by decide) (by decide) rfl (by decide) (by omega) (by omega) p41 (fun g42 p42 => ?_)
  refine PM.step (k := 42) (by decide) rfl (by decide) (by decide) rfl (by decide) (by omega) (by omega) p42 (fun g43 p43 => ?_)
  refine me_loop (h0 := g43) 5 0 g43 rfl p43.rm (KXm.refl _) (fun u1 x1 q1 k1 => B93_321 ?_)
  refine mc_loop (h0 := g43) 4 0 u1 rfl q1 k1 (fun u2 q2 k2 => ?_)
  obtain ⟨w1, w2, w3, w4, w5, w6, w7⟩ := p43
  refine ⟨rfl, q2, k2.fr w1, by rw [k2.2.1]; exact w3, by rw [k2.2.2.1]; exact w4, fun b t vs z0 z1 z2 z3 hb => k2.at (w7 b t vs z0 (at_ne hb ha z1) hb) z1 z2 z3⟩
