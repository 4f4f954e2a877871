/-! the class's start: the three rows of objects -/
def plN (n k : Nat) (f : Nat → Nat) : List Value := (List.range n).map (fun i => if i < k then .ref (f i) else .null)
theorem plN_0 {n : Nat} {f : Nat → Nat} : plN n 0 f = List.replicate n .null := by
  apply List.ext_getElem?
  intro j
  unfold plN
  rw [List.getElem?_map, List.getElem?_replicate]
  by_cases hj : j < n
  · rw [List.getElem?_range hj, if_pos hj]
    rfl
  · rw [List.getElem?_eq_none (by rw [List.length_range]; omega), if_neg hj]
    rfl
theorem plN_len {n k : Nat} {f : Nat → Nat} : (plN n k f).length = n := by
  unfold plN
  rw [List.length_map, List.length_range]
theorem plN_set {n k : Nat} {f : Nat → Nat} (hk : k < n) : (plN n k f).set k (.ref (f k)) = plN n (k + 1) f := by
  apply List.ext_getElem?
  intro j
  rw [List.getElem?_set, plN_len]
  unfold plN
  rw [List.getElem?_map, List.getElem?_map]
  by_cases hj : j < n
  · rw [List.getElem?_range hj]
    by_cases hz : k = j
    · subst hz
      rw [if_pos rfl, if_pos hj]
      show _ = some (if k < k + 1 then Value.ref (f k) else Value.null)
      rw [if_pos (by omega)]
    · rw [if_neg hz]
      show some (if j < k then Value.ref (f j) else Value.null) = some (if j < k + 1 then Value.ref (f j) else Value.null)
      by_cases h1 : j < k
      · rw [if_pos h1, if_pos (by omega)]
      · rw [if_neg h1, if_neg (by omega)]
  · rw [List.getElem?_eq_none (by rw [List.length_range]; omega), if_neg (by omega)]
    rfl
def PB (gc : Nat → Nat) (h0 : AH) (a n0 CC SS e q c : Nat) (h : AH) : Prop := Fr h ∧ h.1 = n0 + 5 + e + 3 * q + 3 * c ∧ CC ≤ h.2.1 + (5 + e + 3 * q + 3 * c) ∧ SS ≤ h.2.2.1 + (21 + 3 * e + 12 * q + 11 * c) ∧ at_ h (gc 1) 201 [] ∧ at_ h a 9 [.ref n0, .ref (n0 + 1), .ref (n0 + 2), .ref (n0 + 3), .ref (n0 + 4), .int 0, .int 0, .int 0] ∧ at_ h n0 100 (plN 5 e (fun i => n0 + 5 + i)) ∧ at_ h (n0 + 1) 101 (plN 6 q (fun i => n0 + 10 + 3 * i)) ∧ at_ h (n0 + 2) 102 (plN 4 c (fun i => n0 + 28 + 3 * i)) ∧ EL gc h (n0 + 3) ∧ EL gc h (n0 + 4) ∧ (∀ i, i < e → at_ h (n0 + 5 + i) 6 [.int 0, .int 0, .int 0]) ∧ (∀ i, i < q → at_ h (n0 + 10 + 3 * i) 8 [.int 0, .int 1, .int (-1), .int 0, .ref (n0 + 11 + 3 * i), .ref (n0 + 12 + 3 * i)] ∧ EL gc h (n0 + 11 + 3 * i) ∧ EL gc h (n0 + 12 + 3 * i)) ∧ (∀ i, i < c → at_ h (n0 + 28 + 3 * i) 2 [.int 12, .int 0, .int 0, .ref (n0 + 29 + 3 * i), .ref (n0 + 30 + 3 * i)] ∧ EL gc h (n0 + 29 + 3 * i) ∧ EL gc h (n0 + 30 + 3 * i)) ∧ KC h0 h
/-- what neither is the row nor new stays -/
theorem KP.tag {h h' : AH} {arr tA : Nat} {ws : List Value} (hf : Fr h) (hk : KP h h' (fun x => x = arr ∨ h.1 ≤ x)) (ha : at_ h arr tA ws) {b t : Nat} {vs : List Value} (hb : at_ h b t vs) (ht : t ≠ 0) (hn : t ≠ tA) : at_ h' b t vs := hk b t vs ht (fun y => y.elim (fun y => at_ne hb ha hn y) (fun y => absurd (hf.lt hb ht) (Nat.not_lt.mpr y))) hb
theorem EL.tag {gc : Nat → Nat} {h h' : AH} {arr tA : Nat} {ws : List Value} (hf : Fr h) (hk : KP h h' (fun x => x = arr ∨ h.1 ≤ x)) (ha : at_ h arr tA ws) {b : Nat} (hb : EL gc h b) (hn : 10 ≠ tA) : EL gc h' b := by
  obtain ⟨m, hb⟩ := hb
  exact ⟨m, hk.tag hf ha hb (by decide) hn⟩
theorem be_loop {gc : Nat → Nat} {d : Nat} {q : PT} {h0 : AH} {a n0 CC SS : Nat} (hC : 45 ≤ CC) (hS : 200 ≤ SS) : ∀ n e (h : AH), e + n = 5 → PB gc h0 a n0 CC SS e 0 0 h → (∀ h' x1, PB gc h0 a n0 CC SS 5 0 0 h' → TT gc (d + 1) 0 q 92 [.ref a, .int x1] [] h') → TT gc (d + 1) 0 q 68 [.ref a, .int (nI e)] [] h := by
  intro n
  induction n with
  | zero =>
    intro e h he hp hq
    obtain rfl : e = 5 := by omega
    exact B0_68 ⟨fun _ => hq h _ hp, fun z => absurd (by decide) z⟩
  | succ n ih =>
    intro e h he hp hq
    obtain ⟨p1, p2, p3, p4, p5, p6, p7, p8, p9, p10, p11, p12, p13, p14, p15⟩ := hp
    refine B0_68 ⟨fun z => absurd z (show ¬ (5 : Int32) ≤ nI e from nI_ge (b := 5) (by omega) (by decide)), fun _ => ⟨_, _, p6, rfl, by omega, by show 3 ≤ h.2.2.1; omega, ?_⟩⟩
    rintro b3 h4 rfl rfl
    have f4 : Fr (ah_new h (6, dfl 6)) := p1.new
    refine ⟨_, k_mkE f4 at_new, ?_⟩
    rintro r h7 ⟨rfl, k1, k2, k3, k4, k5, k6⟩
    have kk : KP h h7 (fun x => x = n0 ∨ h.1 ≤ x) := KP.trans (KP.new p1) (k6.mono (fun x hx => Or.inr (by rw [hx]; exact Nat.le_refl _)))
    have a7 : at_ h7 n0 100 (plN 5 e (fun i => n0 + 5 + i)) := k6 _ _ _ (by decide) (fun y => by have := p1.lt p7 (by decide); omega) (at_old p1 p7 (by decide))
    have hcl : (nI e).toNatClampNeg = e := nI_clamp (by omega)
    refine ⟨rfl, 100, 6, _, _, a7, k5, rfl, nI_pos (by omega), by rw [hcl, plN_len]; omega, ?_⟩
    rintro h10 e10
    rw [hcl, show (Value.ref h.1) = .ref ((fun i => n0 + 5 + i) e) by rw [p2]; rfl, plN_set (by omega)] at e10
    have kk2 : KP h h10 (fun x => x = n0 ∨ h.1 ≤ x) := KP.trans kk (by rw [e10]; exact KP.set (Or.inl rfl))
    have f10 : Fr h10 := by rw [e10]; exact k1.set a7 (by decide)
    have t10 : h10.1 = h.1 + 1 ∧ h10.2.1 = h.2.1 - 1 ∧ h10.2.2.1 = h.2.2.1 - 3 := by rw [e10]; exact ⟨k2, k3, k4⟩
    rw [nI_1]
    refine ih (e + 1) h10 (by omega) ⟨f10, by omega, by omega, by omega, kk2.tag p1 p7 p5 (by decide) (by decide), kk2.tag p1 p7 p6 (by decide) (by decide), by rw [e10]; exact at_s, kk2.tag p1 p7 p8 (by decide) (by decide), kk2.tag p1 p7 p9 (by decide) (by decide), EL.tag p1 kk2 p7 p10 (by decide), EL.tag p1 kk2 p7 p11 (by decide), fun i hi => ?_, fun i hi => absurd hi (Nat.not_lt_zero _), fun i hi => absurd hi (Nat.not_lt_zero _), p15.trans (fun b t vs z hb => kk2.tag p1 p7 hb (by omega) (by omega))⟩ hq
    by_cases hz : i = e
    · subst hz
      have : at_ h10 h.1 6 [.int 0, .int 0, .int 0] := by
        rw [e10]
        exact at_n k5 (by have := p1.lt p7 (by decide); omega)
      rw [show n0 + 5 + i = h.1 by omega]
      exact this
    · exact kk2.tag p1 p7 (p12 i (by omega)) (by decide) (by decide)
theorem bq_loop {gc : Nat → Nat} {d : Nat} {q : PT} {h0 : AH} {a n0 CC SS : Nat} (hC : 45 ≤ CC) (hS : 200 ≤ SS) : ∀ n e (h : AH), e + n = 6 → PB gc h0 a n0 CC SS 5 e 0 h → (∀ h' x1, PB gc h0 a n0 CC SS 5 6 0 h' → TT gc (d + 4) 0 q 119 [.ref a, .int x1] [] h') → TT gc (d + 4) 0 q 94 [.ref a, .int (nI e)] [] h := by
  intro n
  induction n with
  | zero =>
    intro e h he hp hq
    obtain rfl : e = 6 := by omega
    exact B0_94 ⟨fun _ => hq h _ hp, fun z => absurd (by decide) z⟩
  | succ n ih =>
    intro e h he hp hq
    obtain ⟨p1, p2, p3, p4, p5, p6, p7, p8, p9, p10, p11, p12, p13, p14, p15⟩ := hp
    refine B0_94 ⟨fun z => absurd z (show ¬ (6 : Int32) ≤ nI e from nI_ge (b := 6) (by omega) (by decide)), fun _ => ⟨_, _, p6, rfl, by omega, by show 6 ≤ h.2.2.1; omega, ?_⟩⟩
    rintro b3 h4 rfl rfl
    have f4 : Fr (ah_new h (8, dfl 8)) := p1.new
    have z4 : at_ (ah_new h (8, dfl 8)) (gc 1) 201 [] := at_old p1 p5 (by decide)
    refine ⟨_, k_mkQ f4 z4 at_new (by show 2 ≤ h.2.1 - 1; omega) (by show 6 ≤ h.2.2.1 - 6; omega), ?_⟩
    rintro r h7 ⟨rfl, k1, k2, k3, k4, k5, k6, k7, k8⟩
    have k2 : h7.1 = h.1 + 1 + 2 := k2
    have k3 : h7.2.1 = h.2.1 - 1 - 2 := k3
    have k4 : h7.2.2.1 = h.2.2.1 - 6 - 6 := k4
    have kk : KP h h7 (fun x => x = n0 + 1 ∨ h.1 ≤ x) := KP.trans (KP.new p1) (k8.mono (fun x hx => Or.inr (hx.elim (fun y => by omega) (fun y => by have y : h.1 + 1 ≤ x := y; omega))))
    have hl8 := p1.lt p8 (by decide)
    have a7 : at_ h7 (n0 + 1) 101 (plN 6 e (fun i => n0 + 10 + 3 * i)) := k8 _ _ _ (by decide) (fun y => y.elim (fun y => by omega) (fun y => by have y : h.1 + 1 ≤ n0 + 1 := y; omega)) (at_old p1 p8 (by decide))
    have hcl : (nI e).toNatClampNeg = e := nI_clamp (by omega)
    refine ⟨rfl, 101, 8, _, _, a7, k5, rfl, nI_pos (by omega), by rw [hcl, plN_len]; omega, ?_⟩
    rintro h10 e10
    rw [hcl, show (Value.ref h.1) = .ref ((fun i => n0 + 10 + 3 * i) e) by rw [p2]; rfl, plN_set (by omega)] at e10
    have kk2 : KP h h10 (fun x => x = n0 + 1 ∨ h.1 ≤ x) := KP.trans kk (by rw [e10]; exact KP.set (Or.inl rfl))
    have f10 : Fr h10 := by rw [e10]; exact k1.set a7 (by decide)
    have t10 : h10.1 = h.1 + 3 ∧ h10.2.1 = h.2.1 - 3 ∧ h10.2.2.1 = h.2.2.1 - 12 := by rw [e10]; exact ⟨k2, by show h7.2.1 = _; omega, by show h7.2.2.1 = _; omega⟩
    rw [nI_1]
    refine ih (e + 1) h10 (by omega) ⟨f10, by omega, by omega, by omega, kk2.tag p1 p8 p5 (by decide) (by decide), kk2.tag p1 p8 p6 (by decide) (by decide), kk2.tag p1 p8 p7 (by decide) (by decide), by rw [e10]; exact at_s, kk2.tag p1 p8 p9 (by decide) (by decide), EL.tag p1 kk2 p8 p10 (by decide), EL.tag p1 kk2 p8 p11 (by decide), fun i hi => kk2.tag p1 p8 (p12 i hi) (by decide) (by decide), fun i hi => ?_, fun i hi => absurd hi (Nat.not_lt_zero _), p15.trans (fun b t vs z hb => kk2.tag p1 p8 hb (by omega) (by omega))⟩ hq
    by_cases hz : i = e
    · subst hz
      obtain ⟨m6, k6⟩ := k6
      obtain ⟨m7, k7⟩ := k7
      have k6 : at_ h7 (h.1 + 1) 10 [.int m6, .ref (gc 1), .int (nI 0)] := k6
      have k7 : at_ h7 (h.1 + 1 + 1) 10 [.int m7, .ref (gc 1), .int (nI 0)] := k7
      have k5 : at_ h7 h.1 8 [.int 0, .int 1, .int (-1), .int 0, .ref (h.1 + 1), .ref (h.1 + 1 + 1)] := k5
      rw [show n0 + 10 + 3 * i = h.1 by omega, show n0 + 11 + 3 * i = h.1 + 1 by omega, show n0 + 12 + 3 * i = h.1 + 1 + 1 by omega, e10]
      exact ⟨at_n k5 (by omega), ⟨m6, at_n k6 (by omega)⟩, ⟨m7, at_n k7 (by omega)⟩⟩
    · obtain ⟨w1, w2, w3⟩ := p13 i (by omega)
      exact ⟨kk2.tag p1 p8 w1 (by decide) (by decide), EL.tag p1 kk2 p8 w2 (by decide), EL.tag p1 kk2 p8 w3 (by decide)⟩
theorem bc2_loop {gc : Nat → Nat} {d : Nat} {q : PT} {h0 : AH} {a n0 CC SS : Nat} (hC : 45 ≤ CC) (hS : 200 ≤ SS) : ∀ n e (h : AH), e + n = 4 → PB gc h0 a n0 CC SS 5 6 e h → (∀ h', PB gc h0 a n0 CC SS 5 6 4 h' → q none h') → TT gc (d + 4) 0 q 121 [.ref a, .int (nI e)] [] h := by
  intro n
  induction n with
  | zero =>
    intro e h he hp hq
    obtain rfl : e = 4 := by omega
    exact B0_121 ⟨fun _ => B0_145 (hq h hp), fun z => absurd (by decide) z⟩
  | succ n ih =>
    intro e h he hp hq
    obtain ⟨p1, p2, p3, p4, p5, p6, p7, p8, p9, p10, p11, p12, p13, p14, p15⟩ := hp
    refine B0_121 ⟨fun z => absurd z (show ¬ (4 : Int32) ≤ nI e from nI_ge (b := 4) (by omega) (by decide)), fun _ => ⟨_, _, p6, rfl, by omega, by show 5 ≤ h.2.2.1; omega, ?_⟩⟩
    rintro b3 h4 rfl rfl
    have f4 : Fr (ah_new h (2, dfl 2)) := p1.new
    have z4 : at_ (ah_new h (2, dfl 2)) (gc 1) 201 [] := at_old p1 p5 (by decide)
    refine ⟨_, k_mkC f4 z4 at_new (by show 2 ≤ h.2.1 - 1; omega) (by show 6 ≤ h.2.2.1 - 5; omega), ?_⟩
    rintro r h7 ⟨rfl, k1, k2, k3, k4, k5, k6, k7, k8⟩
    have k2 : h7.1 = h.1 + 1 + 2 := k2
    have k3 : h7.2.1 = h.2.1 - 1 - 2 := k3
    have k4 : h7.2.2.1 = h.2.2.1 - 5 - 6 := k4
    have kk : KP h h7 (fun x => x = n0 + 2 ∨ h.1 ≤ x) := KP.trans (KP.new p1) (k8.mono (fun x hx => Or.inr (hx.elim (fun y => by omega) (fun y => by have y : h.1 + 1 ≤ x := y; omega))))
    have hl8 := p1.lt p9 (by decide)
    have a7 : at_ h7 (n0 + 2) 102 (plN 4 e (fun i => n0 + 28 + 3 * i)) := k8 _ _ _ (by decide) (fun y => y.elim (fun y => by omega) (fun y => by have y : h.1 + 1 ≤ n0 + 2 := y; omega)) (at_old p1 p9 (by decide))
    have hcl : (nI e).toNatClampNeg = e := nI_clamp (by omega)
    refine ⟨rfl, 102, 2, _, _, a7, k5, rfl, nI_pos (by omega), by rw [hcl, plN_len]; omega, ?_⟩
    rintro h10 e10
    rw [hcl, show (Value.ref h.1) = .ref ((fun i => n0 + 28 + 3 * i) e) by rw [p2, show n0 + 5 + 5 + 3 * 6 + 3 * e = n0 + 28 + 3 * e by omega], plN_set (by omega)] at e10
    have kk2 : KP h h10 (fun x => x = n0 + 2 ∨ h.1 ≤ x) := KP.trans kk (by rw [e10]; exact KP.set (Or.inl rfl))
    have f10 : Fr h10 := by rw [e10]; exact k1.set a7 (by decide)
    have t10 : h10.1 = h.1 + 3 ∧ h10.2.1 = h.2.1 - 3 ∧ h10.2.2.1 = h.2.2.1 - 11 := by rw [e10]; exact ⟨k2, by show h7.2.1 = _; omega, by show h7.2.2.1 = _; omega⟩
    rw [nI_1]
    refine ih (e + 1) h10 (by omega) ⟨f10, by omega, by omega, by omega, kk2.tag p1 p9 p5 (by decide) (by decide), kk2.tag p1 p9 p6 (by decide) (by decide), kk2.tag p1 p9 p7 (by decide) (by decide), kk2.tag p1 p9 p8 (by decide) (by decide), by rw [e10]; exact at_s, EL.tag p1 kk2 p9 p10 (by decide), EL.tag p1 kk2 p9 p11 (by decide), fun i hi => kk2.tag p1 p9 (p12 i hi) (by decide) (by decide), fun i hi => ?_, fun i hi => ?_, p15.trans (fun b t vs z hb => kk2.tag p1 p9 hb (by omega) (by omega))⟩ hq
    · obtain ⟨w1, w2, w3⟩ := p13 i (by omega)
      exact ⟨kk2.tag p1 p9 w1 (by decide) (by decide), EL.tag p1 kk2 p9 w2 (by decide), EL.tag p1 kk2 p9 w3 (by decide)⟩
    · by_cases hz : i = e
      · subst hz
        obtain ⟨m6, k6⟩ := k6
        obtain ⟨m7, k7⟩ := k7
        have k6 : at_ h7 (h.1 + 1) 10 [.int m6, .ref (gc 1), .int (nI 0)] := k6
        have k7 : at_ h7 (h.1 + 1 + 1) 10 [.int m7, .ref (gc 1), .int (nI 0)] := k7
        have k5 : at_ h7 h.1 2 [.int 12, .int 0, .int 0, .ref (h.1 + 1), .ref (h.1 + 1 + 1)] := k5
        rw [show n0 + 28 + 3 * i = h.1 by omega, show n0 + 29 + 3 * i = h.1 + 1 by omega, show n0 + 30 + 3 * i = h.1 + 1 + 1 by omega, e10]
        exact ⟨at_n k5 (by omega), ⟨m6, at_n k6 (by omega)⟩, ⟨m7, at_n k7 (by omega)⟩⟩
      · obtain ⟨w1, w2, w3⟩ := p14 i (by omega)
        exact ⟨kk2.tag p1 p9 w1 (by decide) (by decide), EL.tag p1 kk2 p9 w2 (by decide), EL.tag p1 kk2 p9 w3 (by decide)⟩
