/-! the class's start -/
def EL (gc : Nat → Nat) (h : AH) (b : Nat) : Prop := ∃ m : Int32, at_ h b 10 [.int m, .ref (gc 1), .int (nI 0)]
/-- all else stays -/
def KP (h h' : AH) (S : Nat → Prop) : Prop := ∀ b t vs, t ≠ 0 → ¬ S b → at_ h b t vs → at_ h' b t vs
theorem KP.trans {h h' h'' : AH} {S : Nat → Prop} (h1 : KP h h' S) (h2 : KP h' h'' S) : KP h h'' S := fun b t vs z w hb => h2 b t vs z w (h1 b t vs z w hb)
theorem KP.set {h : AH} {a : Nat} {e : Nat × List Value} {S : Nat → Prop} (hs : S a) : KP h (ah_set h a e) S := fun b t vs _ w hb => at_n hb (fun z => w (by rw [z]; exact hs))
theorem KP.new {h : AH} {e : Nat × List Value} {S : Nat → Prop} (hf : Fr h) : KP h (ah_new h e) S := fun b t vs z _ hb => at_old hf hb z
theorem KP.chg {h h' : AH} {S : Nat → Prop} (hf : Fr h) (hc : Chg h h' S) : KP h h' S := fun b t vs z w hb => hc.at hf hb z w
theorem KP.mono {h h' : AH} {S T : Nat → Prop} (hk : KP h h' S) (hst : ∀ b, S b → T b) : KP h h' T := fun b t vs z w hb => hk b t vs z (fun y => w (hst b y)) hb
/-- nothing old but a -/
theorem KP.old {h h' : AH} {a : Nat} (hf : Fr h) (hk : KP h h' (fun b => b = a ∨ h.1 ≤ b)) : KP h h' (fun b => b = a) := fun b t vs z w hb => hk b t vs z (fun y => y.elim w (fun y => Nat.not_le.mpr (hf.lt hb z) y)) hb
theorem k_mkE {gc : Nat → Nat} {d : Nat} {h : AH} {b : Nat} (hf : Fr h) (hb : at_ h b 6 (dfl 6)) : WP gc (d + 1) 4 [.ref b] h (fun r h' => r = none ∧ Fr h' ∧ h'.1 = h.1 ∧ h'.2.1 = h.2.1 ∧ h'.2.2.1 = h.2.2.1 ∧ at_ h' b 6 [.int 0, .int 0, .int 0] ∧ KP h h' (fun x => x = b)) := by
  refine M4 ⟨_, hb, Nat.le_of_ble_eq_true rfl, Or.inl rfl, ?_⟩
  rintro h2 rfl
  refine ⟨_, at_s, Nat.le_of_ble_eq_true rfl, trivial, ?_⟩
  rintro h3 rfl
  refine ⟨_, at_s, Nat.le_of_ble_eq_true rfl, Or.inl rfl, ?_⟩
  rintro h4 rfl
  rw [set_set, set_set]
  exact ⟨rfl, hf.set hb (by decide), rfl, rfl, rfl, at_s, KP.set rfl⟩
/-- an empty list is made -/
theorem k_mkL {gc : Nat → Nat} {d : Nat} {h : AH} (hf : Fr h) (h1 : at_ h (gc 1) 201 []) : WP gc (d + 3) 1 [.ref h.1] (ah_new h (10, dfl 10)) (fun r h' => r = none ∧ Fr h' ∧ h'.1 = h.1 + 1 ∧ h'.2.1 = h.2.1 - 1 ∧ h'.2.2.1 = h.2.2.1 - 3 ∧ EL gc h' h.1 ∧ KP h h' (fun x => h.1 ≤ x)) := by
  have hf2 : Fr (ah_new h (10, dfl 10)) := hf.new
  refine WP_post (k_init hf2 at_new (at_old hf h1 (by decide))) ?_
  rintro r h' ⟨rfl, ⟨⟨m, g1⟩, -⟩, g2, g3, g4, g5⟩
  refine ⟨rfl, g2.2.1, g3, g4, g5, ⟨m, g1⟩, fun b t vs z w hb => ?_⟩
  exact g2.at hf2 (at_old hf hb z) z (fun y => w (Nat.le_of_eq y.symm))
theorem k_mkQ {gc : Nat → Nat} {d : Nat} {h : AH} {b : Nat} (hf : Fr h) (h1 : at_ h (gc 1) 201 []) (hb : at_ h b 8 (dfl 8)) (r1 : 2 ≤ h.2.1) (r2 : 6 ≤ h.2.2.1) : WP gc (d + 4) 5 [.ref b] h (fun r h' => r = none ∧ Fr h' ∧ h'.1 = h.1 + 2 ∧ h'.2.1 = h.2.1 - 2 ∧ h'.2.2.1 = h.2.2.1 - 6 ∧ at_ h' b 8 [.int 0, .int 1, .int (-1), .int 0, .ref h.1, .ref (h.1 + 1)] ∧ EL gc h' h.1 ∧ EL gc h' (h.1 + 1) ∧ KP h h' (fun x => x = b ∨ h.1 ≤ x)) := by
  have hlt := hf.lt hb (by decide)
  refine M5 ⟨_, hb, Nat.le_of_ble_eq_true rfl, Or.inl rfl, ?_⟩
  rintro h2 rfl
  refine ⟨_, at_s, Nat.le_of_ble_eq_true rfl, trivial, ?_⟩
  rintro h3 rfl
  refine ⟨_, at_s, Nat.le_of_ble_eq_true rfl, trivial, ?_⟩
  rintro h4 rfl
  refine ⟨_, at_s, Nat.le_of_ble_eq_true rfl, Or.inl rfl, ?_⟩
  rintro h5 rfl
  rw [set_set, set_set, set_set]
  generalize he : ah_set h b _ = g0
  have g0f : Fr g0 := by rw [← he]; exact hf.set hb (by decide)
  have g01 : g0.1 = h.1 ∧ g0.2.1 = h.2.1 ∧ g0.2.2.1 = h.2.2.1 := by rw [← he]; exact ⟨rfl, rfl, rfl⟩
  have g0b : at_ g0 b 8 [.int 0, .int 1, .int (-1), .int 0, .null, .null] := by rw [← he]; exact at_s
  have g0k : KP h g0 (fun x => x = b ∨ h.1 ≤ x) := by rw [← he]; exact KP.set (Or.inl rfl)
  have n1 : gc 1 ≠ b := at_ne h1 hb (by decide)
  have nl1 := hf.lt h1 (by decide)
  have g0z : at_ g0 (gc 1) 201 [] := g0k _ _ _ (by decide) (fun y => y.elim n1 (fun y => absurd nl1 (Nat.not_lt.mpr y))) h1
  refine ⟨by omega, by show 3 ≤ g0.2.2.1; omega, ?_⟩
  rintro b9 h10 rfl rfl
  refine ⟨_, k_mkL g0f g0z, ?_⟩
  rintro r h13 ⟨rfl, k1, k2, k3, k4, k5, k6⟩
  have kb : at_ h13 b 8 [.int 0, .int 1, .int (-1), .int 0, .null, .null] := k6 _ _ _ (by decide) (by omega) g0b
  refine ⟨rfl, _, kb, Nat.le_of_ble_eq_true rfl, trivial, ?_⟩
  rintro h15 e15
  have f15 : Fr h15 := by rw [e15]; exact k1.set kb (by decide)
  have t15 : h15.1 = h13.1 ∧ h15.2.1 = h13.2.1 ∧ h15.2.2.1 = h13.2.2.1 := by rw [e15]; exact ⟨rfl, rfl, rfl⟩
  have kz : at_ h13 (gc 1) 201 [] := k6 _ _ _ (by decide) (by omega) g0z
  have z15 : at_ h15 (gc 1) 201 [] := by rw [e15]; exact at_n kz n1
  refine ⟨by omega, by show 3 ≤ h15.2.2.1; omega, ?_⟩
  rintro b16 h17 rfl rfl
  refine ⟨_, k_mkL f15 z15, ?_⟩
  rintro r h20 ⟨rfl, m1, m2, m3, m4, m5, m6⟩
  have b15 : at_ h15 b 8 [.int 0, .int 1, .int (-1), .int 0, .ref g0.1, .null] := by rw [e15]; exact at_s
  have mb : at_ h20 b 8 [.int 0, .int 1, .int (-1), .int 0, .ref g0.1, .null] := m6 _ _ _ (by decide) (by omega) b15
  refine ⟨rfl, _, mb, Nat.le_of_ble_eq_true rfl, trivial, ?_⟩
  rintro h22 e22
  obtain ⟨m0, k5⟩ := k5
  obtain ⟨m9, m5⟩ := m5
  have n9 : g0.1 ≠ b := by omega
  have n16 : h15.1 ≠ b := by omega
  refine ⟨rfl, by rw [e22]; exact m1.set mb (by decide), ?_, ?_, ?_, ?_, ⟨m0, ?_⟩, ⟨m9, ?_⟩, ?_⟩
  · rw [e22]; show h20.1 = _; omega
  · rw [e22]; show h20.2.1 = _; omega
  · rw [e22]; show h20.2.2.1 = _; omega
  · rw [e22]
    have : at_ (ah_set h20 b (8, [.int 0, .int 1, .int (-1), .int 0, .ref g0.1, .ref h15.1])) b 8 [.int 0, .int 1, .int (-1), .int 0, .ref g0.1, .ref h15.1] := at_s
    rw [show h15.1 = h.1 + 1 by omega, g01.1] at this
    rw [show h15.1 = h.1 + 1 by omega, g01.1]
    exact this
  · rw [← g01.1, e22]
    refine at_n (m6 _ _ _ (by decide) (by omega) ?_) n9
    rw [e15]
    exact at_n k5 n9
  · rw [show h.1 + 1 = h15.1 by omega, e22]
    exact at_n m5 n16
  · refine KP.trans g0k (KP.trans (k6.mono (fun x hx => Or.inr (by omega))) (KP.trans (h' := h15) ?_ (KP.trans (m6.mono (fun x hx => Or.inr (by omega))) ?_)))
    · rw [e15]; exact KP.set (Or.inl rfl)
    · rw [e22]; exact KP.set (Or.inl rfl)
theorem k_mkC {gc : Nat → Nat} {d : Nat} {h : AH} {b : Nat} (hf : Fr h) (h1 : at_ h (gc 1) 201 []) (hb : at_ h b 2 (dfl 2)) (r1 : 2 ≤ h.2.1) (r2 : 6 ≤ h.2.2.1) : WP gc (d + 4) 6 [.ref b] h (fun r h' => r = none ∧ Fr h' ∧ h'.1 = h.1 + 2 ∧ h'.2.1 = h.2.1 - 2 ∧ h'.2.2.1 = h.2.2.1 - 6 ∧ at_ h' b 2 [.int 12, .int 0, .int 0, .ref h.1, .ref (h.1 + 1)] ∧ EL gc h' h.1 ∧ EL gc h' (h.1 + 1) ∧ KP h h' (fun x => x = b ∨ h.1 ≤ x)) := by
  have hlt := hf.lt hb (by decide)
  refine M6 ⟨_, hb, Nat.le_of_ble_eq_true rfl, trivial, ?_⟩
  rintro h2 rfl
  refine ⟨_, at_s, Nat.le_of_ble_eq_true rfl, Or.inl rfl, ?_⟩
  rintro h3 rfl
  refine ⟨_, at_s, Nat.le_of_ble_eq_true rfl, trivial, ?_⟩
  rintro h4 rfl
  rw [set_set, set_set]
  generalize he : ah_set h b _ = g0
  have g0f : Fr g0 := by rw [← he]; exact hf.set hb (by decide)
  have g01 : g0.1 = h.1 ∧ g0.2.1 = h.2.1 ∧ g0.2.2.1 = h.2.2.1 := by rw [← he]; exact ⟨rfl, rfl, rfl⟩
  have g0b : at_ g0 b 2 [.int 12, .int 0, .int 0, .null, .null] := by rw [← he]; exact at_s
  have g0k : KP h g0 (fun x => x = b ∨ h.1 ≤ x) := by rw [← he]; exact KP.set (Or.inl rfl)
  have n1 : gc 1 ≠ b := at_ne h1 hb (by decide)
  have nl1 := hf.lt h1 (by decide)
  have g0z : at_ g0 (gc 1) 201 [] := g0k _ _ _ (by decide) (fun y => y.elim n1 (fun y => absurd nl1 (Nat.not_lt.mpr y))) h1
  refine ⟨by omega, by show 3 ≤ g0.2.2.1; omega, ?_⟩
  rintro b9 h10 rfl rfl
  refine ⟨_, k_mkL g0f g0z, ?_⟩
  rintro r h13 ⟨rfl, k1, k2, k3, k4, k5, k6⟩
  have kb : at_ h13 b 2 [.int 12, .int 0, .int 0, .null, .null] := k6 _ _ _ (by decide) (by omega) g0b
  refine ⟨rfl, _, kb, Nat.le_of_ble_eq_true rfl, trivial, ?_⟩
  rintro h15 e15
  have f15 : Fr h15 := by rw [e15]; exact k1.set kb (by decide)
  have t15 : h15.1 = h13.1 ∧ h15.2.1 = h13.2.1 ∧ h15.2.2.1 = h13.2.2.1 := by rw [e15]; exact ⟨rfl, rfl, rfl⟩
  have kz : at_ h13 (gc 1) 201 [] := k6 _ _ _ (by decide) (by omega) g0z
  have z15 : at_ h15 (gc 1) 201 [] := by rw [e15]; exact at_n kz n1
  refine ⟨by omega, by show 3 ≤ h15.2.2.1; omega, ?_⟩
  rintro b16 h17 rfl rfl
  refine ⟨_, k_mkL f15 z15, ?_⟩
  rintro r h20 ⟨rfl, m1, m2, m3, m4, m5, m6⟩
  have b15 : at_ h15 b 2 [.int 12, .int 0, .int 0, .ref g0.1, .null] := by rw [e15]; exact at_s
  have mb : at_ h20 b 2 [.int 12, .int 0, .int 0, .ref g0.1, .null] := m6 _ _ _ (by decide) (by omega) b15
  refine ⟨rfl, _, mb, Nat.le_of_ble_eq_true rfl, trivial, ?_⟩
  rintro h22 e22
  obtain ⟨m0, k5⟩ := k5
  obtain ⟨m9, m5⟩ := m5
  have n9 : g0.1 ≠ b := by omega
  have n16 : h15.1 ≠ b := by omega
  refine ⟨rfl, by rw [e22]; exact m1.set mb (by decide), ?_, ?_, ?_, ?_, ⟨m0, ?_⟩, ⟨m9, ?_⟩, ?_⟩
  · rw [e22]; show h20.1 = _; omega
  · rw [e22]; show h20.2.1 = _; omega
  · rw [e22]; show h20.2.2.1 = _; omega
  · rw [e22]
    have : at_ (ah_set h20 b (2, [.int 12, .int 0, .int 0, .ref g0.1, .ref h15.1])) b 2 [.int 12, .int 0, .int 0, .ref g0.1, .ref h15.1] := at_s
    rw [show h15.1 = h.1 + 1 by omega, g01.1] at this
    rw [show h15.1 = h.1 + 1 by omega, g01.1]
    exact this
  · rw [← g01.1, e22]
    refine at_n (m6 _ _ _ (by decide) (by omega) ?_) n9
    rw [e15]
    exact at_n k5 n9
  · rw [show h.1 + 1 = h15.1 by omega, e22]
    exact at_n m5 n16
  · refine KP.trans g0k (KP.trans (k6.mono (fun x hx => Or.inr (by omega))) (KP.trans (h' := h15) ?_ (KP.trans (m6.mono (fun x hx => Or.inr (by omega))) ?_)))
    · rw [e15]; exact KP.set (Or.inl rfl)
    · rw [e22]; exact KP.set (Or.inl rfl)
