/-! the class's start, whole -/
def I0 (k : Nat) : Int32 := if 200 ≤ k ∧ k < 260 ∧ k % 10 = 1 then 1 else if 200 ≤ k ∧ k < 260 ∧ k % 10 = 2 then -1 else if 300 ≤ k ∧ k < 340 ∧ k % 10 = 0 then 12 else 0
def v0 : Mu := (fun _ => [], fun _ => [], fun _ => [], fun _ => [])
def A0 (a n : Nat) (k : Nat) : Nat := if k = 0 then a else if k < 10 then n + (k - 1) else if k < 20 then n + 5 + (k - 10) else if k < 30 then n + 10 + 3 * (k - 20) else if k < 40 then n + 28 + 3 * (k - 30) else if k < 42 then n + 3 + (k - 40) else if k < 48 then n + 11 + 3 * (k - 42) else if k < 54 then n + 12 + 3 * (k - 48) else if k < 58 then n + 29 + 3 * (k - 54) else n + 30 + 3 * (k - 58)
theorem A0_e {a n e : Nat} (h : e < 5) : A0 a n (10 + e) = n + 5 + e := by
  unfold A0
  rw [if_neg (by omega), if_neg (by omega), if_pos (by omega)]
  omega
theorem A0_q {a n e : Nat} (h : e < 6) : A0 a n (20 + e) = n + 10 + 3 * e := by
  unfold A0
  rw [if_neg (by omega), if_neg (by omega), if_neg (by omega), if_pos (by omega)]
  omega
theorem A0_c {a n e : Nat} (h : e < 4) : A0 a n (30 + e) = n + 28 + 3 * e := by
  unfold A0
  rw [if_neg (by omega), if_neg (by omega), if_neg (by omega), if_neg (by omega), if_pos (by omega)]
  omega
theorem A0_w {a n e : Nat} (h : e < 6) : A0 a n (42 + e) = n + 11 + 3 * e := by
  unfold A0
  rw [if_neg (by omega), if_neg (by omega), if_neg (by omega), if_neg (by omega), if_neg (by omega), if_neg (by omega), if_pos (by omega)]
  omega
theorem A0_r {a n e : Nat} (h : e < 6) : A0 a n (48 + e) = n + 12 + 3 * e := by
  unfold A0
  rw [if_neg (by omega), if_neg (by omega), if_neg (by omega), if_neg (by omega), if_neg (by omega), if_neg (by omega), if_neg (by omega), if_pos (by omega)]
  omega
theorem A0_h {a n e : Nat} (h : e < 4) : A0 a n (54 + e) = n + 29 + 3 * e := by
  unfold A0
  rw [if_neg (by omega), if_neg (by omega), if_neg (by omega), if_neg (by omega), if_neg (by omega), if_neg (by omega), if_neg (by omega), if_neg (by omega), if_pos (by omega)]
  omega
theorem A0_d {a n e : Nat} (h : e < 4) : A0 a n (58 + e) = n + 30 + 3 * e := by
  unfold A0
  rw [if_neg (by omega), if_neg (by omega), if_neg (by omega), if_neg (by omega), if_neg (by omega), if_neg (by omega), if_neg (by omega), if_neg (by omega), if_neg (by omega)]
  omega
theorem A0_l {a n i : Nat} (h : i < 22) : (i < 2 ∧ A0 a n (40 + i) = n + 3 + i) ∨ (∃ q, q < 6 ∧ i = 2 + q ∧ A0 a n (40 + i) = n + 11 + 3 * q) ∨ (∃ q, q < 6 ∧ i = 8 + q ∧ A0 a n (40 + i) = n + 12 + 3 * q) ∨ (∃ c, c < 4 ∧ i = 14 + c ∧ A0 a n (40 + i) = n + 29 + 3 * c) ∨ (∃ c, c < 4 ∧ i = 18 + c ∧ A0 a n (40 + i) = n + 30 + 3 * c) := by
  by_cases h1 : i < 2
  · refine Or.inl ⟨h1, ?_⟩
    unfold A0
    rw [if_neg (by omega), if_neg (by omega), if_neg (by omega), if_neg (by omega), if_neg (by omega), if_pos (by omega)]
    omega
  by_cases h2 : i < 8
  · obtain ⟨q, rfl⟩ : ∃ q, i = 2 + q := ⟨i - 2, by omega⟩
    refine Or.inr (Or.inl ⟨q, by omega, rfl, ?_⟩)
    rw [show 40 + (2 + q) = 42 + q by omega]
    exact A0_w (by omega)
  by_cases h3 : i < 14
  · obtain ⟨q, rfl⟩ : ∃ q, i = 8 + q := ⟨i - 8, by omega⟩
    refine Or.inr (Or.inr (Or.inl ⟨q, by omega, rfl, ?_⟩))
    rw [show 40 + (8 + q) = 48 + q by omega]
    exact A0_r (by omega)
  by_cases h4 : i < 18
  · obtain ⟨q, rfl⟩ : ∃ q, i = 14 + q := ⟨i - 14, by omega⟩
    refine Or.inr (Or.inr (Or.inr (Or.inl ⟨q, by omega, rfl, ?_⟩)))
    rw [show 40 + (14 + q) = 54 + q by omega]
    exact A0_h (by omega)
  · obtain ⟨q, rfl⟩ : ∃ q, i = 18 + q := ⟨i - 18, by omega⟩
    refine Or.inr (Or.inr (Or.inr (Or.inr ⟨q, by omega, rfl, ?_⟩)))
    rw [show 40 + (18 + q) = 58 + q by omega]
    exact A0_d (by omega)
theorem A0_ok {a n : Nat} : AOK (A0 a n) := by
  refine ⟨fun i j hi hj z => ?_, fun i j hi hj z => ?_, fun i j hi hj z => ?_, fun i j hi hj z => ?_⟩
  · rw [A0_e hi, A0_e hj] at z; omega
  · rw [A0_q hi, A0_q hj] at z; omega
  · rw [A0_c hi, A0_c hj] at z; omega
  · rcases A0_l (a := a) (n := n) hi with ⟨x1, x2⟩ | ⟨x, x1, x3, x2⟩ | ⟨x, x1, x3, x2⟩ | ⟨x, x1, x3, x2⟩ | ⟨x, x1, x3, x2⟩ <;> rcases A0_l (a := a) (n := n) hj with ⟨y1, y2⟩ | ⟨y, y1, y3, y2⟩ | ⟨y, y1, y3, y2⟩ | ⟨y, y1, y3, y2⟩ | ⟨y, y1, y3, y2⟩ <;> omega
theorem I0_e {e j : Nat} (h : e < 5) (hj : j < 3) : I0 (100 + j + 10 * e) = 0 := by
  unfold I0
  rw [if_neg (by omega), if_neg (by omega), if_neg (by omega)]
theorem I0_q0 {q : Nat} (h : q < 6) : I0 (200 + 10 * q) = 0 := by
  unfold I0
  rw [if_neg (by omega), if_neg (by omega), if_neg (by omega)]
theorem I0_q1 {q : Nat} (h : q < 6) : I0 (201 + 10 * q) = 1 := by
  unfold I0
  rw [if_pos (by omega)]
theorem I0_q2 {q : Nat} (h : q < 6) : I0 (202 + 10 * q) = -1 := by
  unfold I0
  rw [if_neg (by omega), if_pos (by omega)]
theorem I0_q3 {q : Nat} (h : q < 6) : I0 (203 + 10 * q) = 0 := by
  unfold I0
  rw [if_neg (by omega), if_neg (by omega), if_neg (by omega)]
theorem I0_c0 {c : Nat} (h : c < 4) : I0 (300 + 10 * c) = 12 := by
  unfold I0
  rw [if_neg (by omega), if_neg (by omega), if_pos (by omega)]
theorem I0_c1 {c : Nat} (h : c < 4) : I0 (301 + 10 * c) = 0 := by
  unfold I0
  rw [if_neg (by omega), if_neg (by omega), if_neg (by omega)]
theorem I0_c2 {c : Nat} (h : c < 4) : I0 (302 + 10 * c) = 0 := by
  unfold I0
  rw [if_neg (by omega), if_neg (by omega), if_neg (by omega)]
theorem EL.lst {gc : Nat → Nat} {h : AH} {b : Nat} (he : EL gc h b) (h1 : at_ h (gc 1) 201 []) : Lst gc h b (gc 1) 0 [] := by
  obtain ⟨m, he⟩ := he
  exact ⟨⟨m, he⟩, Nat.le_refl _, by omega, Or.inl ⟨rfl, rfl, h1⟩, fun x hx => by cases hx⟩
theorem PB.rc {gc : Nat → Nat} {h0 h : AH} {a n0 CC SS F : Nat} (hp : PB gc h0 a n0 CC SS 5 6 4 h) (hC : 3100 + F ≤ CC) (hS : 801000 + 10 * F ≤ SS) : RC gc h (A0 a n0) I0 v0 F := by
  obtain ⟨p1, p2, p3, p4, p5, p6, p7, p8, p9, p10, p11, p12, p13, p14, p15⟩ := hp
  refine ⟨fun _ => [], ⟨A0_ok, p1, ⟨p5, p6, p7, p8, p9, fun e he => ?_, fun q hq => ?_, fun c hc => ?_⟩, fun _ => gc 1, fun _ => 0, ⟨fun i hi => ⟨?_, Nat.zero_le _⟩, fun i j _ _ z => absurd z (Nat.lt_irrefl _)⟩, by omega, by omega⟩, ⟨fun _ _ => trivial, fun _ _ => trivial, fun _ _ => trivial, fun _ _ => trivial⟩, ⟨fun _ _ => List.nodup_nil, fun _ _ _ _ _ z => by cases z⟩, fun _ _ => rfl⟩
  · rw [A0_e he, show 100 + 10 * e = 100 + 0 + 10 * e by omega, show 101 + 10 * e = 100 + 1 + 10 * e by omega, show 102 + 10 * e = 100 + 2 + 10 * e by omega, I0_e he (by omega), I0_e he (by omega), I0_e he (by omega)]
    exact p12 e he
  · rw [A0_q hq, A0_w hq, A0_r hq, I0_q0 hq, I0_q1 hq, I0_q2 hq, I0_q3 hq]
    exact (p13 q hq).1
  · rw [A0_c hc, A0_h hc, A0_d hc, I0_c0 hc, I0_c1 hc, I0_c2 hc]
    exact (p14 c hc).1
  · refine EL.lst ?_ p5
    rcases A0_l (a := a) (n := n0) hi with ⟨x1, x2⟩ | ⟨x, x1, x3, x2⟩ | ⟨x, x1, x3, x2⟩ | ⟨x, x1, x3, x2⟩ | ⟨x, x1, x3, x2⟩ <;> rw [x2]
    · by_cases hz : i = 0
      · rw [hz]; exact p10
      · rw [show i = 1 by omega]; exact p11
    · exact (p13 x x1).2.1
    · exact (p13 x x1).2.2
    · exact (p14 x x1).2.1
    · exact (p14 x x1).2.2
/-- the class's constructor -/
theorem k_ctorC {gc : Nat → Nat} {d : Nat} {h : AH} {a F : Nat} (hf : Fr h) (h1 : at_ h (gc 1) 201 []) (ha : at_ h a 9 (dfl 9)) (r1 : 3100 + F ≤ h.2.1) (r2 : 801000 + 10 * F ≤ h.2.2.1) : WP gc (d + 5) 0 [.ref a] h (fun r h' => r = none ∧ RC gc h' (A0 a h.1) I0 v0 F ∧ KC h h') := by
  have hal := hf.lt ha (by decide)
  have n1 : gc 1 ≠ a := at_ne h1 ha (by decide)
  have h1l := hf.lt h1 (by decide)
  refine M0 ⟨by decide, by omega, by show 5 ≤ h.2.2.1; omega, by decide, ?_⟩
  rintro b1 h2 rfl rfl
  refine ⟨_, at_old hf ha (by decide), Nat.le_of_ble_eq_true rfl, trivial, ?_⟩
  rintro h4 e4
  have f4 : Fr h4 := by rw [e4]; exact hf.new.set (at_old hf ha (by decide)) (by decide)
  have t4 : h4.1 = h.1 + 1 ∧ h4.2.1 = h.2.1 - 1 ∧ h4.2.2.1 = h.2.2.1 - 5 := by rw [e4]; exact ⟨rfl, rfl, rfl⟩
  have a4 : at_ h4 a 9 [.ref h.1, .null, .null, .null, .null, .int 0, .int 0, .int 0] := by rw [e4]; exact at_s
  have x4 : at_ h4 h.1 100 (List.replicate 5 .null) := by rw [e4]; exact at_n at_new (by omega)
  have k4 : KP h h4 (fun x => x = a) := by rw [e4]; exact KP.trans (KP.new hf) (KP.set rfl)
  refine ⟨by decide, by omega, by show 6 ≤ h4.2.2.1; omega, by decide, ?_⟩
  rintro b5 h6 rfl rfl
  refine ⟨_, at_old f4 a4 (by decide), Nat.le_of_ble_eq_true rfl, trivial, ?_⟩
  rintro h8 e8
  have f8 : Fr h8 := by rw [e8]; exact f4.new.set (at_old f4 a4 (by decide)) (by decide)
  have t8 : h8.1 = h4.1 + 1 ∧ h8.2.1 = h4.2.1 - 1 ∧ h8.2.2.1 = h4.2.2.1 - 6 := by rw [e8]; exact ⟨rfl, rfl, rfl⟩
  have a8 : at_ h8 a 9 [.ref h.1, .ref h4.1, .null, .null, .null, .int 0, .int 0, .int 0] := by rw [e8]; exact at_s
  have x8 : at_ h8 h4.1 101 (List.replicate 6 .null) := by rw [e8]; exact at_n at_new (by omega)
  have k8 : KP h4 h8 (fun x => x = a) := by rw [e8]; exact KP.trans (KP.new f4) (KP.set rfl)
  refine ⟨by decide, by omega, by show 4 ≤ h8.2.2.1; omega, by decide, ?_⟩
  rintro b9 h10 rfl rfl
  refine ⟨_, at_old f8 a8 (by decide), Nat.le_of_ble_eq_true rfl, trivial, ?_⟩
  rintro h12 e12
  have f12 : Fr h12 := by rw [e12]; exact f8.new.set (at_old f8 a8 (by decide)) (by decide)
  have t12 : h12.1 = h8.1 + 1 ∧ h12.2.1 = h8.2.1 - 1 ∧ h12.2.2.1 = h8.2.2.1 - 4 := by rw [e12]; exact ⟨rfl, rfl, rfl⟩
  have a12 : at_ h12 a 9 [.ref h.1, .ref h4.1, .ref h8.1, .null, .null, .int 0, .int 0, .int 0] := by rw [e12]; exact at_s
  have x12 : at_ h12 h8.1 102 (List.replicate 4 .null) := by rw [e12]; exact at_n at_new (by omega)
  have k12 : KP h8 h12 (fun x => x = a) := by rw [e12]; exact KP.trans (KP.new f8) (KP.set rfl)
  have z12 : at_ h12 (gc 1) 201 [] := k12 _ _ _ (by decide) n1 (k8 _ _ _ (by decide) n1 (k4 _ _ _ (by decide) n1 h1))
  refine ⟨by omega, by show 3 ≤ h12.2.2.1; omega, ?_⟩
  rintro b13 h14 rfl rfl
  refine ⟨_, k_mkL f12 z12, ?_⟩
  rintro r h17 ⟨rfl, w1, w2, w3, w4, w5, w6⟩
  have a17 := w6 _ _ _ (by decide) (by omega) a12
  refine ⟨rfl, _, a17, Nat.le_of_ble_eq_true rfl, trivial, ?_⟩
  rintro h19 e19
  have f19 : Fr h19 := by rw [e19]; exact w1.set a17 (by decide)
  have t19 : h19.1 = h17.1 ∧ h19.2.1 = h17.2.1 ∧ h19.2.2.1 = h17.2.2.1 := by rw [e19]; exact ⟨rfl, rfl, rfl⟩
  have a19 : at_ h19 a 9 [.ref h.1, .ref h4.1, .ref h8.1, .ref h12.1, .null, .int 0, .int 0, .int 0] := by rw [e19]; exact at_s
  have l19 : EL gc h19 h12.1 := by
    obtain ⟨m, w5⟩ := w5
    exact ⟨m, by rw [e19]; exact at_n w5 (by omega)⟩
  have k19 : KP h12 h19 (fun x => x = a ∨ h12.1 ≤ x) := KP.trans (w6.mono (fun x hx => Or.inr hx)) (by rw [e19]; exact KP.set (Or.inl rfl))
  have z19 : at_ h19 (gc 1) 201 [] := k19 _ _ _ (by decide) (by omega) z12
  refine ⟨by omega, by show 3 ≤ h19.2.2.1; omega, ?_⟩
  rintro b20 h21 rfl rfl
  refine ⟨_, k_mkL f19 z19, ?_⟩
  rintro r h24 ⟨rfl, u1, u2, u3, u4, u5, u6⟩
  have a24 := u6 _ _ _ (by decide) (by omega) a19
  refine ⟨rfl, _, a24, Nat.le_of_ble_eq_true rfl, trivial, ?_⟩
  rintro h26 rfl
  refine ⟨_, at_s, Nat.le_of_ble_eq_true rfl, trivial, ?_⟩
  rintro h28 rfl
  refine ⟨_, at_s, Nat.le_of_ble_eq_true rfl, trivial, ?_⟩
  rintro h30 rfl
  refine ⟨_, at_s, Nat.le_of_ble_eq_true rfl, trivial, ?_⟩
  rintro h32 e32
  rw [set_set, set_set, set_set] at e32
  have f32 : Fr h32 := by rw [e32]; exact u1.set a24 (by decide)
  have t32 : h32.1 = h24.1 ∧ h32.2.1 = h24.2.1 ∧ h32.2.2.1 = h24.2.2.1 := by rw [e32]; exact ⟨rfl, rfl, rfl⟩
  have a32 : at_ h32 a 9 [.ref h.1, .ref h4.1, .ref h8.1, .ref h12.1, .ref h19.1, .int 0, .int 0, .int 0] := by rw [e32]; exact at_s
  have l32 : EL gc h32 h19.1 := by
    obtain ⟨m, u5⟩ := u5
    exact ⟨m, by rw [e32]; exact at_n u5 (by omega)⟩
  have k32 : KP h19 h32 (fun x => x = a ∨ h19.1 ≤ x) := KP.trans (u6.mono (fun x hx => Or.inr hx)) (by rw [e32]; exact KP.set (Or.inl rfl))
  have kk : ∀ b t vs, t ≠ 0 → b ≠ a → b < h12.1 → at_ h12 b t vs → at_ h32 b t vs := fun b t vs z1 z2 z3 hb => k32 _ _ _ z1 (by omega) (k19 _ _ _ z1 (by omega) hb)
  have hp : PB gc h a h.1 h.2.1 h.2.2.1 0 0 0 h32 := by
    refine ⟨f32, by omega, by omega, by omega, kk _ _ _ (by decide) n1 (by omega) z12, ?_, ?_, ?_, ?_, ?_, ?_, fun i hi => absurd hi (Nat.not_lt_zero _), fun i hi => absurd hi (Nat.not_lt_zero _), fun i hi => absurd hi (Nat.not_lt_zero _), fun b t vs ht hb => ?_⟩
    · rw [show h.1 + 1 = h4.1 by omega, show h.1 + 2 = h8.1 by omega, show h.1 + 3 = h12.1 by omega, show h.1 + 4 = h19.1 by omega]
      exact a32
    · rw [plN_0]
      exact kk _ _ _ (by decide) (by omega) (by omega) (k12 _ _ _ (by decide) (by omega) (k8 _ _ _ (by decide) (by omega) x4))
    · rw [plN_0, show h.1 + 1 = h4.1 by omega]
      exact kk _ _ _ (by decide) (by omega) (by omega) (k12 _ _ _ (by decide) (by omega) x8)
    · rw [plN_0, show h.1 + 2 = h8.1 by omega]
      exact kk _ _ _ (by decide) (by omega) (by omega) x12
    · obtain ⟨m, l19⟩ := l19
      rw [show h.1 + 3 = h12.1 by omega]
      exact ⟨m, k32 _ _ _ (by decide) (by omega) l19⟩
    · rw [show h.1 + 4 = h19.1 by omega]
      exact l32
    · have hba : b ≠ a := at_ne hb ha (by omega)
      have hbl := hf.lt hb (by omega)
      exact kk _ _ _ (by omega) hba (by omega) (k12 _ _ _ (by omega) hba (k8 _ _ _ (by omega) hba (k4 _ _ _ (by omega) hba hb)))
  refine be_loop (by omega) (by omega) 5 0 h32 rfl hp (fun g1 y1 hp1 => B0_92 ?_)
  refine bq_loop (by omega) (by omega) 6 0 g1 rfl hp1 (fun g2 y2 hp2 => B0_119 ?_)
  refine bc2_loop (by omega) (by omega) 4 0 g2 rfl hp2 (fun g3 hp3 => ?_)
  exact ⟨rfl, hp3.rc r1 r2, hp3.2.2.2.2.2.2.2.2.2.2.2.2.2.2⟩
