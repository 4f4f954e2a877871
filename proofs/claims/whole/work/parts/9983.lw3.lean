/-! the law's loop and start -/
theorem sub6 {n : Nat} (h : n ≤ 3072) : (Int32.ofNat n - 6).toInt = (n : Int) - 6 := by
  rw [Int32.toInt_sub, show (Int32.ofNat n).toInt = n from nI_ti (by omega), show (6 : Int32).toInt = 6 from rfl, Int.bmod_def]
  split <;> omega
theorem lt6 {n k : Nat} (h : n ≤ 3072) (hk : k ≤ 4000) : Int32.ofNat n - 6 < nI k ↔ n < k + 6 := by
  rw [Int32.lt_iff_toInt_lt, sub6 h, nI_ti (by omega)]
  omega
theorem LwS.wk {gc : Nat → Nat} {a1 a2 c : Nat} {ws : List Value} {h : AH} (hS : LwS gc a1 a2 ws c h) : LwS gc a1 a2 ws (c + 1) h := by
  obtain ⟨A, I, v, M, X, h1, hR, hM, hX, hV, hs⟩ := hS
  exact ⟨A, I, v, M, X, h1, hR.le (by omega), hM, hX, hV.mono (by omega) (by omega), hs⟩
theorem LwS.sc {gc : Nat → Nat} {a1 a2 c : Nat} {ws : List Value} {h : AH} (hS : LwS gc a1 a2 ws c h) : at_ h (gc 2) 200 ws := by
  obtain ⟨A, I, v, M, X, -, -, -, -, -, hs⟩ := hS
  exact hs
theorem lw_loop {gc : Nat → Nat} {a1 a2 : Nat} {xs : List Int32} (hl : xs.length ≤ 3072) : ∀ n c (h : AH), c + n = 512 → LwS gc a1 a2 (xs.map Value.int) c h → TL gc 13 (fun r _ => r = some (.int 1)) 18 [.ref (gc 2), .ref a1, .ref a2, .int (nI (6 * c))] [] h := by
  intro n
  induction n with
  | zero =>
    intro c h hc hS
    have hlen : (xs.map Value.int).length = xs.length := List.length_map _
    refine L_18 ⟨200, _, hS.sc, Or.inr (Or.inl ⟨rfl, rfl⟩), fun _ => L_873 ⟨Or.inr rfl, rfl⟩, fun z => absurd ?_ z⟩
    rw [hlen]
    exact (lt6 hl (by omega)).mpr (by omega)
  | succ n ih =>
    intro c h hc hS
    have hlen : (xs.map Value.int).length = xs.length := List.length_map _
    refine L_18 ⟨200, _, hS.sc, Or.inr (Or.inl ⟨rfl, rfl⟩), fun _ => L_873 ⟨Or.inr rfl, rfl⟩, fun z => ?_⟩
    rw [hlen] at z
    have hi : 6 * c + 6 ≤ xs.length := by
      have := mt (lt6 (k := 6 * c) hl (by omega)).mpr z
      omega
    have hK : ∀ h', LwS gc a1 a2 (xs.map Value.int) (c + 1) h' → TL gc 13 (fun r _ => r = some (.int 1)) 867 [.ref (gc 2), .ref a1, .ref a2, .int (nI (6 * c))] [] h' := fun h' hS' => by
      refine L_867 ?_
      rw [show nI (6 * c) + 6 = nI (6 * (c + 1)) from (x3n (i := 6 * c) (k := 6) rfl).trans (by rw [show 6 * c + 6 = 6 * (c + 1) by omega])]
      exact ih (c + 1) h' (by omega) hS'
    refine rd hS.sc hl (n := 6 * c) (by omega) rfl ⟨fun _ => hK h hS.wk, fun j t hj _ => ?_⟩
    have hc5 : c < 512 := by omega
    match j, hj with
    | 0, hj => obtain rfl := Option.some.inj hj; exact c_ex hl hi hc5 hS hK
    | 1, hj => obtain rfl := Option.some.inj hj; exact c_qu hl hi hc5 hS hK
    | 2, hj => obtain rfl := Option.some.inj hj; exact c_bd hl hi hc5 hS hK
    | 3, hj => obtain rfl := Option.some.inj hj; exact c_ub hl hi hc5 hS hK
    | 4, hj => obtain rfl := Option.some.inj hj; exact c_dr hl hi hc5 hS hK
    | 5, hj => obtain rfl := Option.some.inj hj; exact c_pb hl hi hc5 hS hK
    | 6, hj => obtain rfl := Option.some.inj hj; exact c_cs hl hi hc5 hS hK
    | 7, hj => obtain rfl := Option.some.inj hj; exact c_ca hl hi hc5 hS hK
    | 8, hj => obtain rfl := Option.some.inj hj; exact c_dl hl hi hc5 hS hK
    | 9, hj => obtain rfl := Option.some.inj hj; exact c_st hl hi hc5 hS hK
    | 10, hj => obtain rfl := Option.some.inj hj; exact c_pf hl hi hc5 hS hK
    | 11, hj => obtain rfl := Option.some.inj hj; exact c_bg hl hi hc5 hS hK
    | 12, hj => obtain rfl := Option.some.inj hj; exact c_cm hl hi hc5 hS hK
    | 13, hj => obtain rfl := Option.some.inj hj; exact c_rb hl hi hc5 hS hK
    | 14, hj => obtain rfl := Option.some.inj hj; exact c_cl hl hi hc5 hS hK
    | 15, hj => obtain rfl := Option.some.inj hj; exact c_cr hl hi hc5 hS hK
    | 16, hj => obtain rfl := Option.some.inj hj; exact c_ry hl hi hc5 hS hK
    | 17, hj => obtain rfl := Option.some.inj hj; exact c_hd hl hi hc5 hS hK
    | 18, hj => obtain rfl := Option.some.inj hj; exact c_ct hl hi hc5 hS hK
    | j + 19, hj => cases hj
def LawPure2 : Prop := ∀ (gc : Nat → Nat) (h : AH) (xs : List Int32), xs.length ≤ 3072 → gc 1 ≠ gc 2 → at_ h (gc 2) 200 (xs.map Value.int) → at_ h (gc 1) 201 [] → (∀ a : Nat, a ≠ gc 1 → a ≠ gc 2 → h.2.2.2 a = (0, [])) → gc 1 < h.1 → gc 2 < h.1 → h.2.1 = 600000 → h.2.2.1 = 7302250 →
  Tf gc (WP gc 13) bk_law (fun r _ => r = some (.int 1)) 0 [.ref (gc 2), .retAddr 0, .retAddr 0, .retAddr 0] [] h
theorem law_pure2 : LawPure2 := by
  intro gc h xs hl hne hs h1 h0 g1 g2 r1 r2
  have hf : Fr h := fun b hb => h0 b (by omega) (by omega)
  refine L_0 ⟨by omega, by show 8 ≤ h.2.2.1; omega, ?_⟩
  rintro b1 h2 rfl rfl
  refine ⟨_, k_ctorC (F := 45 * 512 + 3000) hf.new (at_old hf h1 (by decide)) at_new (by show 3100 + (45 * 512 + 3000) ≤ h.2.1 - 1; omega) (by show 801000 + 10 * (45 * 512 + 3000) ≤ h.2.2.1 - 8; omega), ?_⟩
  rintro r4 h5 ⟨rfl, R5, K5⟩
  have rm := R5.room
  have f5 := R5.fr
  refine ⟨rfl, by omega, by show 43 ≤ h5.2.2.1; omega, ?_⟩
  rintro b6 h7 rfl rfl
  refine ⟨_, n_ctor f5.new at_new (by show 100 ≤ h5.2.1 - 1; omega) (by show 25000 ≤ h5.2.2.1 - 43; omega), ?_⟩
  rintro r9 h10 ⟨rfl, M10, f10, c1, c2, k10⟩
  have c1 : h5.2.1 - 1 ≤ h10.2.1 + 43 := c1
  have c2 : h5.2.2.1 - 43 ≤ h10.2.2.1 + 21500 := c2
  have s5 := K5 _ _ _ (Or.inr (Or.inr (Or.inr (Or.inl rfl)))) (at_old hf hs (by decide))
  refine ⟨rfl, lw_loop hl 512 0 h10 rfl ⟨_, I0, v0, _, Xe 5 4, rfl, R5.mv f10 (by omega) (by omega) (fun b t vs z0 z1 z2 z3 hb => k10 b t vs z0 z1 z2 z3 (at_old f5 hb z0)), M10, sx0, iv0, k10 _ _ _ (by decide) (by decide) (by decide) (by decide) (at_old f5 s5 (by decide))⟩⟩
