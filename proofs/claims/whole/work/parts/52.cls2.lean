theorem at_c {h : AH} {b t : Nat} {vs vs' : List Value} (hb : at_ h b t vs) (e : vs = vs') : at_ h b t vs' := e ▸ hb
theorem RF.setE {gc : Nat → Nat} {h : AH} {A : Nat → Nat} {I I' : Nat → Int32} {e : Nat} (hF : RF gc h A I) (hA : AOK A) (he : e < 5) (hI : ∀ j, ¬ (100 + 10 * e ≤ j ∧ j ≤ 102 + 10 * e) → I' j = I j) : RF gc (ah_set h (A (10 + e)) (6, [.int (I' (100 + 10 * e)), .int (I' (101 + 10 * e)), .int (I' (102 + 10 * e))])) A I' := by
  obtain ⟨h1, h2, h3, h4, h5, h6, h7, h8⟩ := hF
  have ha := h6 e he
  refine ⟨at_n h1 (at_ne h1 ha (by decide)), at_n (at_c h2 (by rw [hI 0 (by omega), hI 1 (by omega), hI 2 (by omega)])) (at_ne h2 ha (by decide)), at_n h3 (at_ne h3 ha (by decide)), at_n h4 (at_ne h4 ha (by decide)), at_n h5 (at_ne h5 ha (by decide)), fun e' he' => ?_, fun q hq => ?_, fun c hc => ?_⟩
  · by_cases hz : e' = e
    · subst hz; exact at_s
    · exact at_n (at_c (h6 e' he') (by rw [hI (100 + 10 * e') (by omega), hI (101 + 10 * e') (by omega), hI (102 + 10 * e') (by omega)])) (fun z => hz (hA.1 e' e he' he z))
  · exact at_n (at_c (h7 q hq) (by rw [hI (200 + 10 * q) (by omega), hI (201 + 10 * q) (by omega), hI (202 + 10 * q) (by omega), hI (203 + 10 * q) (by omega)])) (at_ne (h7 q hq) ha (by decide))
  · exact at_n (at_c (h8 c hc) (by rw [hI (300 + 10 * c) (by omega), hI (301 + 10 * c) (by omega), hI (302 + 10 * c) (by omega)])) (at_ne (h8 c hc) ha (by decide))
theorem RF.setQ {gc : Nat → Nat} {h : AH} {A : Nat → Nat} {I I' : Nat → Int32} {e : Nat} (hF : RF gc h A I) (hA : AOK A) (he : e < 6) (hI : ∀ j, ¬ (200 + 10 * e ≤ j ∧ j ≤ 203 + 10 * e) → I' j = I j) : RF gc (ah_set h (A (20 + e)) (8, [.int (I' (200 + 10 * e)), .int (I' (201 + 10 * e)), .int (I' (202 + 10 * e)), .int (I' (203 + 10 * e)), .ref (A (42 + e)), .ref (A (48 + e))])) A I' := by
  obtain ⟨h1, h2, h3, h4, h5, h6, h7, h8⟩ := hF
  have ha := h7 e he
  refine ⟨at_n h1 (at_ne h1 ha (by decide)), at_n (at_c h2 (by rw [hI 0 (by omega), hI 1 (by omega), hI 2 (by omega)])) (at_ne h2 ha (by decide)), at_n h3 (at_ne h3 ha (by decide)), at_n h4 (at_ne h4 ha (by decide)), at_n h5 (at_ne h5 ha (by decide)), fun e' he' => ?_, fun q hq => ?_, fun c hc => ?_⟩
  · exact at_n (at_c (h6 e' he') (by rw [hI (100 + 10 * e') (by omega), hI (101 + 10 * e') (by omega), hI (102 + 10 * e') (by omega)])) (at_ne (h6 e' he') ha (by decide))
  · by_cases hz : q = e
    · subst hz; exact at_s
    · exact at_n (at_c (h7 q hq) (by rw [hI (200 + 10 * q) (by omega), hI (201 + 10 * q) (by omega), hI (202 + 10 * q) (by omega), hI (203 + 10 * q) (by omega)])) (fun z => hz (hA.2.1 q e hq he z))
  · exact at_n (at_c (h8 c hc) (by rw [hI (300 + 10 * c) (by omega), hI (301 + 10 * c) (by omega), hI (302 + 10 * c) (by omega)])) (at_ne (h8 c hc) ha (by decide))
theorem RF.setC {gc : Nat → Nat} {h : AH} {A : Nat → Nat} {I I' : Nat → Int32} {e : Nat} (hF : RF gc h A I) (hA : AOK A) (he : e < 4) (hI : ∀ j, ¬ (300 + 10 * e ≤ j ∧ j ≤ 302 + 10 * e) → I' j = I j) : RF gc (ah_set h (A (30 + e)) (2, [.int (I' (300 + 10 * e)), .int (I' (301 + 10 * e)), .int (I' (302 + 10 * e)), .ref (A (54 + e)), .ref (A (58 + e))])) A I' := by
  obtain ⟨h1, h2, h3, h4, h5, h6, h7, h8⟩ := hF
  have ha := h8 e he
  refine ⟨at_n h1 (at_ne h1 ha (by decide)), at_n (at_c h2 (by rw [hI 0 (by omega), hI 1 (by omega), hI 2 (by omega)])) (at_ne h2 ha (by decide)), at_n h3 (at_ne h3 ha (by decide)), at_n h4 (at_ne h4 ha (by decide)), at_n h5 (at_ne h5 ha (by decide)), fun e' he' => ?_, fun q hq => ?_, fun c hc => ?_⟩
  · exact at_n (at_c (h6 e' he') (by rw [hI (100 + 10 * e') (by omega), hI (101 + 10 * e') (by omega), hI (102 + 10 * e') (by omega)])) (at_ne (h6 e' he') ha (by decide))
  · exact at_n (at_c (h7 q hq) (by rw [hI (200 + 10 * q) (by omega), hI (201 + 10 * q) (by omega), hI (202 + 10 * q) (by omega), hI (203 + 10 * q) (by omega)])) (at_ne (h7 q hq) ha (by decide))
  · by_cases hz : c = e
    · subst hz; exact at_s
    · exact at_n (at_c (h8 c hc) (by rw [hI (300 + 10 * c) (by omega), hI (301 + 10 * c) (by omega), hI (302 + 10 * c) (by omega)])) (fun z => hz (hA.2.2.1 c e hc he z))
theorem RF.set0 {gc : Nat → Nat} {h : AH} {A : Nat → Nat} {I I' : Nat → Int32} (hF : RF gc h A I) (hI : ∀ j, 3 ≤ j → I' j = I j) : RF gc (ah_set h (A 0) (9, [.ref (A 1), .ref (A 2), .ref (A 3), .ref (A 40), .ref (A 41), .int (I' 0), .int (I' 1), .int (I' 2)])) A I' := by
  obtain ⟨h1, h2, h3, h4, h5, h6, h7, h8⟩ := hF
  refine ⟨at_n h1 (at_ne h1 h2 (by decide)), at_s, at_n h3 (at_ne h3 h2 (by decide)), at_n h4 (at_ne h4 h2 (by decide)), at_n h5 (at_ne h5 h2 (by decide)), fun e' he' => ?_, fun q hq => ?_, fun c hc => ?_⟩
  · exact at_n (at_c (h6 e' he') (by rw [hI (100 + 10 * e') (by omega), hI (101 + 10 * e') (by omega), hI (102 + 10 * e') (by omega)])) (at_ne (h6 e' he') h2 (by decide))
  · exact at_n (at_c (h7 q hq) (by rw [hI (200 + 10 * q) (by omega), hI (201 + 10 * q) (by omega), hI (202 + 10 * q) (by omega), hI (203 + 10 * q) (by omega)])) (at_ne (h7 q hq) h2 (by decide))
  · exact at_n (at_c (h8 c hc) (by rw [hI (300 + 10 * c) (by omega), hI (301 + 10 * c) (by omega), hI (302 + 10 * c) (by omega)])) (at_ne (h8 c hc) h2 (by decide))
theorem set_set {h : AH} {a : Nat} {e e' : Nat × List Value} : ah_set (ah_set h a e) a e' = ah_set h a e' := by
  unfold ah_set ah_up
  congr 3
  funext b
  by_cases hb : b = a
  · simp [hb]
  · simp [hb]
/-- the class's state: numbers I, contents v, room for F objects; xs the lists' elements, ys those that count (what is being given back no longer counts as held) -/
def RX (gc : Nat → Nat) (h : AH) (A : Nat → Nat) (I : Nat → Int32) (xs ys : Nat → List Nat) (v : Mu) (F : Nat) : Prop := RS gc h A I xs (3000 + F) (800000 + 10 * F) ∧ CT h ys v ∧ ND ys ∧ ∀ k, ¬ (14 ≤ k ∧ k < 18) → ys k = xs k
def RC (gc : Nat → Nat) (h : AH) (A : Nat → Nat) (I : Nat → Int32) (v : Mu) (F : Nat) : Prop := ∃ xs : Nat → List Nat, RX gc h A I xs xs v F
theorem RX.rf {gc : Nat → Nat} {h : AH} {A : Nat → Nat} {I : Nat → Int32} {xs ys : Nat → List Nat} {v : Mu} {F : Nat} (hR : RX gc h A I xs ys v F) : RF gc h A I := hR.1.2.2.1
theorem RX.ok {gc : Nat → Nat} {h : AH} {A : Nat → Nat} {I : Nat → Int32} {xs ys : Nat → List Nat} {v : Mu} {F : Nat} (hR : RX gc h A I xs ys v F) : AOK A ∧ Fr h := ⟨hR.1.1, hR.1.2.1⟩
theorem RC.rf {gc : Nat → Nat} {h : AH} {A : Nat → Nat} {I : Nat → Int32} {v : Mu} {F : Nat} (hR : RC gc h A I v F) : RF gc h A I := by
  obtain ⟨xs, h1⟩ := hR
  exact h1.rf
theorem RC.ok {gc : Nat → Nat} {h : AH} {A : Nat → Nat} {I : Nat → Int32} {v : Mu} {F : Nat} (hR : RC gc h A I v F) : AOK A ∧ Fr h := by
  obtain ⟨xs, h1⟩ := hR
  exact h1.ok
theorem RX.wr {gc : Nat → Nat} {h : AH} {A : Nat → Nat} {I : Nat → Int32} {I' : Nat → Int32} {xs ys : Nat → List Nat} {v : Mu} {F : Nat} {a t : Nat} {vs vs' : List Value} (hR : RX gc h A I xs ys v F) (ha : at_ h a t vs) (ht : t = 2 ∨ t = 6 ∨ t = 8 ∨ t = 9) (hF : RF gc (ah_set h a (t, vs')) A I') : RX gc (ah_set h a (t, vs')) A I' xs ys v F :=
  ⟨hR.1.wr ha ht hF, hR.2.1.ko (KO.set ha (by omega)), hR.2.2⟩
theorem RC.wr {gc : Nat → Nat} {h : AH} {A : Nat → Nat} {I : Nat → Int32} {I' : Nat → Int32} {v : Mu} {F : Nat} {a t : Nat} {vs vs' : List Value} (hR : RC gc h A I v F) (ha : at_ h a t vs) (ht : t = 2 ∨ t = 6 ∨ t = 8 ∨ t = 9) (hF : RF gc (ah_set h a (t, vs')) A I') : RC gc (ah_set h a (t, vs')) A I' v F := by
  obtain ⟨xs, h1⟩ := hR
  exact ⟨xs, h1.wr ha ht hF⟩
theorem RS.le {gc : Nat → Nat} {h : AH} {A : Nat → Nat} {I : Nat → Int32} {xs : Nat → List Nat} {nc ns nc' ns' : Nat} (hR : RS gc h A I xs nc ns) (h1 : nc' ≤ nc) (h2 : ns' ≤ ns) : RS gc h A I xs nc' ns' := by
  obtain ⟨hA, hf, hF, le, lc, hL, b1, b2⟩ := hR
  exact ⟨hA, hf, hF, le, lc, hL, by omega, by omega⟩
theorem RC.le {gc : Nat → Nat} {h : AH} {A : Nat → Nat} {I : Nat → Int32} {v : Mu} {F : Nat} {G : Nat} (hR : RC gc h A I v F) (hl : G ≤ F) : RC gc h A I v G := by
  obtain ⟨xs, h1, h2⟩ := hR
  exact ⟨xs, h1.le (by omega) (by omega), h2⟩
/-- an object more -/
theorem RX.new {gc : Nat → Nat} {h : AH} {A : Nat → Nat} {I : Nat → Int32} {xs ys : Nat → List Nat} {v : Mu} {F : Nat} {t : Nat} {vs : List Value} (hR : RX gc h A I xs ys v (F + 1)) (hl : vs.length ≤ 10) : RX gc (ah_new h (t, vs)) A I xs ys v F ∧ 1 ≤ h.2.1 ∧ 10 ≤ h.2.2.1 ∧ KC h (ah_new h (t, vs)) ∧ KO h (ah_new h (t, vs)) := by
  obtain ⟨h1, h2, h3⟩ := hR
  obtain ⟨g1, g2, g3⟩ := RS.new (nc := 3000 + F) (ns := 800000 + 10 * F) (t := t) (vs := vs) (h1.le (by omega) (by omega)) hl (by omega) (by omega)
  exact ⟨⟨g1, h2.ko (KO.new h1.2.1), h3⟩, by omega, by omega, KC.new h1.2.1, KO.new h1.2.1⟩
/-! exchange, queue, prefetch, begin -/
def opEx (I : Nat → Int32) (x t du : Int32) : Int32 × (Nat → Int32) :=
  if decide (¬ x < 0 ∧ ¬ 4 < x) && decide (¬ t < 0 ∧ ¬ 2 < t) then
    let e := x.toNatClampNeg
    if I (100 + 10 * e) = 0 then (0, upd (upd (upd I (100 + 10 * e) 1) (101 + 10 * e) t) (102 + 10 * e) du)
    else (if I (101 + 10 * e) = t ∧ I (102 + 10 * e) = du then 0 else -3, I)
  else (-1, I)
theorem k_exchange {gc : Nat → Nat} {d : Nat} {h : AH} {A : Nat → Nat} {I : Nat → Int32} {v : Mu} {F : Nat} {x t du : Int32} (hR : RC gc h A I v F) (hdu : du = 0 ∨ du = 1) : WP gc (d + 2) 7 [.ref (A 0), .int x, .int t, .int du] h (fun r h' => r = some (.int (opEx I x t du).1) ∧ RC gc h' A (opEx I x t du).2 v F ∧ KC h h') := by
  have hF := hR.rf
  refine M7 ⟨_, k_isWithin, ?_⟩
  rintro r h' ⟨rfl, rfl⟩
  refine ⟨_, rfl, fun z => B7_18 ?_, fun z => ⟨_, k_isWithin, ?_⟩⟩
  · have z1 := b2i_z.mp z
    unfold opEx
    rw [z1, Bool.false_and, if_neg (by decide)]
    exact ⟨rfl, hR, KC.refl⟩
  · have zx : decide (¬ x < 0 ∧ ¬ 4 < x) = true := by
      cases hz : decide (¬ x < 0 ∧ ¬ 4 < x) with
      | true => rfl
      | false => exact absurd (b2i_z.mpr hz) z
    rintro r h2 ⟨rfl, rfl⟩
    refine ⟨_, rfl, fun z2 => ?_, fun z2 => B7_18 ?_⟩
    · have zt : decide (¬ t < 0 ∧ ¬ 2 < t) = true := by
        cases hz : decide (¬ t < 0 ∧ ¬ 2 < t) with
        | true => rfl
        | false => exact absurd (b2i_z.mpr hz) z2
      have z1 := of_decide_eq_true zx
      obtain ⟨e, he, rfl⟩ := rng (n := 4) (by decide) z1.1 z1.2
      obtain ⟨t', vs, g1, g2, g3, g4⟩ := hF.exA he
      have hex := hF.2.2.2.2.2.1 e he
      have ho : opEx I (nI e) t du = if I (100 + 10 * e) = 0 then (0, upd (upd (upd I (100 + 10 * e) 1) (101 + 10 * e) t) (102 + 10 * e) du) else (if I (101 + 10 * e) = t ∧ I (102 + 10 * e) = du then 0 else -3, I) := by
        unfold opEx
        rw [zx, zt, nI_clamp (by omega)]
        rfl
      refine B7_20 ⟨_, _, hF.2.1, rfl, t', vs, _, g1, g2, g3, g4, _, _, hex, rfl, fun z3 => ?_, fun z3 => ?_⟩
      · refine B7_61 ⟨_, hex, Nat.le_of_ble_eq_true rfl, Or.inr rfl, ?_⟩
        rintro h3 rfl
        refine ⟨_, at_s, Nat.le_of_ble_eq_true rfl, trivial, ?_⟩
        rintro h4 rfl
        refine ⟨_, at_s, Nat.le_of_ble_eq_true rfl, hdu, ?_⟩
        rintro h5 rfl
        rw [set_set, set_set, ho, if_pos z3]
        have hI : ∀ j, ¬ (100 + 10 * e ≤ j ∧ j ≤ 102 + 10 * e) → upd (upd (upd I (100 + 10 * e) 1) (101 + 10 * e) t) (102 + 10 * e) du j = I j := fun j hj => by
          unfold upd
          rw [if_neg (by omega), if_neg (by omega), if_neg (by omega)]
        have key := RF.setE hF hR.ok.1 he hI
        have e1 : upd (upd (upd I (100 + 10 * e) 1) (101 + 10 * e) t) (102 + 10 * e) du (100 + 10 * e) = 1 := by
          unfold upd
          rw [if_neg (by omega), if_neg (by omega), if_pos rfl]
        have e2 : upd (upd (upd I (100 + 10 * e) 1) (101 + 10 * e) t) (102 + 10 * e) du (101 + 10 * e) = t := by
          unfold upd
          rw [if_neg (by omega), if_pos rfl]
        have e3 : upd (upd (upd I (100 + 10 * e) 1) (101 + 10 * e) t) (102 + 10 * e) du (102 + 10 * e) = du := by
          unfold upd
          rw [if_pos rfl]
        rw [e1, e2, e3] at key
        exact ⟨rfl, hR.wr hex (by omega) key, KC.set hex (by decide)⟩
      · rw [if_neg z3] at ho
        have fin : ∀ w : Int32, (if I (101 + 10 * e) = t ∧ I (102 + 10 * e) = du then (0 : Int32) else -3) = w → (some (Value.int w) = some (Value.int (opEx I (nI e) t du).1) ∧ RC gc h2 A (opEx I (nI e) t du).2 v F ∧ KC h2 h2) := fun w hw => by
          rw [ho]
          exact ⟨by rw [← hw], hR, KC.refl⟩
        refine ⟨_, _, hex, rfl, fun z4 => B7_58 (B7_60 (fin _ ?_)), fun z4 => ⟨_, _, hex, rfl, fun z5 => B7_58 (B7_60 (fin _ ?_)), fun z5 => B7_60 (fin _ ?_)⟩⟩
        · rw [if_neg (fun z => z4 z.1)]
        · rw [if_neg (fun z => z5 z.2)]
        · rw [if_pos ⟨z4, z5⟩]
    · have zt := b2i_z.mp z2
      unfold opEx
      rw [zt, Bool.and_false, if_neg (by decide)]
      exact ⟨rfl, hR, KC.refl⟩
