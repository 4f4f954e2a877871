/-! THE LAW, over the two sides -/
theorem sx0 : SX 0 (Xe 5 4) (I0, v0) := by
  refine ⟨fun e he => ⟨?_, fun z => ?_⟩, fun q hq => ⟨?_, fun z => ?_⟩, ⟨rfl, List.Perm.nil⟩, ⟨0, rfl, fun i hi => absurd hi (Nat.not_lt_zero _), fun q hq => rfl⟩, fun c hc => ⟨?_, ?_, ?_, rfl, fun j d hj => by cases hj⟩, ⟨rfl, List.Perm.nil⟩, rfl, ⟨rfl, fun j r hj => by cases hj⟩, rfl, rfl⟩
  · show Xe 5 4 0 e = _
    rw [show 100 + 10 * e = 100 + 0 + 10 * e by omega, if_pos (I0_e he (by omega))]
    unfold Xe
    rw [if_pos (by omega)]
  · exact absurd (by rw [show 100 + 10 * e = 100 + 0 + 10 * e by omega]; exact I0_e he (by omega)) z
  · show Xe 5 4 1 q = _
    rw [if_pos (I0_q0 hq)]
    unfold Xe
    rw [if_neg (by omega), if_neg (by omega)]
  · exact absurd (I0_q0 hq) z
  · show Xe 5 4 13 c = I0 (300 + 10 * c)
    rw [I0_c0 hc]
    unfold Xe
    rw [if_neg (by omega), if_pos (by omega)]
  · show Xe 5 4 14 c = I0 (302 + 10 * c)
    rw [I0_c2 hc]
    unfold Xe
    rw [if_neg (by omega), if_neg (by omega)]
  · show Xe 5 4 16 c = I0 (301 + 10 * c)
    rw [I0_c1 hc]
    unfold Xe
    rw [if_neg (by omega), if_neg (by omega)]
theorem iv0 : IV 0 0 (I0, v0) := by
  refine ⟨⟨fun q hq => ⟨1, I0_q1 hq, Nat.le_refl _, by decide⟩, fun e he z => absurd (by rw [show 100 + 10 * e = 100 + 0 + 10 * e by omega]; exact I0_e he (by omega)) z, ⟨fun k hk r hr => (by cases hr), fun q hq r hr => (by cases hr)⟩, ⟨fun c hc => Nat.zero_le _, fun q hq6 => ?_, ?_⟩, ⟨fun q hq => List.Pairwise.nil, fun c hc => ⟨List.Pairwise.nil, fun r hr => (by cases hr)⟩, ⟨List.nodup_nil, fun x hx => (by cases hx)⟩⟩, fun k hk r hr => (by cases hr), ⟨Nat.zero_le _, fun b hb => (by cases hb)⟩, ⟨0, Nat.le_refl _, rfl⟩⟩, rfl, fun q hq => ⟨fun x hx => (by cases hx), fun c hc => Nat.zero_le _, fun _ => rfl⟩, fun c hc => ⟨Nat.zero_le _, fun _ => rfl, fun r hr => (by cases hr), fun d hd => (by cases hd)⟩, fun c hc => ⟨12, Nat.le_refl _, I0_c0 hc⟩, fun c hc => ⟨0, Nat.le_refl _, I0_c2 hc⟩⟩
  · have h1 : hq v0 q = 0 := rfl
    have h2 : (uC v0 (2 + q)).length = 0 := rfl
    show (uC v0 (2 + q)).length + hq v0 q ≤ 60
    omega
  · have h1 : sw v0 = 0 := rfl
    have h2 : sh v0 = 0 := rfl
    have h3 : (uC v0 1).length = 0 := rfl
    show (uC v0 1).length + sw v0 + sh v0 ≤ 360
    omega
theorem RC.mv {gc : Nat → Nat} {h h' : AH} {A : Nat → Nat} {I : Nat → Int32} {v : Mu} {F F' : Nat} (hR : RC gc h A I v F) (hf : Fr h') (c1 : h.2.1 + F' ≤ h'.2.1 + F) (c2 : h.2.2.1 + 10 * F' ≤ h'.2.2.1 + 10 * F) (hk : ∀ b t vs, t ≠ 0 → t ≠ 11 → t ≠ 104 → t ≠ 105 → at_ h b t vs → at_ h' b t vs) : RC gc h' A I v F' := by
  obtain ⟨xs, ⟨hA, -, hF, le, lc, hL, b1, b2⟩, hc, hn, hx⟩ := hR
  have k : ∀ b t vs, (t < 11 ∧ 0 < t) ∨ (100 ≤ t ∧ t < 104) ∨ t = 201 → at_ h b t vs → at_ h' b t vs := fun b t vs z hb => hk b t vs (by omega) (by omega) (by omega) (by omega) hb
  refine ⟨xs, ⟨hA, hf, ?_, le, lc, ⟨fun i hi => ⟨?_, (hL.1 i hi).2⟩, hL.2⟩, by omega, by omega⟩, hc.ko (fun b t vs z hb => k b t vs (by omega) hb), hn, hx⟩
  · obtain ⟨h1, h2, h3, h4, h5, h6, h7, h8⟩ := hF
    exact ⟨k _ _ _ (by decide) h1, k _ _ _ (by decide) h2, k _ _ _ (by decide) h3, k _ _ _ (by decide) h4, k _ _ _ (by decide) h5, fun e he => k _ _ _ (by decide) (h6 e he), fun q hq => k _ _ _ (by decide) (h7 q hq), fun c hc => k _ _ _ (by decide) (h8 c hc)⟩
  · obtain ⟨⟨m, g1⟩, g2, g3, g4, g5⟩ := (hL.1 i hi).1
    refine ⟨⟨m, k _ _ _ (by decide) g1⟩, g2, g3, ?_, fun x hx => ?_⟩
    · rcases g4 with ⟨z1, z2, z3⟩ | ⟨z1, z3⟩
      · exact Or.inl ⟨z1, z2, k _ _ _ (by decide) z3⟩
      · exact Or.inr ⟨z1, k _ _ _ (by decide) z3⟩
    · obtain ⟨t, ws, w1, w2⟩ := g5 x hx
      have := asg_t w2
      exact ⟨t, ws, k _ _ _ (by omega) w1, w2⟩
theorem RC.fr {gc : Nat → Nat} {h : AH} {A : Nat → Nat} {I : Nat → Int32} {v : Mu} {F : Nat} (hR : RC gc h A I v F) : Fr h := by
  obtain ⟨xs, ⟨-, hf, -⟩, -⟩ := hR
  exact hf
theorem RC.a0 {gc : Nat → Nat} {h : AH} {A : Nat → Nat} {I : Nat → Int32} {v : Mu} {F : Nat} (hR : RC gc h A I v F) : ∃ vs, at_ h (A 0) 9 vs := by
  obtain ⟨xs, ⟨-, -, hF, -⟩, -⟩ := hR
  exact ⟨_, hF.2.1⟩
theorem RC.room {gc : Nat → Nat} {h : AH} {A : Nat → Nat} {I : Nat → Int32} {v : Mu} {F : Nat} (hR : RC gc h A I v F) : 200 + F ≤ h.2.1 ∧ 100000 + 10 * F ≤ h.2.2.1 := by
  obtain ⟨xs, ⟨-, -, -, le, lc, hL, b1, b2⟩, -⟩ := hR
  have s1 := sm_le (fun i hi => (hL.1 i hi).2)
  have s2 := sm2_le (fun i hi => (hL.1 i hi).2)
  exact ⟨by omega, by omega⟩
theorem RC.kx {gc : Nat → Nat} {h h' : AH} {A : Nat → Nat} {I : Nat → Int32} {v : Mu} {F : Nat} (hR : RC gc h A I v F) (hk : KXm h h') : RC gc h' A I v F := hR.mv (hk.fr hR.fr) (by rw [hk.2.1]; exact Nat.le_refl _) (by rw [hk.2.2.1]; exact Nat.le_refl _) (fun b t vs _ z1 z2 z3 hb => hk.at hb z1 z2 z3)
theorem RM.kc {h h' : AH} {m : Nat} {M : Nat → Nat} {X : XT} (hR : RM h m M X) (hk : KC h h') : RM h' m M X := by
  obtain ⟨h1, h2, h3⟩ := hR
  refine ⟨hk _ _ _ (by decide) h1, fun k hz => hk _ _ _ ?_ (h2 k hz), h3⟩
  rcases xty_v k with y | y | y
  · exact absurd y hz
  · exact Or.inr (Or.inl y)
  · exact Or.inr (Or.inr (Or.inl y))
/-- c calls are done -/
def LwS (gc : Nat → Nat) (a1 a2 : Nat) (ws : List Value) (c : Nat) (h : AH) : Prop := ∃ (A : Nat → Nat) (I : Nat → Int32) (v : Mu) (M : Nat → Nat) (X : XT), A 0 = a1 ∧ RC gc h A I v (45 * (512 - c)) ∧ RM h a2 M X ∧ SX 0 X (I, v) ∧ IV (42 * c) c (I, v) ∧ at_ h (gc 2) 200 ws
/-- a number of the script is read -/
theorem rd {gc : Nat → Nat} {h : AH} {xs : List Int32} {n : Nat} {x : Int32} {P : Int32 → Prop} (hs : at_ h (gc 2) 200 (xs.map Value.int)) (hl : xs.length ≤ 3072) (hi : n < xs.length) (hx : x = nI n) (hP : P (xs.getD n 0)) : ∃ (t1 : Nat) (vs2 : List Value) (z3 : Int32), at_ h (gc 2) t1 vs2 ∧ (t1 = 104 ∨ (t1 = 200 ∧ gc 2 = gc 2)) ∧ ¬ x < 0 ∧ vs2[x.toNatClampNeg]? = some (.int z3) ∧ P z3 := by
  subst hx
  refine ⟨200, _, xs.getD n 0, hs, Or.inr ⟨rfl, rfl⟩, nI_pos (by omega), ?_, hP⟩
  rw [nI_clamp (by omega), List.getElem?_map, List.getElem?_eq_getElem hi, List.getD_eq_getElem?_getD, List.getElem?_eq_getElem hi]
  rfl
theorem callC {gc : Nat → Nat} {h : AH} {A M : Nat → Nat} {I I' : Nat → Int32} {v v' : Mu} {F F' a2 d j : Nat} {X : XT} {as ws : List Value} {x : Int32} {P : Int32 → AH → Prop} (hR : RC gc h A I v F) (hM : RM h a2 M X) (hs : at_ h (gc 2) 200 ws) (hw : WP gc d j as h (fun r h' => r = some (.int x) ∧ RC gc h' A I' v' F' ∧ KC h h')) (hP : ∀ h9, RC gc h9 A I' v' F' → RM h9 a2 M X → at_ h9 (gc 2) 200 ws → P x h9) : (∃ vs, at_ h (A 0) 9 vs) ∧ ∃ Q : PT, WP gc d j as h Q ∧ ∀ (r : Option Value) (h9 : AH), Q r h9 → ∃ z : Int32, r = some (.int z) ∧ P z h9 := by
  refine ⟨hR.a0, _, hw, ?_⟩
  rintro r h9 ⟨rfl, k1, k2⟩
  exact ⟨x, rfl, hP h9 k1 (hM.kc k2) (k2 _ _ _ (by decide) hs)⟩
theorem callCl {gc : Nat → Nat} {h : AH} {A M : Nat → Nat} {I I' : Nat → Int32} {v v' : Mu} {F F' a2 d j : Nat} {X : XT} {as ws : List Value} {x : Int64} {P : Int64 → AH → Prop} (hR : RC gc h A I v F) (hM : RM h a2 M X) (hs : at_ h (gc 2) 200 ws) (hw : WP gc d j as h (fun r h' => r = some (.long x) ∧ RC gc h' A I' v' F' ∧ KC h h')) (hP : ∀ h9, RC gc h9 A I' v' F' → RM h9 a2 M X → at_ h9 (gc 2) 200 ws → P x h9) : (∃ vs, at_ h (A 0) 9 vs) ∧ ∃ Q : PT, WP gc d j as h Q ∧ ∀ (r : Option Value) (h9 : AH), Q r h9 → ∃ z : Int64, r = some (.long z) ∧ P z h9 := by
  refine ⟨hR.a0, _, hw, ?_⟩
  rintro r h9 ⟨rfl, k1, k2⟩
  exact ⟨x, rfl, hP h9 k1 (hM.kc k2) (k2 _ _ _ (by decide) hs)⟩
theorem LwS.end {gc : Nat → Nat} {h h' : AH} {A M : Nat → Nat} {I : Nat → Int32} {v : Mu} {F a2 c P T : Nat} {X : XT} {ws : List Value} (hR : RC gc h A I v F) (hF : 45 * (512 - (c + 1)) ≤ F) (hs : at_ h (gc 2) 200 ws) (hk : KXm h h') (hM : RM h' a2 M X) (hx : SX 0 X (I, v)) (hv : IV P T (I, v)) (hP : P ≤ 42 * c + 42) (hT : T ≤ c + 1) : LwS gc (A 0) a2 ws (c + 1) h' := ⟨A, I, v, M, X, rfl, (hR.kx hk).le hF, hM, hx, hv.mono (by omega) hT, hk.at hs (by decide) (by decide) (by decide)⟩
theorem callN {gc : Nat → Nat} {h : AH} {A M : Nat → Nat} {s : St} {F a2 d j c P T : Nat} {X : XT} {as ws : List Value} {x : Int32} {K B : AH → Prop} (hR : RC gc h A s.1 s.2 F) (hM : RM h a2 M X) (hs : at_ h (gc 2) 200 ws) (hF : 45 * (512 - (c + 1)) ≤ F) (hw : WM gc a2 M d j as X (fun r X' => r = some (.int x) ∧ SX 0 X' s)) (hv : IV P T s) (hP : P ≤ 42 * c + 42) (hT : T ≤ c + 1) (hK : ∀ h', LwS gc (A 0) a2 ws (c + 1) h' → K h') : (∃ vs, at_ h a2 11 vs) ∧ ∃ Q : PT, WP gc d j as h Q ∧ ∀ (r : Option Value) (h9 : AH), Q r h9 → ∃ z : Int32, r = some (.int z) ∧ ((x = z → K h9) ∧ (¬ x = z → B h9)) := by
  refine ⟨⟨_, hM.1⟩, _, hw h hM, ?_⟩
  rintro r h9 ⟨X', k1, k2, rfl, k3⟩
  exact ⟨x, rfl, fun _ => hK h9 (LwS.end hR hF hs k2 k1 k3 hv hP hT), fun z => absurd rfl z⟩
theorem callNl {gc : Nat → Nat} {h : AH} {A M : Nat → Nat} {s : St} {F a2 d j c P T : Nat} {X : XT} {as ws : List Value} {x : Int64} {K B : AH → Prop} (hR : RC gc h A s.1 s.2 F) (hM : RM h a2 M X) (hs : at_ h (gc 2) 200 ws) (hF : 45 * (512 - (c + 1)) ≤ F) (hw : WM gc a2 M d j as X (fun r X' => r = some (.long x) ∧ SX 0 X' s)) (hv : IV P T s) (hP : P ≤ 42 * c + 42) (hT : T ≤ c + 1) (hK : ∀ h', LwS gc (A 0) a2 ws (c + 1) h' → K h') : (∃ vs, at_ h a2 11 vs) ∧ ∃ Q : PT, WP gc d j as h Q ∧ ∀ (r : Option Value) (h9 : AH), Q r h9 → ∃ z : Int64, r = some (.long z) ∧ ((lg_cmp x z = 0 → K h9) ∧ (¬ lg_cmp x z = 0 → B h9)) := by
  refine ⟨⟨_, hM.1⟩, _, hw h hM, ?_⟩
  rintro r h9 ⟨X', k1, k2, rfl, k3⟩
  exact ⟨x, rfl, fun _ => hK h9 (LwS.end hR hF hs k2 k1 k3 hv hP hT), fun z => absurd ((lg_cmp_eq x x).mpr rfl) z⟩
theorem x3n {i k : Nat} {x : Int32} (h : x = nI k) : nI i + x = nI (i + k) := by
  rw [h]
  exact nI_add i k
