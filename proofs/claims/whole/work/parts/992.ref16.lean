/-! the reference: what is read -/
theorem n_field {gc : Nat → Nat} {m : Nat} {M : Nat → Nat} {d : Nat} {X : XT} {k i : Nat} {r : Rec} {x : Int32} (hi : i < 400) (he : cpA X i = mp k r) (hx : wi x 0 4 = true) : WM gc m M (d + 1) 138 [.ref m, .int (nI i), .int x] X (fun r' X' => r' = some (.long (rdF r x)) ∧ X' = X) := by
  have hcl : (nI i).toNatClampNeg = i := nI_clamp (by omega)
  have pi : ¬ nI i < 0 := nI_pos (by omega)
  have g21 : X 21 i = (rM r).1 := by
    have : X 21 i = (mp k r).1 := congrArg (fun z : Cp => z.1) he
    rw [this]; unfold mp; split <;> rfl
  have g22 : X 22 i = mKey (rM r) := by
    have : X 22 i = (mp k r).2.1 := congrArg (fun z : Cp => z.2.1) he
    rw [this]; unfold mp; split <;> rfl
  have g23 : X 23 i = mHops (rM r) := by
    have : X 23 i = (mp k r).2.2.1 := congrArg (fun z : Cp => z.2.2.1) he
    rw [this]; unfold mp; split <;> rfl
  have g29 : X 29 i = b2i (mPers (rM r)) := by
    have : X 29 i = (mp k r).2.2.2.2.2.2.2.2.1 := congrArg (fun z : Cp => z.2.2.2.2.2.2.2.2.1) he
    rw [this]; unfold mp; split <;> rfl
  have g30 : X 30 i = b2i (rRet r) := by
    have : X 30 i = (mp k r).2.2.2.2.2.2.2.2.2 := congrArg (fun z : Cp => z.2.2.2.2.2.2.2.2.2) he
    rw [this]; unfold mp; split <;> rfl
  obtain ⟨f, hf, rfl⟩ := wi_rng (n := 4) (by decide) hx
  match f, hf with
  | 0, _ =>
    refine N138 ⟨fun z => absurd rfl z, fun _ => ⟨pi, by omega, ?_, rfl⟩⟩
    rw [hcl, g21]; rfl
  | 1, _ =>
    refine N138 ⟨fun _ => N138_12 ⟨fun z => absurd rfl z, fun _ => ⟨pi, by omega, ?_, rfl⟩⟩, fun z => absurd z (by decide)⟩
    rw [hcl, g22]; rfl
  | 2, _ =>
    refine N138 ⟨fun _ => N138_12 ⟨fun _ => N138_25 ⟨fun z => absurd rfl z, fun _ => ⟨pi, by omega, ?_, rfl⟩⟩, fun z => absurd z (by decide)⟩, fun z => absurd z (by decide)⟩
    rw [hcl, g23]; rfl
  | 3, _ =>
    refine N138 ⟨fun _ => N138_12 ⟨fun _ => N138_25 ⟨fun _ => N138_38 ⟨fun z => absurd rfl z, fun _ => ⟨pi, by omega, ?_⟩⟩, fun z => absurd z (by decide)⟩, fun z => absurd z (by decide)⟩, fun z => absurd z (by decide)⟩
    rw [hcl, g30]
    have e : rdF r (nI 3) = if rRet r then 1 else 0 := rfl
    refine ⟨fun z => N138_56 (N138_57 (N138_75 ⟨?_, rfl⟩)), fun z => N138_57 (N138_75 ⟨?_, rfl⟩)⟩
    · rw [e, b2i_z.mp z]; rfl
    · rw [e, b2i_nz z]; rfl
  | 4, _ =>
    refine N138 ⟨fun _ => N138_12 ⟨fun _ => N138_25 ⟨fun _ => N138_38 ⟨fun _ => N138_61 ⟨pi, by omega, ?_⟩, fun z => absurd z (by decide)⟩, fun z => absurd z (by decide)⟩, fun z => absurd z (by decide)⟩, fun z => absurd z (by decide)⟩
    rw [hcl, g29]
    have e : rdF r (nI 4) = if mPers (rM r) then 1 else 0 := rfl
    refine ⟨fun z => N138_74 (N138_75 ⟨?_, rfl⟩), fun z => N138_75 ⟨?_, rfl⟩⟩
    · rw [e, b2i_z.mp z]; rfl
    · rw [e, b2i_nz z]; rfl
  | f + 5, h => omega
theorem rdF_out {r : Rec} {x : Int32} (hx : wi x 0 4 = false) : rdF r x = NON := by
  have h0 : ∀ n, n < 5 → ¬ x = nI n := fun n hn y => by
    have hx := of_decide_eq_false hx
    exact hx (by rw [y]; exact ⟨nI_pos (by omega), (show ¬ nI 4 < nI n from nI_nlt (by omega) (by decide))⟩)
  unfold rdF
  rw [if_neg (show ¬ x = 0 from h0 0 (by decide)), if_neg (show ¬ x = 1 from h0 1 (by decide)), if_neg (show ¬ x = 2 from h0 2 (by decide)), if_neg (show ¬ x = 3 from h0 3 (by decide)), if_neg (show ¬ x = 4 from h0 4 (by decide))]
theorem wi_lenI {y : Int32} {n : Nat} (hn : n < 2 ^ 31) (hy : ¬ y < 0) : ∃ j, j < 2 ^ 31 ∧ y = nI j ∧ (wi y 0 (nI n - 1) = true ↔ j < n) := by
  obtain ⟨j, hj, rfl⟩ := nI_of hy
  refine ⟨j, hj, rfl, ?_⟩
  cases n with
  | zero =>
    refine ⟨fun h => ?_, fun h => absurd h (Nat.not_lt_zero _)⟩
    obtain ⟨i, hi, -⟩ := wi_len (by omega) h
    omega
  | succ n =>
    rw [nI_pred]
    refine ⟨fun h => ?_, fun h => wi_t hy (show ¬ nI n < nI j from nI_nlt (by omega) (by omega))⟩
    obtain ⟨i, hi, he⟩ := wi_rng (by omega) h
    have := (nI_eq hj (by omega)).mp he
    omega
theorem n_ready {gc : Nat → Nat} {m : Nat} {M : Nat → Nat} {d : Nat} {X : XT} {s : St} {P T : Nat} {x y f : Int32} (h : SX 0 X s) (hv : IV P T s) : WM gc m M (d + 3) 137 [.ref m, .int x, .int y, .int f] X (fun r X' => r = some (.long (opRy s.2 x y f)) ∧ SX 0 X' s) := by
  have hall := hv.1.2.2.2.1.all hv.1.2.2.1
  have hfl := flat_len (v := s.2)
  have hp := h.2.2.2.2.2.1
  have hcq := hv.1.2.2.1
  have bad : opRy s.2 x y f = NON → TM gc m M (d + 2) 137 (fun r X' => r = some (.long (opRy s.2 x y f)) ∧ SX 0 X' s) 20 [.ref m, .int x, .int y, .int f, .retAddr 0] [] X := fun hb => by
    rw [hb]
    exact N137_20 ⟨rfl, h⟩
  refine N137 ⟨_, n_isQ h.2.1 hv.1.1, ?_⟩
  rintro r X3 ⟨rfl, rfl⟩
  refine ⟨_, rfl, fun z => bad ?_, fun z => ⟨fun z2 => bad ?_, fun z2 => ⟨_, n_in (k := 4) (by decide), ?_⟩⟩⟩
  · -- not declared: nothing waits
    have z : isQu s.1 x = false := b2i_z.mp z
    unfold opRy
    by_cases hx : wi x 0 5 = true
    · obtain ⟨w, hw, rfl⟩ := wi_rng (n := 5) (by decide) hx
      have hw : w < 6 := hw
      have hcl : (nI w).toNatClampNeg = w := nI_clamp (by omega)
      have hd : s.1 (200 + 10 * w) = 0 := by
        have : isQu s.1 (nI w) = decide (¬ s.1 (200 + 10 * w) = 0) := by
          show (wi (nI w) 0 5 && _) = _
          rw [hx, hcl, Bool.true_and]
        rw [this] at z
        exact Decidable.not_not.mp (of_decide_eq_false z)
      have hW : uC s.2 (2 + w) = [] := List.eq_nil_iff_forall_not_mem.mpr (fun r hr => by
        obtain ⟨-, -, q', w3, w4, w5⟩ := hv.1.2.2.2.2.2.1 (2 + w) (isC_q hw) r hr
        rw [hcq.2 w hw r hr] at w4
        have := (nI_eq (by omega) (by omega)).mp w4
        subst this
        exact w5 hd)
      rw [hcl, hW]
      split
      · rfl
      · rfl
    · rw [Bool.eq_false_iff.mpr hx, Bool.false_and]
      rfl
  · unfold opRy
    rw [wi_f1 z2, Bool.and_false]
    rfl
  rintro r X4 ⟨rfl, rfl⟩
  have z : isQu s.1 x = true := b2i_nz z
  obtain ⟨w, hw, rfl, hd⟩ := isQu_dec z
  have hcl : (nI w).toNatClampNeg = w := nI_clamp (by omega)
  have hx : wi (nI w) 0 5 = true := wi_t (nI_pos (by omega)) (show ¬ nI 5 < nI w from nI_nlt (by omega) (by decide))
  have hlw := hv.1.2.2.2.1.w hw
  obtain ⟨j, hj, rfl, hjl⟩ := wi_lenI (n := (uC s.2 (2 + w)).length) (by omega) z2
  have hcj : (nI j).toNatClampNeg = j := nI_clamp hj
  refine ⟨_, rfl, fun z3 => N137_24 ⟨_, n_readyAt (d := d + 1) (nth := j) hp.1 (by omega) hj, ?_⟩, fun z3 => bad ?_⟩
  rotate_left
  · have z3 : wi f 0 4 = false := b2i_z.mp z3
    unfold opRy
    split
    · split
      · exact rdF_out z3
      · rfl
    · rfl
  have z3 : wi f 0 4 = true := b2i_nz z3
  rintro r X5 ⟨rfl, rfl⟩
  rcases sel_at (K := cP) (κ := kP) hp.2 (sel_q hcq hw) kP_mp (hv.1.2.2.2.2.1.1 w hw) j with ⟨e, hlen⟩ | ⟨i, hjl2, e, hi, he⟩
  · rw [e]
    refine ⟨_, rfl, fun y => absurd y (by decide), fun _ => N137_50 ⟨?_, h⟩⟩
    unfold opRy
    rw [hcl, show wi (nI j) 0 (nI (uC s.2 (2 + w)).length - 1) = false from Bool.eq_false_iff.mpr (fun y => by have := hjl.mp y; omega), Bool.and_false]
    rfl
  · rw [e]
    refine ⟨_, rfl, fun _ => N137_43 ⟨_, n_field (d := d + 1) (k := 2 + w) (i := i) (by omega) he z3, ?_⟩, fun y => absurd (nI_le (a := 0) (by omega) (by omega)) y⟩
    rintro r X6 ⟨rfl, rfl⟩
    refine ⟨_, rfl, N137_50 ⟨?_, h⟩⟩
    unfold opRy
    rw [hcl, hx, hjl.mpr hjl2, Bool.and_self, if_pos rfl, hcj, List.getElem?_eq_getElem hjl2]
theorem n_held {gc : Nat → Nat} {m : Nat} {M : Nat → Nat} {d : Nat} {X : XT} {s : St} {P T : Nat} {x y f : Int32} (h : SX 0 X s) (hv : IV P T s) : WM gc m M (d + 3) 139 [.ref m, .int x, .int y, .int f] X (fun r X' => r = some (.long (opHd s.2 x y f)) ∧ SX 0 X' s) := by
  have hall := hv.1.2.2.2.1.all hv.1.2.2.1
  have hfl := flat_len (v := s.2)
  have hp := h.2.2.2.2.2.1
  have bad : opHd s.2 x y f = NON → TM gc m M (d + 2) 139 (fun r X' => r = some (.long (opHd s.2 x y f)) ∧ SX 0 X' s) 21 [.ref m, .int x, .int y, .int f, .retAddr 0] [] X := fun hb => by
    rw [hb]
    exact N139_21 ⟨rfl, h⟩
  refine N139 ⟨_, n_in (k := 3) (by decide), ?_⟩
  rintro r X3 ⟨rfl, rfl⟩
  refine ⟨_, rfl, fun z => bad ?_, fun z => ⟨fun z2 => bad ?_, fun z2 => ⟨_, n_in (k := 7) (by decide), ?_⟩⟩⟩
  · unfold opHd
    rw [show wi x 0 3 = false from b2i_z.mp z, Bool.false_and]
    rfl
  · unfold opHd
    rw [wi_f1 z2, Bool.and_false]
    rfl
  rintro r X4 ⟨rfl, rfl⟩
  have z : wi x 0 3 = true := b2i_nz z
  obtain ⟨c, hc, rfl⟩ := wi_rng (n := 3) (by decide) z
  have hc : c < 4 := hc
  have hcl : (nI c).toNatClampNeg = c := nI_clamp (by omega)
  have hlw := hv.1.2.2.2.1.1 c hc
  obtain ⟨j, hj, rfl, hjl⟩ := wi_lenI (n := (uC s.2 (14 + c)).length) (by omega) z2
  have hcj : (nI j).toNatClampNeg = j := nI_clamp hj
  refine ⟨_, rfl, fun z3 => N139_25 ⟨_, n_heldAt (d := d + 1) (nth := j) hp.1 (by omega) hj, ?_⟩, fun z3 => bad ?_⟩
  rotate_left
  · have z3 : wi f 0 7 = false := b2i_z.mp z3
    have h0 : ∀ n, n < 8 → ¬ f = nI n := fun n hn y => by
      have hx := of_decide_eq_false z3
      exact hx (by rw [y]; exact ⟨nI_pos (by omega), (show ¬ nI 7 < nI n from nI_nlt (by omega) (by decide))⟩)
    unfold opHd
    split
    · split
      · unfold hdF rdF
        rw [if_neg (show ¬ f = 5 from h0 5 (by decide)), if_neg (show ¬ f = 6 from h0 6 (by decide)), if_neg (show ¬ f = 7 from h0 7 (by decide)), if_neg (show ¬ f = 0 from h0 0 (by decide)), if_neg (show ¬ f = 1 from h0 1 (by decide)), if_neg (show ¬ f = 2 from h0 2 (by decide)), if_neg (show ¬ f = 3 from h0 3 (by decide)), if_neg (show ¬ f = 4 from h0 4 (by decide))]
      · rfl
    · rfl
  have z3 : wi f 0 7 = true := b2i_nz z3
  rintro r X5 ⟨rfl, rfl⟩
  rcases sel_at (K := cT) (κ := kT) hp.2 (sel_c hc) kT_mp (hv.1.2.2.2.2.1.2.1 c hc).1 j with ⟨e, hlen⟩ | ⟨i, hjl2, e, hi, he⟩
  · rw [e]
    refine ⟨_, rfl, fun y => absurd y (by decide), fun _ => ⟨?_, h⟩⟩
    unfold opHd
    rw [hcl, show wi (nI j) 0 (nI (uC s.2 (14 + c)).length - 1) = false from Bool.eq_false_iff.mpr (fun y => by have := hjl.mp y; omega), Bool.and_false]
    rfl
  · rw [e]
    have ho : opHd s.2 (nI c) (nI j) f = hdF (uC s.2 (14 + c))[j] f := by
      unfold opHd
      rw [hcl, z, hjl.mpr hjl2, Bool.and_self, if_pos rfl, hcj, List.getElem?_eq_getElem hjl2]
    rw [ho]
    generalize (uC s.2 (14 + c))[j] = rr at he
    have hem := he
    rw [mp_c] at he
    have pi : ¬ nI i < 0 := nI_pos (by omega)
    have hci : (oI (some i)).toNatClampNeg = i := nI_clamp (by omega)
    obtain ⟨ff, hff, rfl⟩ := wi_rng (n := 7) (by decide) z3
    refine ⟨_, rfl, fun _ => N139_42 ⟨fun y => N139_55 ?_, fun y => ⟨_, n_field (d := d + 1) (k := 14 + c) (i := i) (by omega) hem ?_, ?_⟩⟩, fun y => absurd (nI_le (a := 0) (by omega) (by omega)) y⟩
    · have h5 : 5 ≤ ff := (nI_leI (a := 5) (b := ff) (by decide) (by omega)).mp y
      rw [hci]
      match ff, hff, h5 with
      | 5, _, _ =>
        refine ⟨fun w => absurd rfl w, fun _ => ⟨pi, by omega, N139_103 ⟨?_, h⟩⟩⟩
        have g : X5 27 i = rT rr := congrArg (fun z : Cp => z.2.2.2.2.2.2.1) he
        rw [g]
        rfl
      | 6, _, _ =>
        refine ⟨fun _ => N139_71 ⟨fun w => absurd rfl w, fun _ => ⟨pi, by rw [hci]; omega, N139_103 ⟨?_, h⟩⟩⟩, fun w => absurd w (by decide)⟩
        have g : X5 24 i = rQ rr := congrArg (fun z : Cp => z.2.2.2.1) he
        rw [hci, g]
        rfl
      | 7, _, _ =>
        refine ⟨fun _ => N139_71 ⟨fun _ => N139_88 ⟨pi, by rw [hci]; omega, ?_⟩, fun w => absurd w (by decide)⟩, fun w => absurd w (by decide)⟩
        have g : X5 28 i = rD rr + 1 := congrArg (fun z : Cp => z.2.2.2.2.2.2.2.1) he
        have e7 : hdF rr (nI 7) = if rD rr = -1 then 0 else 1 := rfl
        rw [hci, g]
        refine ⟨fun w => N139_102 (N139_103 ⟨?_, h⟩), fun w => N139_103 ⟨?_, h⟩⟩
        · rw [e7, if_pos (add1_0.mp w)]
        · rw [e7, if_neg (fun y => w (add1_0.mpr y))]
      | n + 8, h8, _ => omega
    · exact wi_t (nI_pos (by omega)) (i_le (show nI ff ≤ nI 4 by
        have h5 : ¬ 5 ≤ ff := fun w => y (nI_le (a := 5) w (by omega))
        exact nI_le (by omega) (by decide)))
    · rintro r X6 ⟨rfl, rfl⟩
      refine ⟨_, rfl, ?_, h⟩
      have h5 : ¬ 5 ≤ ff := fun w => y (nI_le (a := 5) w (by omega))
      unfold hdF
      rw [if_neg (show ¬ nI ff = 5 from fun w => by have := (nI_eq (b := 5) (by omega) (by decide)).mp w; omega), if_neg (show ¬ nI ff = 6 from fun w => by have := (nI_eq (b := 6) (by omega) (by decide)).mp w; omega), if_neg (show ¬ nI ff = 7 from fun w => by have := (nI_eq (b := 7) (by omega) (by decide)).mp w; omega)]
