/-! close -/
theorem cl_loop {gc : Nat → Nat} {d : Nat} {A : Nat → Nat} {I : Nat → Int32} {q : PT} {c F b N : Nat} (hc : c < 4) (hN : N ≤ 64) (h0 : AH) : ∀ n i (h : AH) (xs ys : Nat → List Nat) (v : Mu), i + n = N → (xs (14 + c)).length = N → RX gc h A I xs ys v F → ys (14 + c) = (xs (14 + c)).drop i → (∀ k, k ≠ 14 + c → ys k = xs k) → CQ v → LB v b → KC h0 h → (∀ h' xs ys x3, RX gc h' A I xs ys (clF c n v) F → (∀ k, k ≠ 14 + c → ys k = xs k) → KC h0 h' → TT gc (d + 7) 80 q 41 [.ref (A 0), .int (nI c), .ref (A (30 + c)), .int x3] [] h') → TT gc (d + 7) 80 q 9 [.ref (A 0), .int (nI c), .ref (A (30 + c)), .int (nI i)] [] h := by
  have hk := isC_c hc
  intro n
  induction n with
  | zero =>
    intro i h xs ys v hi hx hX hy hag hcq hb hkc hq
    refine B80_9 ⟨_, _, hX.rf.chO hc, rfl, hX.lst (lt_C hk), _, rs_size hX.1 (lt_C hk), ?_⟩
    rintro r h' ⟨rfl, rfl⟩
    exact ⟨_, rfl, fun _ => hq h' xs ys _ hX hag hkc, fun z => absurd (nI_le (by omega) (by omega)) z⟩
  | succ n ih =>
    intro i h xs ys v hi hx hX hy hag hcq hb hkc hq
    have hil : i < (xs (14 + c)).length := by omega
    refine B80_9 ⟨_, _, hX.rf.chO hc, rfl, hX.lst (lt_C hk), _, rs_size hX.1 (lt_C hk), ?_⟩
    rintro r h' ⟨rfl, rfl⟩
    refine ⟨_, rfl, fun z => absurd z (nI_ge hil (by omega)), fun _ => ⟨_, _, hX.rf.chO hc, rfl, hX.lst (lt_C hk), _, rs_get hX.1 (lt_C hk) hil, ?_⟩⟩
    rintro r h2 ⟨rfl, rfl⟩
    rw [List.drop_eq_getElem_cons hil] at hy
    generalize hga : (xs (14 + c))[i] = a at hy
    have hA2 := hX.2.1.C hk
    rw [hy] at hA2
    have hs : clF c (n + 1) v = (match uC v (14 + c) with
      | [] => v
      | r :: l => clF c n (bk (upC v (14 + c) l) r)) := rfl
    cases hu : uC v (14 + c) with
    | nil => rw [hu] at hA2; exact hA2.elim
    | cons r l =>
      rw [hu] at hA2 hs
      dsimp only at hs
      obtain ⟨ha, hl⟩ := hA2
      obtain ⟨w, hw6, hwr⟩ := hcq.1 (14 + c) hk r (by rw [hu]; exact List.mem_cons_self)
      have hj : (uC v (14 + c))[0]? = some r := by rw [hu]; rfl
      have hjy : (ys (14 + c))[0]? = some a := by rw [hy]; rfl
      have hle : (uC v (14 + c)).eraseIdx 0 = l := by rw [hu]; rfl
      have hye : (ys (14 + c)).eraseIdx 0 = (xs (14 + c)).drop (i + 1) := by rw [hy]; rfl
      obtain ⟨nd1, nd2⟩ := hX.2.2.1.er hk hjy
      rw [hye] at nd1 nd2
      obtain ⟨t0, htk, -⟩ := hb.tk hc hj
      have hbk := hb.bkk hc hj hw6 hwr
      have hcb := (hcq.er (j := 0) hc).bkk hw6 hwr
      rw [hle] at htk hbk hcb
      have hX2 : RX gc h2 A I xs (va_up ys (14 + c) ((xs (14 + c)).drop (i + 1))) (upC v (14 + c) l) F := by
        refine ⟨hX.1, hX.2.1.upC hk hl, nd1, fun k hkn => ?_⟩
        rw [va_up_ne _ _ (by omega)]
        exact hX.2.2.2 k hkn
      obtain ⟨ws, hws⟩ := ha.tag
      have hw60 := htk.w hw6
      refine ⟨_, rfl, _, hws, ⟨_, hX.rf.2.1⟩, _, k_back hX2 ha nd2 hw6 hwr (by omega), ?_⟩
      rintro r' h3 ⟨rfl, ⟨as, bs, q1⟩, q2⟩
      refine ⟨rfl, ?_⟩
      rw [nI_1]
      have q3 := q1.2.2.2 (2 + w) (by omega)
      rw [va_up_self, va_up_self] at q3
      subst q3
      refine ih (i + 1) h3 _ _ _ (by omega) (by rw [va_up_ne _ _ (by omega)]; exact hx) q1 ?_ (fun k hkn => ?_) hcb hbk (hkc.trans q2) (fun h' xs ys x3 w1 w2 w3 => hq h' xs ys x3 ?_ w2 w3)
      · rw [va_up_ne _ _ (by omega), va_up_self, va_up_ne _ _ (by omega)]
      · by_cases hz : k = 2 + w
        · subst hz; rw [va_up_self, va_up_self]
        · rw [va_up_ne _ _ hz, va_up_ne _ _ hz, va_up_ne _ _ hkn]
          exact hag k hkn
      · rw [hs]
        exact w1
def rmA (x : Int32) : Nat → Nat → Mu → Mu
  | 0, _, v => v
  | n + 1, q, v => rmA x n (q + 1) (upR v (8 + q) (rmN x (uR v (8 + q))))
theorem rmN_len {x : Int32} {ys : List Con} : (rmN x ys).length ≤ ys.length := by
  unfold rmN
  split
  · rw [List.length_eraseIdx]
    split <;> omega
  · exact Nat.le_refl _
theorem rmA_loop {gc : Nat → Nat} {d : Nat} {A : Nat → Nat} {I : Nat → Int32} {q : PT} {c F : Nat} {x1 : Int32} (hc : c < 4) (h0 : AH) : ∀ n w (h : AH) (xs ys : Nat → List Nat) (v : Mu), w + n = 6 → RX gc h A I xs ys v F → (∀ k, k ≠ 14 + c → ys k = xs k) → (∀ q, q < 6 → (uR v (8 + q)).length ≤ 64) → KC h0 h → (∀ h' xs ys x3, RX gc h' A I xs ys (rmA x1 n w v) F → (∀ k, k ≠ 14 + c → ys k = xs k) → KC h0 h' → TT gc (d + 5) 80 q 66 [.ref (A 0), .int x1, .ref (A (30 + c)), .int x3] [] h') → TT gc (d + 5) 80 q 43 [.ref (A 0), .int x1, .ref (A (30 + c)), .int (nI w)] [] h := by
  intro n
  induction n with
  | zero =>
    intro w h xs ys v hw hX hag hl hkc hq
    exact B80_43 ⟨fun _ => hq h xs ys _ hX hag hkc, fun z => absurd (show (6 : Int32) ≤ nI w from nI_le (a := 6) (by omega) (by omega)) z⟩
  | succ n ih =>
    intro w h xs ys v hw hX hag hl hkc hq
    have hw6 : w < 6 := by omega
    obtain ⟨t, vs, g1, g2, g3, g4⟩ := hX.rf.quA hw6
    refine B80_43 ⟨fun z => absurd z (show ¬ (6 : Int32) ≤ nI w from nI_ge (b := 6) (by omega) (by decide)), fun _ => ⟨_, _, hX.rf.2.1, rfl, t, vs, _, g1, g2, g3, g4, ⟨_, hX.rf.quO hw6⟩, _, k_rmN hX hw6 (hl w hw6), ?_⟩⟩
    rintro r h2 ⟨rfl, ⟨as, q1⟩, q2⟩
    refine ⟨_, rfl, ?_⟩
    rw [nI_1]
    refine ih (w + 1) h2 _ _ _ (by omega) q1 (fun k hkn => ?_) (fun p hp => ?_) (hkc.trans q2.kc) (fun h' xs ys x3 w1 w2 w3 => hq h' xs ys x3 w1 w2 w3)
    · by_cases hz : k = 8 + w
      · subst hz; rw [va_up_self, va_up_self]
      · rw [va_up_ne _ _ hz, va_up_ne _ _ hz]
        exact hag k hkn
    · by_cases hz : 8 + p = 8 + w
      · rw [hz, uR_s]
        exact Nat.le_trans rmN_len (hl w hw6)
      · rw [uR_n hz]
        exact hl p hp
def rstI (c : Nat) (I : Nat → Int32) : Nat → Int32 := upd (upd (upd I (300 + 10 * c) 12) (301 + 10 * c) 0) (302 + 10 * c) 0
theorem k_reset {gc : Nat → Nat} {d : Nat} {h : AH} {A : Nat → Nat} {I : Nat → Int32} {xs ys : Nat → List Nat} {v : Mu} {F : Nat} {c : Nat} (hX : RX gc h A I xs ys v F) (hc : c < 4) (hag : ∀ k, k ≠ 14 + c → ys k = xs k) : WP gc (d + 2) 81 [.ref (A (30 + c))] h (fun r h' => r = none ∧ RC gc h' A (rstI c I) (upD (upC v (14 + c) []) (18 + c) []) F ∧ KC h h') := by
  have hch := hX.rf.chO hc
  refine M81 ⟨_, hch, Nat.le_of_ble_eq_true rfl, trivial, ?_⟩
  rintro h2 rfl
  refine ⟨_, at_s, Nat.le_of_ble_eq_true rfl, Or.inl rfl, ?_⟩
  rintro h3 rfl
  refine ⟨_, at_s, Nat.le_of_ble_eq_true rfl, trivial, ?_⟩
  rintro h4 rfl
  rw [set_set, set_set]
  have e0 : rstI c I (300 + 10 * c) = 12 := by
    unfold rstI
    rw [pk_un (by omega), pk_un (by omega), pk_us]
  have e1 : rstI c I (301 + 10 * c) = 0 := by
    unfold rstI
    rw [pk_un (by omega), pk_us]
  have e2 : rstI c I (302 + 10 * c) = 0 := pk_us
  obtain ⟨y1, y2, y3⟩ := hX.wrCh (U := rstI c I) hc (fun j hj => by
    unfold rstI
    rw [pk_un (by omega), pk_un (by omega), pk_un (by omega)]) e0 e1 e2
  refine ⟨_, _, at_s, rfl, y1.lst (lt_C (isC_c hc)), _, rx_clrC y1 (isC_c hc), ?_⟩
  rintro r h5 ⟨rfl, y4, y5⟩
  refine ⟨rfl, _, _, y4.rf.chO hc, rfl, y4.lst (lt_D (isD_c hc)), _, rx_clrD y4 (isD_c hc), ?_⟩
  rintro r h6 ⟨rfl, y6, y7⟩
  refine ⟨rfl, rfl, ⟨va_up (va_up xs (14 + c) []) (18 + c) [], ?_⟩, (y2.trans y5.kc).trans y7.kc⟩
  have : va_up (va_up ys (14 + c) []) (18 + c) [] = va_up (va_up xs (14 + c) []) (18 + c) [] := by
    funext k
    by_cases hz : k = 18 + c
    · subst hz; rw [va_up_self, va_up_self]
    · rw [va_up_ne _ _ hz, va_up_ne _ _ hz]
      by_cases hy : k = 14 + c
      · subst hy; rw [va_up_self, va_up_self]
      · rw [va_up_ne _ _ hy, va_up_ne _ _ hy]
        exact hag k hy
  rw [this] at y6
  exact y6
def opCc (c : Nat) (s : St) : St := (rstI c s.1, upD (upC (rmA (nI c) 6 0 (clF c (uC s.2 (14 + c)).length s.2)) (14 + c) []) (18 + c) [])
theorem Sv.clFk {c : Nat} : ∀ n (v : Mu), Sv v (clF c n v) := by
  intro n
  induction n with
  | zero => intro v; exact Sv.refl v
  | succ n ih =>
    intro v
    show Sv v (match uC v (14 + c) with
      | [] => v
      | r :: l => clF c n (bk (upC v (14 + c) l) r))
    cases uC v (14 + c) with
    | nil => exact Sv.refl v
    | cons r l => exact (Sv.up.trans Sv.up).trans (ih _)
theorem k_cc0 {gc : Nat → Nat} {d : Nat} {h : AH} {A : Nat → Nat} {I : Nat → Int32} {v : Mu} {F : Nat} {c b : Nat} (hR : RC gc h A I v F) (hc : c < 4) (hcq : CQ v) (hb : LB v b) (hl : ∀ q, q < 6 → (uR v (8 + q)).length ≤ 64) : WP gc (d + 8) 80 [.ref (A 0), .int (nI c)] h (fun r h' => r = none ∧ RC gc h' A (opCc c (I, v)).1 (opCc c (I, v)).2 F ∧ KC h h') := by
  obtain ⟨xs, hX⟩ := hR
  obtain ⟨t, vs, g1, g2, g3, g4⟩ := hX.rf.chA hc
  have hln := hX.lenC (isC_c hc) rfl
  have hH := hb.1 c hc
  refine M80 ⟨_, _, hX.rf.2.1, rfl, t, vs, _, g1, g2, g3, g4, cl_loop (N := (xs (14 + c)).length) hc (by omega) h (xs (14 + c)).length 0 h xs xs v (by omega) rfl hX rfl (fun _ _ => rfl) hcq hb KC.refl (fun h2 xs2 ys2 x3 w1 w2 w3 => B80_41 ?_)⟩
  rw [hln] at w1
  have hsv := Sv.clFk (c := c) (uC v (14 + c)).length v
  refine rmA_loop (x1 := nI c) hc h 6 0 h2 xs2 ys2 _ rfl w1 w2 (fun q hq6 => ?_) w3 (fun h3 xs3 ys3 x4 u1 u2 u3 => B80_66 ⟨⟨_, u1.rf.chO hc⟩, _, k_reset u1 hc u2, ?_⟩)
  · rw [show uR (clF c (uC v (14 + c)).length v) (8 + q) = uR v (8 + q) from congrFun (congrArg Prod.fst hsv.2) _]
    exact hl q hq6
  · rintro r h4 ⟨rfl, q1, q2⟩
    exact ⟨rfl, rfl, q1, u3.trans q2⟩
def opCl (s : St) (x : Int32) : Int32 × St := if wi x 0 3 then (0, opCc x.toNatClampNeg s) else (-1, s)
theorem k_close {gc : Nat → Nat} {d : Nat} {h : AH} {A : Nat → Nat} {I : Nat → Int32} {v : Mu} {F : Nat} {x : Int32} {b : Nat} (hR : RC gc h A I v F) (hcq : CQ v) (hb : LB v b) (hl : ∀ q, q < 6 → (uR v (8 + q)).length ≤ 64) : WP gc (d + 9) 79 [.ref (A 0), .int x] h (fun r h' => r = some (.int (opCl (I, v) x).1) ∧ RC gc h' A (opCl (I, v) x).2.1 (opCl (I, v) x).2.2 F ∧ KC h h') := by
  refine M79 ⟨_, k_isChannel, ?_⟩
  rintro r h' ⟨rfl, rfl⟩
  refine ⟨_, rfl, fun z => B79_9 ?_, fun z => ?_⟩
  · have z : wi x 0 3 = true := b2i_nz z
    obtain ⟨c, hc, rfl⟩ := wi_rng (n := 3) (by decide) z
    have ho : opCl (I, v) (nI c) = (0, opCc c (I, v)) := by
      unfold opCl
      rw [z, if_pos rfl, nI_clamp (by omega)]
    rw [ho]
    refine ⟨⟨_, hR.rf.2.1⟩, _, k_cc0 hR hc hcq hb hl, ?_⟩
    rintro r h2 ⟨rfl, q1, q2⟩
    exact ⟨rfl, rfl, q1, q2⟩
  · unfold opCl
    rw [show wi x 0 3 = false from b2i_z.mp z, if_neg (by decide)]
    exact ⟨rfl, hR, KC.refl⟩
