/-! what goes is filtered out, from the end -/
def flF {α : Type} (p : α → Bool) (l : List α) (n : Nat) : List α := l.take n ++ (l.drop n).filter (fun y => !p y)
theorem flF_0 {α : Type} {p : α → Bool} {l : List α} : flF p l 0 = l.filter (fun y => !p y) := rfl
theorem flF_n {α : Type} {p : α → Bool} {l : List α} : flF p l l.length = l := by
  unfold flF
  rw [List.take_length, List.drop_length]
  exact List.append_nil _
theorem flF_get {α : Type} {p : α → Bool} {l : List α} {n : Nat} (h : n < l.length) : (flF p l (n + 1))[n]? = some l[n] := by
  unfold flF
  rw [List.getElem?_append_left (by rw [List.length_take]; omega), List.getElem?_take_of_lt (by omega), List.getElem?_eq_getElem h]
theorem flF_er {α : Type} {p : α → Bool} {l : List α} {n : Nat} (h : n < l.length) (hp : p l[n] = true) : (flF p l (n + 1)).eraseIdx n = flF p l n := by
  unfold flF
  rw [List.take_add_one, List.getElem?_eq_getElem h, List.append_assoc, List.drop_eq_getElem_cons h, List.filter_cons_of_neg (by rw [hp]; decide)]
  have hl : (l.take n).length = n := by rw [List.length_take]; omega
  rw [List.eraseIdx_append_of_length_le (by omega), hl, Nat.sub_self]
  rfl
theorem flF_sk {α : Type} {p : α → Bool} {l : List α} {n : Nat} (h : n < l.length) (hp : p l[n] = false) : flF p l (n + 1) = flF p l n := by
  unfold flF
  rw [List.take_add_one, List.getElem?_eq_getElem h, List.append_assoc, List.drop_eq_getElem_cons h, List.filter_cons_of_pos (by rw [hp]; rfl)]
  rfl
theorem flF_len {α : Type} {p : α → Bool} {l : List α} {n : Nat} (h : n ≤ l.length) : n ≤ (flF p l n).length := by
  unfold flF
  rw [List.length_append, List.length_take]
  omega
theorem ne_1 (n : Nat) : nI n + (-1) = nI n - 1 := by
  rw [Int32.sub_eq_add_neg]
theorem neg_1 : nI 0 - 1 < 0 := by decide
theorem upB_upB {v : Mu} {k : Nat} {a b : List Bnd} : upB (upB v k a) k b = upB v k b := by
  unfold upB
  rw [vu_vu]
theorem upB_id {v : Mu} {k : Nat} : upB v k (uB v k) = v := by
  unfold upB uB
  have : va_up v.1 k (v.1 k) = v.1 := by
    funext i
    by_cases h1 : i = k
    · subst h1; rw [va_up_self]
    · rw [va_up_ne _ _ h1]
  rw [this]
def bQ (x : Int32) (b : Bnd) : Bool := decide (b.2.1 = x)
def bE (x : Int32) (b : Bnd) : Bool := decide (b.1 = x)
theorem fq_loop {gc : Nat → Nat} {d : Nat} {A : Nat → Nat} {I : Nat → Int32} {q : PT} {F : Nat} {v : Mu} {x : Int32} (hl : (uB v 0).length ≤ 64) (h0 : AH) : ∀ n (h : AH), n ≤ (uB v 0).length → RC gc h A I (upB v 0 (flF (bQ x) (uB v 0) n)) F → KC h0 h → (∀ h' x2, RC gc h' A I (upB v 0 ((uB v 0).filter (fun y => !bQ x y))) F → KC h0 h' → TT gc (d + 3) 35 q 47 [.ref (A 0), .int x, .int x2, .retAddr 0] [] h') → TT gc (d + 3) 35 q 10 [.ref (A 0), .int x, .int (nI n - 1), .retAddr 0] [] h := by
  intro n
  induction n with
  | zero =>
    intro h _ hR hkc hq
    exact B35_10 ⟨fun _ => hq h _ hR hkc, fun z => absurd neg_1 z⟩
  | succ n ih =>
    rintro h hn ⟨xs, hX⟩ hkc hq
    have hF := hX.rf
    have hb : isB 0 := rfl
    have hnl : n < (uB v 0).length := by omega
    rw [nI_pred]
    have hl2 : n < (uB (upB v 0 (flF (bQ x) (uB v 0) (n + 1))) 0).length := by rw [uB_s]; exact Nat.lt_of_succ_le (flF_len hn)
    have hg : (uB (upB v 0 (flF (bQ x) (uB v 0) (n + 1))) 0)[n]'hl2 = (uB v 0)[n] := (List.getElem_eq_iff _).mpr (by rw [uB_s]; exact flF_get hnl)
    refine B35_10 ⟨fun z => absurd z (nI_pos (by omega)), fun _ => ⟨_, _, hF.2.1, rfl, hX.lst (k := 0) (by decide), _, rx_getB hX hb rfl hl2, ?_⟩⟩
    rintro r h2 ⟨a, rfl, rfl, -, ha⟩
    rw [hg] at ha
    refine ⟨_, rfl, _, ha, _, _, ha, rfl, fun z => B35_41 ?_, fun z => ⟨_, _, hF.2.1, rfl, hX.lst (k := 0) (by decide), _, rx_rmB hX hb rfl hl2, ?_⟩⟩
    · rw [ne_1]
      refine ih h2 (by omega) ⟨xs, ?_⟩ hkc hq
      rw [← flF_sk hnl (show bQ x (uB v 0)[n] = false from decide_eq_false z)]
      exact hX
    · rintro r h3 ⟨a2, rfl, y1, y2, -⟩
      refine ⟨_, rfl, B35_41 ?_⟩
      rw [ne_1]
      rw [uB_s, upB_upB, flF_er hnl (show bQ x (uB v 0)[n] = true from decide_eq_true z)] at y1
      exact ih h3 (by omega) ⟨_, y1⟩ (hkc.trans y2.kc) hq
theorem fe_loop {gc : Nat → Nat} {d : Nat} {A : Nat → Nat} {I : Nat → Int32} {q : PT} {F : Nat} {v : Mu} {x : Int32} (hl : (uB v 0).length ≤ 64) (h0 : AH) : ∀ n (h : AH), n ≤ (uB v 0).length → RC gc h A I (upB v 0 (flF (bE x) (uB v 0) n)) F → KC h0 h → (∀ h', RC gc h' A I (upB v 0 ((uB v 0).filter (fun y => !bE x y))) F → KC h0 h' → q none h') → TT gc (d + 3) 83 q 20 [.ref (A 0), .int x, .int (nI n - 1)] [] h := by
  intro n
  induction n with
  | zero =>
    intro h _ hR hkc hq
    exact B83_20 ⟨fun _ => B83_57 (hq h hR hkc), fun z => absurd neg_1 z⟩
  | succ n ih =>
    rintro h hn ⟨xs, hX⟩ hkc hq
    have hF := hX.rf
    have hb : isB 0 := rfl
    have hnl : n < (uB v 0).length := by omega
    rw [nI_pred]
    have hl2 : n < (uB (upB v 0 (flF (bE x) (uB v 0) (n + 1))) 0).length := by rw [uB_s]; exact Nat.lt_of_succ_le (flF_len hn)
    have hg : (uB (upB v 0 (flF (bE x) (uB v 0) (n + 1))) 0)[n]'hl2 = (uB v 0)[n] := (List.getElem_eq_iff _).mpr (by rw [uB_s]; exact flF_get hnl)
    refine B83_20 ⟨fun z => absurd z (nI_pos (by omega)), fun _ => ⟨_, _, hF.2.1, rfl, hX.lst (k := 0) (by decide), _, rx_getB hX hb rfl hl2, ?_⟩⟩
    rintro r h2 ⟨a, rfl, rfl, -, ha⟩
    rw [hg] at ha
    refine ⟨_, rfl, _, ha, _, _, ha, rfl, fun z => B83_51 ?_, fun z => ⟨_, _, hF.2.1, rfl, hX.lst (k := 0) (by decide), _, rx_rmB hX hb rfl hl2, ?_⟩⟩
    · rw [ne_1]
      refine ih h2 (by omega) ⟨xs, ?_⟩ hkc hq
      rw [← flF_sk hnl (show bE x (uB v 0)[n] = false from decide_eq_false z)]
      exact hX
    · rintro r h3 ⟨a2, rfl, y1, y2, -⟩
      refine ⟨_, rfl, B83_51 ?_⟩
      rw [ne_1]
      rw [uB_s, upB_upB, flF_er hnl (show bE x (uB v 0)[n] = true from decide_eq_true z)] at y1
      exact ih h3 (by omega) ⟨_, y1⟩ (hkc.trans y2.kc) hq
theorem lg_loop {gc : Nat → Nat} {d : Nat} {A : Nat → Nat} {I : Nat → Int32} {q : PT} {F c w : Nat} {v : Mu} (hc : c < 4) (hl : (uC v (14 + c)).length ≤ 64) (h0 : AH) : ∀ n g (h : AH), n ≤ (uC v (14 + c)).length → RC gc h A I (upC v (14 + c) (flF (pq w) (uC v (14 + c)) n)) F → KC h0 h → (∀ h', RC gc h' A I (upC v (14 + c) ((uC v (14 + c)).filter (fun y => !pq w y))) F → KC h0 h' → q (some (.int (nI (g + ((uC v (14 + c)).take n).countP (pq w))))) h') → TT gc (d + 3) 36 q 12 [.ref (A (30 + c)), .int (nI w), .int (nI g), .int (nI n - 1)] [] h := by
  have hk := isC_c hc
  intro n
  induction n with
  | zero =>
    intro g h _ hR hkc hq
    exact B36_12 ⟨fun _ => B36_52 (hq h hR hkc), fun z => absurd neg_1 z⟩
  | succ n ih =>
    rintro g h hn ⟨xs, hX⟩ hkc hq
    have hch := hX.rf.chO hc
    have hnl : n < (uC v (14 + c)).length := by omega
    rw [nI_pred]
    have hl2 : n < (uC (upC v (14 + c) (flF (pq w) (uC v (14 + c)) (n + 1))) (14 + c)).length := by rw [uC_s]; exact Nat.lt_of_succ_le (flF_len hn)
    have hg : (uC (upC v (14 + c) (flF (pq w) (uC v (14 + c)) (n + 1))) (14 + c))[n]'hl2 = (uC v (14 + c))[n] := (List.getElem_eq_iff _).mpr (by rw [uC_s]; exact flF_get hnl)
    have htk : ((uC v (14 + c)).take (n + 1)).countP (pq w) = ((uC v (14 + c)).take n).countP (pq w) + (if pq w (uC v (14 + c))[n] then 1 else 0) := by
      rw [List.take_add_one, List.getElem?_eq_getElem hnl, List.countP_append]
      show _ + List.countP (pq w) [(uC v (14 + c))[n]] = _
      rw [List.countP_cons, List.countP_nil, Nat.zero_add]
    rw [htk] at hq
    refine B36_12 ⟨fun z => absurd z (nI_pos (by omega)), fun _ => ⟨_, _, hch, rfl, hX.lst (lt_C hk), _, rx_getC hX hk rfl hl2, ?_⟩⟩
    rintro r h2 ⟨a, rfl, rfl, -, ha⟩
    rw [hg] at ha
    obtain ⟨m, D, w1, w2, w3⟩ := ha
    refine ⟨_, rfl, _, w1, _, _, w1, rfl, fun z => B36_46 ?_, fun z => ⟨_, _, hch, rfl, hX.lst (lt_C hk), _, rx_rmC hX hk rfl hl2, ?_⟩⟩
    · have hp : pq w (uC v (14 + c))[n] = false := decide_eq_false z
      rw [hp, if_neg (by decide), Nat.add_zero] at hq
      rw [ne_1]
      refine ih g h2 (by omega) ⟨xs, ?_⟩ hkc hq
      rw [← flF_sk hnl hp]
      exact hX
    · have hp : pq w (uC v (14 + c))[n] = true := decide_eq_true z
      rw [hp, if_pos rfl] at hq
      rintro r h3 ⟨a2, rfl, y1, y2, -⟩
      refine ⟨_, rfl, B36_46 ?_⟩
      rw [ne_1, nI_1]
      rw [uC_s, upC_upC, flF_er hnl hp] at y1
      refine ih (g + 1) h3 (by omega) ⟨_, y1⟩ (hkc.trans y2.kc) (fun h' q1 q2 => ?_)
      rw [show g + 1 + ((uC v (14 + c)).take n).countP (pq w) = g + (((uC v (14 + c)).take n).countP (pq w) + 1) by omega]
      exact hq h' q1 q2
theorem k_lg {gc : Nat → Nat} {d : Nat} {h : AH} {A : Nat → Nat} {I : Nat → Int32} {v : Mu} {F : Nat} {c w : Nat} (hR : RC gc h A I v F) (hc : c < 4) (hl : (uC v (14 + c)).length ≤ 64) : WP gc (d + 4) 36 [.ref (A (30 + c)), .int (nI w)] h (fun r h' => r = some (.int (nI ((uC v (14 + c)).countP (pq w)))) ∧ RC gc h' A I (upC v (14 + c) ((uC v (14 + c)).filter (fun y => !pq w y))) F ∧ KC h h') := by
  obtain ⟨xs, hX⟩ := hR
  have hk := isC_c hc
  refine M36 ⟨_, _, hX.rf.chO hc, rfl, hX.lst (lt_C hk), _, rx_sizeC hX hk rfl, ?_⟩
  rintro r h' ⟨rfl, rfl⟩
  refine ⟨_, rfl, lg_loop hc hl h' (uC v (14 + c)).length 0 h' (Nat.le_refl _) ?_ KC.refl (fun h2 q1 q2 => ⟨?_, q1, q2⟩)⟩
  · rw [flF_n, upC_id]
    exact ⟨xs, hX⟩
  · rw [List.take_length, Nat.zero_add]
theorem kp_loop {gc : Nat → Nat} {d : Nat} {A : Nat → Nat} {I : Nat → Int32} {q : PT} {F w : Nat} {v : Mu} (hw : w < 6) (hl : (uC v (2 + w)).length ≤ 64) (h0 : AH) : ∀ n (h : AH), n ≤ (uC v (2 + w)).length → RC gc h A I (upC v (2 + w) (flF (fun r => !mPers (rM r)) (uC v (2 + w)) n)) F → KC h0 h → (∀ h', RC gc h' A I (upC v (2 + w) ((uC v (2 + w)).filter (fun y => !!mPers (rM y)))) F → KC h0 h' → q none h') → TT gc (d + 3) 84 q 10 [.ref (A (20 + w)), .int (nI n - 1)] [] h := by
  have hk := isC_q hw
  intro n
  induction n with
  | zero =>
    intro h _ hR hkc hq
    exact B84_10 ⟨fun _ => B84_49 (hq h hR hkc), fun z => absurd neg_1 z⟩
  | succ n ih =>
    rintro h hn ⟨xs, hX⟩ hkc hq
    have hqu := hX.rf.quO hw
    have hnl : n < (uC v (2 + w)).length := by omega
    rw [nI_pred]
    have hl2 : n < (uC (upC v (2 + w) (flF (fun r => !mPers (rM r)) (uC v (2 + w)) (n + 1))) (2 + w)).length := by rw [uC_s]; exact Nat.lt_of_succ_le (flF_len hn)
    have hg : (uC (upC v (2 + w) (flF (fun r => !mPers (rM r)) (uC v (2 + w)) (n + 1))) (2 + w))[n]'hl2 = (uC v (2 + w))[n] := (List.getElem_eq_iff _).mpr (by rw [uC_s]; exact flF_get hnl)
    refine B84_10 ⟨fun z => absurd z (nI_pos (by omega)), fun _ => ⟨_, _, hqu, rfl, hX.lst (lt_C hk), _, rx_getC hX hk rfl hl2, ?_⟩⟩
    rintro r h2 ⟨a, rfl, rfl, -, ha⟩
    rw [hg] at ha
    obtain ⟨m, D, w1, w2, w3⟩ := ha
    refine ⟨_, rfl, _, w1, _, _, w1, rfl, _, _, w3, rfl, fun z => B84_43 ?_, fun z => ⟨_, _, hqu, rfl, hX.lst (lt_C hk), _, rx_rmC hX hk rfl hl2, ?_⟩⟩
    · have hp : (fun r => !mPers (rM r)) (uC v (2 + w))[n] = false := by
        have : mPers (rM (uC v (2 + w))[n]) = true := b2i_nz z
        show (!mPers (rM (uC v (2 + w))[n])) = false
        rw [this]; rfl
      rw [ne_1]
      refine ih h2 (by omega) ⟨xs, ?_⟩ hkc hq
      rw [← flF_sk hnl hp]
      exact hX
    · have hp : (fun r => !mPers (rM r)) (uC v (2 + w))[n] = true := by
        have : mPers (rM (uC v (2 + w))[n]) = false := b2i_z.mp z
        show (!mPers (rM (uC v (2 + w))[n])) = true
        rw [this]; rfl
      rintro r h3 ⟨a2, rfl, y1, y2, -⟩
      refine ⟨_, rfl, B84_43 ?_⟩
      rw [ne_1]
      rw [uC_s, upC_upC, flF_er hnl hp] at y1
      exact ih h3 (by omega) ⟨_, y1⟩ (hkc.trans y2.kc) hq
theorem k_kp {gc : Nat → Nat} {d : Nat} {h : AH} {A : Nat → Nat} {I : Nat → Int32} {v : Mu} {F : Nat} {w : Nat} (hR : RC gc h A I v F) (hw : w < 6) (hl : (uC v (2 + w)).length ≤ 64) : WP gc (d + 4) 84 [.ref (A (20 + w))] h (fun r h' => r = none ∧ RC gc h' A I (upC v (2 + w) ((uC v (2 + w)).filter (fun y => !!mPers (rM y)))) F ∧ KC h h') := by
  obtain ⟨xs, hX⟩ := hR
  have hk := isC_q hw
  refine M84 ⟨_, _, hX.rf.quO hw, rfl, hX.lst (lt_C hk), _, rx_sizeC hX hk rfl, ?_⟩
  rintro r h' ⟨rfl, rfl⟩
  refine ⟨_, rfl, kp_loop hw hl h' (uC v (2 + w)).length h' (Nat.le_refl _) ?_ KC.refl (fun h2 q1 q2 => ⟨rfl, q1, q2⟩)⟩
  rw [flF_n, upC_id]
  exact ⟨xs, hX⟩
