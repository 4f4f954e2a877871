/-! the reference: consumers -/
def pC (k : Nat) : Bool := decide (9 ≤ k) && decide (k ≤ 12)
theorem pC_f {k : Nat} (h : ¬ (9 ≤ k ∧ k ≤ 12)) : pC k = false := by
  unfold pC
  rw [← Bool.decide_and]
  exact decide_eq_false h
theorem SX.cI {k : Nat} {X Y : XT} {s : St} {v : Mu} (h : SX k X s) (hB : v.1 = s.2.1) (hC : v.2.1 = s.2.2.1) (hD : v.2.2.2 = s.2.2.2.2) (ha : Ag pC X Y) (hc : sC Y v) : SX k Y (s.1, v) := by
  obtain ⟨h1, h2, h3, h4, h5, h6, h7, h8, h9, h10⟩ := h
  have eC : ∀ k, uC v k = uC s.2 k := fun k => congrFun hC k
  refine ⟨h1.ag ha rfl rfl, h2.ag ha rfl rfl rfl, ?_, hc, fun c hcc => ?_, ?_, ?_, ?_, ?_, ?_⟩
  · have := h3.ag ha rfl rfl rfl rfl
    unfold sB at this ⊢
    rw [show uB (s.1, v).2 0 = uB s.2 0 from congrFun hB 0]
    exact this
  · have := h5.ag ha (fun k _ _ => pC_f (by omega)) c hcc
    rw [show uD (s.1, v).2 (18 + c) = uD s.2 (18 + c) from congrFun hD _]
    exact this
  · have := h6.ag ha (fun k _ _ => pC_f (by omega))
    unfold sP at this ⊢
    rw [show flat (s.1, v).2 = flat s.2 from flat_cg (fun k _ => eC k)]
    exact this
  · rw [ha 32 rfl]; exact h7
  · have := h8.ag ha (fun k _ _ => pC_f (by omega))
    unfold sL at this ⊢
    rw [show uC (s.1, v).2 1 = uC s.2 1 from eC 1]
    exact this
  · rw [ha 39 rfl]; exact h9
  · rw [ha 40 rfl]; exact h10
theorem fF_ix {α : Type} {p : α → Bool} {f : Nat → α} : ∀ n i, fF (fun i => p (f i)) n i = if ix p ((List.range' i n).map f) < n then some (i + ix p ((List.range' i n).map f)) else none := by
  intro n
  induction n with
  | zero => intro i; rfl
  | succ n ih =>
    intro i
    show (if p (f i) then some i else fF _ n (i + 1)) = _
    rw [List.range'_succ, List.map_cons]
    show _ = if (if p (f i) then 0 else ix p _ + 1) < n + 1 then some (i + (if p (f i) then 0 else ix p _ + 1)) else none
    by_cases hp : p (f i) = true
    · rw [if_pos hp, if_pos hp, if_pos (by omega)]
      rfl
    · rw [if_neg hp, if_neg hp, ih (i + 1)]
      by_cases hl : ix p ((List.range' (i + 1) n).map f) < n
      · rw [if_pos hl, if_pos (by omega)]
        congr 1
        omega
      · rw [if_neg hl, if_neg (by omega)]
theorem fF_cn {X : XT} {n : Nat} {p : Cn → Bool} : fF (fun i => p (cnA X i)) n 0 = if ix p (cnL X n) < n then some (ix p (cnL X n)) else none := by
  have := fF_ix (p := p) (f := cnA X) n 0
  rw [Nat.zero_add] at this
  rw [this]
  unfold cnL
  rw [List.range_eq_range']
theorem cnL_len {X : XT} {n : Nat} : (cnL X n).length = n := by
  unfold cnL
  rw [List.length_map, List.length_range]
theorem flt_er {α : Type} {f p : α → Bool} : ∀ {l : List α}, (ix (fun x => f x && p x) l < l.length → ix p (l.filter f) < (l.filter f).length ∧ (l.eraseIdx (ix (fun x => f x && p x) l)).filter f = (l.filter f).eraseIdx (ix p (l.filter f)) ∧ ∀ x, l[ix (fun x => f x && p x) l]? = some x → (l.filter f)[ix p (l.filter f)]? = some x) ∧ (¬ ix (fun x => f x && p x) l < l.length → ¬ ix p (l.filter f) < (l.filter f).length) := by
  intro l
  induction l with
  | nil => exact ⟨fun h => absurd h (Nat.not_lt_zero _), fun _ h => absurd h (Nat.not_lt_zero _)⟩
  | cons y l ih =>
    by_cases hf : f y = true
    · by_cases hp : p y = true
      · have e1 : ix (fun x => f x && p x) (y :: l) = 0 := if_pos (show (f y && p y) = true by rw [hf, hp]; rfl)
        rw [e1, List.filter_cons_of_pos hf]
        have e2 : ix p (y :: l.filter f) = 0 := if_pos hp
        rw [e2]
        exact ⟨fun _ => ⟨Nat.succ_pos _, rfl, fun x hx => hx⟩, fun h => absurd (Nat.succ_pos _) h⟩
      · have e1 : ix (fun x => f x && p x) (y :: l) = ix (fun x => f x && p x) l + 1 := if_neg (show ¬ (f y && p y) = true by rw [Bool.eq_false_iff.mpr hp, Bool.and_false]; decide)
        rw [e1, List.filter_cons_of_pos hf]
        have e2 : ix p (y :: l.filter f) = ix p (l.filter f) + 1 := if_neg hp
        rw [e2]
        refine ⟨fun h => ?_, fun h h2 => ih.2 (fun w => h (Nat.succ_lt_succ w)) (Nat.lt_of_succ_lt_succ h2)⟩
        obtain ⟨g1, g2, g3⟩ := ih.1 (Nat.lt_of_succ_lt_succ h)
        refine ⟨Nat.succ_lt_succ g1, ?_, fun x hx => g3 x hx⟩
        show (y :: l.eraseIdx _).filter f = y :: (l.filter f).eraseIdx _
        rw [List.filter_cons_of_pos hf, g2]
    · have e1 : ix (fun x => f x && p x) (y :: l) = ix (fun x => f x && p x) l + 1 := if_neg (show ¬ (f y && p y) = true by rw [Bool.eq_false_iff.mpr hf, Bool.false_and]; decide)
      rw [e1, List.filter_cons_of_neg hf]
      refine ⟨fun h => ?_, fun h h2 => ih.2 (fun w => h (Nat.succ_lt_succ w)) h2⟩
      obtain ⟨g1, g2, g3⟩ := ih.1 (Nat.lt_of_succ_lt_succ h)
      refine ⟨g1, ?_, fun x hx => g3 x hx⟩
      show (y :: l.eraseIdx _).filter f = _
      rw [List.filter_cons_of_neg hf, g2]
/-- another filter does not see it -/
theorem flt_ot {α : Type} {f : α → Bool} : ∀ {l : List α} {i : Nat}, (∀ x, l[i]? = some x → f x = false) → (l.eraseIdx i).filter f = l.filter f := by
  intro l
  induction l with
  | nil => intro i _; rfl
  | cons y l ih =>
    intro i h
    cases i with
    | zero =>
      have := h y rfl
      rw [List.filter_cons_of_neg (by rw [this]; decide)]
      rfl
    | succ i =>
      show (y :: l.eraseIdx i).filter f = _
      have := ih (i := i) (fun x hx => h x hx)
      by_cases hf : f y = true
      · rw [List.filter_cons_of_pos hf, List.filter_cons_of_pos hf, this]
      · rw [List.filter_cons_of_neg hf, List.filter_cons_of_neg hf, this]
theorem ix_map {α β : Type} {p : β → Bool} {g : α → β} : ∀ {l : List α}, ix p (l.map g) = ix (fun x => p (g x)) l := by
  intro l
  induction l with
  | nil => rfl
  | cons y l ih =>
    show (if p (g y) then 0 else ix p (l.map g) + 1) = if p (g y) then 0 else ix (fun x => p (g x)) l + 1
    rw [ih]
theorem cns_loop {gc : Nat → Nat} {m : Nat} {M : Nat → Nat} {d : Nat} {X : XT} {q : QT} {x1 x2 : Int32} {n : Nat} (hn : X 12 0 = nI n) (hn2 : n ≤ 25) : ∀ l i, i + l = n → q (some (.int (oI (fF (fun i => decide (X 9 i = x2) && decide (X 10 i = x1)) l i)))) X → TM gc m M d 121 q 2 [.ref m, .int x1, .int x2, .int (nI i)] [] X := by
  intro l
  induction l with
  | zero =>
    intro i hi hq
    exact N121_2 ⟨fun _ => N121_38 hq, fun z => absurd (by rw [hn]; exact nI_le (by omega) (by omega)) z⟩
  | succ l ih =>
    intro i hi hq
    have hcl : (nI i).toNatClampNeg = i := nI_clamp (by omega)
    have hu : fF (fun i => decide (X 9 i = x2) && decide (X 10 i = x1)) (l + 1) i = if (decide (X 9 i = x2) && decide (X 10 i = x1)) then some i else fF (fun i => decide (X 9 i = x2) && decide (X 10 i = x1)) l (i + 1) := rfl
    have no : (decide (X 9 i = x2) && decide (X 10 i = x1)) = false → TM gc m M d 121 q 32 [.ref m, .int x1, .int x2, .int (nI i)] [] X := fun hb => by
      rw [hu, hb, if_neg (by decide)] at hq
      refine N121_32 ?_
      rw [nI_1]
      exact ih (i + 1) (by omega) hq
    refine N121_2 ⟨fun z => absurd z (by rw [hn]; exact nI_ge (by omega) (by omega)), fun _ => ⟨nI_pos (by omega), by omega, ?_⟩⟩
    rw [hcl]
    refine ⟨fun z => no (by rw [decide_eq_false z, Bool.and_false]), fun z => ⟨nI_pos (by omega), by omega, fun z2 => no (by rw [decide_eq_false z2, Bool.false_and]), fun z2 => ?_⟩⟩
    rw [hu, decide_eq_true z, decide_eq_true z2, Bool.and_self, if_pos rfl] at hq
    exact hq
def cnC (x : Int32) (c : Cn) : Bool := decide (c.2.1 = x)
theorem n_consumer {gc : Nat → Nat} {m : Nat} {M : Nat → Nat} {d : Nat} {X : XT} {x1 : Int32} {w n : Nat} (hn : X 12 0 = nI n) (hn2 : n ≤ 25) : WM gc m M (d + 1) 121 [.ref m, .int x1, .int (nI w)] X (fun r X' => r = some (.int (if ix (fun c => cnQ w c && cnC x1 c) (cnL X n) < n then nI (ix (fun c => cnQ w c && cnC x1 c) (cnL X n)) else -1)) ∧ X' = X) := by
  refine N121 (cns_loop hn hn2 n 0 (by omega) ⟨?_, rfl⟩)
  have e : fF (fun i => decide (X 9 i = nI w) && decide (X 10 i = x1)) n 0 = if ix (fun c => cnQ w c && cnC x1 c) (cnL X n) < n then some (ix (fun c => cnQ w c && cnC x1 c) (cnL X n)) else none := fF_cn (X := X) (n := n) (p := fun c => cnQ w c && cnC x1 c)
  rw [e]
  split <;> rfl
/-- the list and its length, as sC has them -/
def sN (X : XT) (n : Nat) (v : Mu) : Prop := X 12 0 = nI n ∧ (∀ i, i < n → ∃ q, q < 6 ∧ X 9 i = nI q) ∧ ∀ q, q < 6 → (cnL X n).filter (cnQ q) = (uR v (8 + q)).map (cnM q)
theorem sN_len {X : XT} {n : Nat} {v : Mu} (h : sN X n v) : n = sumTo (fun q => (uR v (8 + q)).length) 6 := by
  have e : ∀ q, q < 6 → (uR v (8 + q)).length = (cnL X n).countP (cnQ q) := fun q hq6 => by
    rw [List.countP_eq_length_filter, h.2.2 q hq6, List.length_map]
  rw [sumTo_cg 6 e]
  have key : ∀ l : List Cn, (∀ x, x ∈ l → ∃ q, q < 6 ∧ x.1 = nI q) → l.length = sumTo (fun q => l.countP (cnQ q)) 6 := by
    intro l
    induction l with
    | nil => intro _; rfl
    | cons r l ih =>
      intro h
      have ih := ih (fun x hx => h x (List.mem_cons_of_mem _ hx))
      obtain ⟨q, hq6, hr⟩ := h r List.mem_cons_self
      have e : (fun q => (r :: l).countP (cnQ q)) = fun p => l.countP (cnQ p) + (if cnQ p r then 1 else 0) := funext (fun p => List.countP_cons)
      have e2 : ∀ n, n ≤ 6 → sumTo (fun p => if cnQ p r then 1 else 0) n = if q < n then 1 else 0 := by
        intro n
        induction n with
        | zero => intro _; rfl
        | succ n ihn =>
          intro hn
          show sumTo _ n + (if cnQ n r then 1 else 0) = _
          rw [ihn (by omega)]
          by_cases h1 : n = q
          · subst h1
            rw [if_neg (Nat.lt_irrefl _), if_pos (show cnQ n r = true from decide_eq_true hr), if_pos (by omega)]
          · rw [if_neg (show ¬ cnQ n r = true from fun w => by
              have w := of_decide_eq_true w
              rw [hr] at w
              exact h1 ((nI_eq (by omega) (by omega)).mp w).symm)]
            by_cases h2 : q < n
            · rw [if_pos h2, if_pos (by omega)]
            · rw [if_neg h2, if_neg (by omega)]
      rw [e, sumTo_add, e2 6 (Nat.le_refl _), if_pos hq6, List.length_cons, ih]
  have h2 := key (cnL X n) (fun x hx => by
    obtain ⟨i, h1, h2⟩ := List.mem_map.mp hx
    obtain ⟨q, h3, h4⟩ := h.2.1 i (List.mem_range.mp h1)
    exact ⟨q, h3, by rw [← h2]; exact h4⟩)
  rw [cnL_len] at h2
  exact h2
theorem sN_24 {X : XT} {n : Nat} {v : Mu} {I : Nat → Int32} (h : sN X n v) (hr : RI I v) : n ≤ 24 := by
  rw [sN_len h]
  exact sumTo_le (b := 4) 6 (fun q hq6 => hr.len hq6)
/-- the flags are flags -/
theorem sN_01 {X : XT} {n : Nat} {v : Mu} (h : sN X n v) {i : Nat} (hi : i < n) : X 11 i = 0 ∨ X 11 i = 1 := by
  obtain ⟨q, hq6, hq⟩ := h.2.1 i hi
  have h1 : cnA X i ∈ (cnL X n).filter (cnQ q) := List.mem_filter.mpr ⟨List.mem_map.mpr ⟨i, List.mem_range.mpr hi, rfl⟩, decide_eq_true hq⟩
  rw [h.2.2 q hq6] at h1
  obtain ⟨c, -, hc⟩ := List.mem_map.mp h1
  have : X 11 i = b2i c.2 := (congrArg (fun z => z.2.2) hc).symm
  rw [this]
  exact b2i_01 _
theorem n_addC {gc : Nat → Nat} {m : Nat} {M : Nat → Nat} {d : Nat} {X : XT} {x1 x2 x3 : Int32} {n : Nat} (hn : X 12 0 = nI n) (hn2 : n < 25) (h01 : x3 = 0 ∨ x3 = 1) : WM gc m M (d + 1) 122 [.ref m, .int x1, .int x2, .int x3] X (fun r X' => r = none ∧ Ag pC X X' ∧ X' 12 0 = nI (n + 1) ∧ cnL X' (n + 1) = cnL X n ++ [(x1, x2, x3)]) := by
  have hcl : (nI n).toNatClampNeg = n := nI_clamp (by omega)
  refine N122 ?_
  rw [hn, hcl]
  refine ⟨nI_pos (by omega), hn2, fun Y1 e1 => ?_⟩
  have q1 : Y1 12 0 = nI n := by rw [e1, wr_k (by decide)]; exact hn
  rw [q1, hcl]
  refine ⟨nI_pos (by omega), hn2, fun Y2 e2 => ?_⟩
  have q2 : Y2 12 0 = nI n := by rw [e2, wr_k (by decide)]; exact q1
  rw [q2, hcl]
  refine ⟨nI_pos (by omega), hn2, h01, fun Y3 e3 Y4 e4 => ⟨rfl, ?_, ?_, ?_⟩⟩
  · rw [e4, e3, e2, e1]
    exact ((((Ag.refl _ _).wr rfl).wr rfl).wr rfl).wr rfl
  · have q3 : Y3 12 0 = nI n := by rw [e3, wr_k (by decide)]; exact q2
    rw [e4, wr_s, q3, nI_1]
  · unfold cnL
    rw [List.range_succ, List.map_append]
    have h1 : ∀ i, i ≠ n → cnA Y4 i = cnA X i := fun i hi => by
      unfold cnA
      rw [e4, wr_k (by decide), wr_k (by decide), wr_k (by decide), e3, wr_i hi, wr_i hi, wr_i hi, e2, wr_i hi, wr_i hi, wr_i hi, e1, wr_i hi, wr_i hi, wr_i hi]
    have h2 : cnA Y4 n = (x1, x2, x3) := by
      unfold cnA
      rw [e4, wr_k (by decide), wr_k (by decide), wr_k (by decide), e3, wr_k (by decide), wr_k (by decide), wr_s, e2, wr_k (by decide), wr_s, e1, wr_s]
    rw [List.map_congr_left (fun i hi => h1 i (by have := List.mem_range.mp hi; omega)), List.map_singleton, h2]
theorem rc_loop {gc : Nat → Nat} {m : Nat} {M : Nat → Nat} {d : Nat} {X0 : XT} {q : QT} {i n : Nat} (hn2 : n < 25) (h01 : ∀ j, j ≤ n → X0 11 j = 0 ∨ X0 11 j = 1) : ∀ l k (X : XT), k + l = n → i ≤ k → X 12 0 = nI n → Ag pC X0 X → (∀ j, cnA X j = if i ≤ j ∧ j < k then cnA X0 (j + 1) else cnA X0 j) → (∀ Y, Ag pC X0 Y → Y 12 0 = nI n → (∀ j, j < n → cnA Y j = if i ≤ j then cnA X0 (j + 1) else cnA X0 j) → q none Y) → TM gc m M d 108 q 12 [.ref m, .int (nI i), .int (nI k)] [] X := by
  intro l
  induction l with
  | zero =>
    intro k X hk hik hn ha hc hq
    refine N108_12 ⟨fun _ => N108_68 (hq X ha hn (fun j hj => ?_)), fun z => absurd (by rw [hn]; exact nI_le (by omega) (by omega)) z⟩
    rw [hc j]
    by_cases hz : i ≤ j
    · rw [if_pos hz, if_pos ⟨hz, by omega⟩]
    · rw [if_neg hz, if_neg (fun w => hz w.1)]
  | succ l ih =>
    intro k X hk hik hn ha hc hq
    have hcl : (nI k).toNatClampNeg = k := nI_clamp (by omega)
    have hcl1 : (nI (k + 1)).toNatClampNeg = k + 1 := nI_clamp (by omega)
    refine N108_12 ⟨fun z => absurd z (by rw [hn]; exact nI_ge (by omega) (by omega)), fun _ => ?_⟩
    rw [nI_1, hcl, hcl1]
    have hck : cnA X (k + 1) = cnA X0 (k + 1) := by rw [hc, if_neg (by omega)]
    have h11 : X 11 (k + 1) = X0 11 (k + 1) := congrArg (fun z => z.2.2) hck
    refine ⟨nI_pos (by omega), by omega, nI_pos (by omega), by omega, fun Y1 e1 => ⟨nI_pos (by omega), by omega, nI_pos (by omega), by omega, fun Y2 e2 => ⟨nI_pos (by omega), by omega, nI_pos (by omega), by omega, ?_, fun Y3 e3 => ?_⟩⟩⟩
    · rw [e2, wr_k (by decide), e1, wr_k (by decide), h11]
      exact h01 (k + 1) (by omega)
    · refine ih (k + 1) Y3 (by omega) (by omega) ?_ ?_ (fun j => ?_) hq
      · rw [e3, wr_k (by decide), e2, wr_k (by decide), e1, wr_k (by decide)]; exact hn
      · rw [e3, e2, e1]
        exact ((ha.wr rfl).wr rfl).wr rfl
      · have g : cnA Y3 j = if j = k then cnA X (k + 1) else cnA X j := by
          unfold cnA
          by_cases hj : j = k
          · subst hj
            rw [if_pos rfl, e3, wr_k (by decide), wr_k (by decide), wr_s, e2, wr_k (by decide), wr_s, wr_k (by decide), e1, wr_s, wr_k (by decide), wr_k (by decide)]
          · rw [if_neg hj, e3, wr_k (by decide), wr_k (by decide), wr_i hj, e2, wr_k (by decide), wr_i hj, wr_i hj, e1, wr_i hj, wr_i hj, wr_i hj]
        rw [g]
        by_cases hj : j = k
        · subst hj
          rw [if_pos rfl, if_pos ⟨hik, by omega⟩, hck]
        · rw [if_neg hj, hc j]
          by_cases h1 : i ≤ j ∧ j < k
          · rw [if_pos h1, if_pos (by omega)]
          · rw [if_neg h1, if_neg (by omega)]
theorem cn_er {X Y : XT} {n i : Nat} (hi : i ≤ n) (h : ∀ j, j < n → cnA Y j = if i ≤ j then cnA X (j + 1) else cnA X j) : cnL Y n = (cnL X (n + 1)).eraseIdx i := by
  apply List.ext_getElem?
  intro j
  rw [List.getElem?_eraseIdx]
  unfold cnL
  rw [List.getElem?_map, List.getElem?_map, List.getElem?_map]
  by_cases hj : j < n
  · rw [List.getElem?_range hj, List.getElem?_range (show j < n + 1 by omega), List.getElem?_range (show j + 1 < n + 1 by omega)]
    show some (cnA Y j) = if j < i then some (cnA X j) else some (cnA X (j + 1))
    rw [h j hj]
    by_cases h1 : j < i
    · rw [if_pos h1, if_neg (by omega)]
    · rw [if_neg h1, if_pos (by omega)]
  · rw [List.getElem?_eq_none (l := List.range n) (by rw [List.length_range]; omega), List.getElem?_eq_none (l := List.range (n + 1)) (i := j + 1) (by rw [List.length_range]; omega), if_neg (by omega)]
    rfl
theorem n_rmC {gc : Nat → Nat} {m : Nat} {M : Nat → Nat} {d : Nat} {X : XT} {n i : Nat} (hn : X 12 0 = nI (n + 1)) (hn2 : n < 25) (hi : i ≤ n) (h01 : ∀ j, j ≤ n → X 11 j = 0 ∨ X 11 j = 1) : WM gc m M (d + 1) 108 [.ref m, .int (nI i)] X (fun r X' => r = none ∧ Ag pC X X' ∧ X' 12 0 = nI n ∧ cnL X' n = (cnL X (n + 1)).eraseIdx i) := by
  refine N108 (fun Y0 e0 => ?_)
  have q0 : Y0 12 0 = nI n := by rw [e0, wr_s, hn, nI_pred]
  have h0 : ∀ j, cnA Y0 j = cnA X j := fun j => by
    unfold cnA
    rw [e0, wr_k (by decide), wr_k (by decide), wr_k (by decide)]
  refine rc_loop hn2 h01 (n - i) i Y0 (by omega) (Nat.le_refl _) q0 (by rw [e0]; exact (Ag.refl _ _).wr rfl) (fun j => ?_) (fun Y g1 g2 g3 => ⟨rfl, g1, g2, cn_er hi g3⟩)
  rw [if_neg (by omega)]
  exact h0 j
theorem sN.add {X Y : XT} {n w : Nat} {v : Mu} {c : Con} (h : sN X n v) (hw : w < 6) (h1 : Y 12 0 = nI (n + 1)) (h2 : cnL Y (n + 1) = cnL X n ++ [cnM w c]) : sN Y (n + 1) (upR v (8 + w) (uR v (8 + w) ++ [c])) := by
  refine ⟨h1, fun i hi => ?_, fun q hq6 => ?_⟩
  · have e : (cnL Y (n + 1))[i]? = some (cnA Y i) := by
      unfold cnL
      rw [List.getElem?_map, List.getElem?_range hi]
      rfl
    rw [h2] at e
    by_cases hz : i < n
    · rw [List.getElem?_append_left (by rw [cnL_len]; exact hz)] at e
      unfold cnL at e
      rw [List.getElem?_map, List.getElem?_range hz] at e
      have := Option.some.inj e
      rw [show Y 9 i = (cnA Y i).1 from rfl, ← this]
      exact h.2.1 i hz
    · rw [List.getElem?_append_right (by rw [cnL_len]; omega), cnL_len, show i - n = 0 by omega] at e
      have := Option.some.inj e
      rw [show Y 9 i = (cnA Y i).1 from rfl, ← this]
      exact ⟨w, hw, rfl⟩
  · rw [h2, List.filter_append, h.2.2 q hq6]
    by_cases hz : 8 + q = 8 + w
    · obtain rfl : q = w := by omega
      rw [uR_s, List.map_append, List.filter_cons_of_pos (show cnQ q (cnM q c) = true from decide_eq_true rfl)]
      rfl
    · rw [uR_n hz, List.filter_cons_of_neg (show ¬ cnQ q (cnM w c) = true from fun y => by
        have y : nI w = nI q := of_decide_eq_true y
        have := (nI_eq (by omega) (by omega)).mp y
        omega)]
      exact List.append_nil _
/-- the one that is found goes, in both -/
theorem sN.er {X Y : XT} {n w : Nat} {v : Mu} {p : Cn → Bool} (h : sN X (n + 1) v) (hw : w < 6) (hix : ix (fun c => cnQ w c && p c) (cnL X (n + 1)) < n + 1) (h1 : Y 12 0 = nI n) (h2 : cnL Y n = (cnL X (n + 1)).eraseIdx (ix (fun c => cnQ w c && p c) (cnL X (n + 1)))) : sN Y n (upR v (8 + w) ((uR v (8 + w)).eraseIdx (ix (fun c => p (cnM w c)) (uR v (8 + w))))) := by
  have hlt : ix (fun c => cnQ w c && p c) (cnL X (n + 1)) < (cnL X (n + 1)).length := by rw [cnL_len]; exact hix
  refine ⟨h1, fun i hi => ?_, fun q hq6 => ?_⟩
  · have e : cnA Y i ∈ cnL Y n := List.mem_map.mpr ⟨i, List.mem_range.mpr hi, rfl⟩
    rw [h2] at e
    obtain ⟨j, hj, he⟩ := List.mem_map.mp (List.mem_of_mem_eraseIdx e)
    rw [show Y 9 i = (cnA Y i).1 from rfl, ← he]
    exact h.2.1 j (List.mem_range.mp hj)
  · rw [h2]
    by_cases hz : 8 + q = 8 + w
    · obtain rfl : q = w := by omega
      obtain ⟨g1, g2, g3⟩ := flt_er.1 hlt
      rw [uR_s, g2, h.2.2 q hq6, ix_map, List.eraseIdx_eq_take_drop_succ, List.eraseIdx_eq_take_drop_succ, List.map_append, List.map_take, List.map_drop]
    · rw [uR_n hz, ← h.2.2 q hq6]
      refine flt_ot (fun x hx => ?_)
      obtain ⟨y1, -⟩ := ix_get hx
      rw [Bool.and_eq_true] at y1
      have y1 := of_decide_eq_true y1.1
      refine decide_eq_false (fun y2 => ?_)
      rw [y1] at y2
      have := (nI_eq (by omega) (by omega)).mp y2
      omega
theorem sN_find {X : XT} {n w : Nat} {v : Mu} {p : Cn → Bool} (h : sN X n v) (hw : w < 6) : (ix (fun c => cnQ w c && p c) (cnL X n) < n ↔ ix (fun c => p (cnM w c)) (uR v (8 + w)) < (uR v (8 + w)).length) := by
  have h1 := (flt_er (f := cnQ w) (p := p) (l := cnL X n))
  rw [cnL_len, h.2.2 w hw, ix_map, List.length_map] at h1
  exact ⟨fun y => (h1.1 y).1, fun y => by
    apply Decidable.byContradiction
    intro y2
    exact h1.2 y2 y⟩
theorem n_consume {gc : Nat → Nat} {m : Nat} {M : Nat → Nat} {d : Nat} {X : XT} {s : St} {P T : Nat} {x1 x2 : Int32} {au : Bool} (h : SX 0 X s) (hv : IV P T s) : WM gc m M (d + 3) 120 [.ref m, .int x1, .int x2, .int (b2i au)] X (fun r X' => r = some (.int (opCs s.1 s.2 x1 x2 au).1) ∧ SX 0 X' (s.1, (opCs s.1 s.2 x1 x2 au).2)) := by
  obtain ⟨n, hN⟩ := h.2.2.2.1
  have hN : sN X n s.2 := hN
  have hn24 := sN_24 hN hv.2.2.1
  have bad : (wi x1 0 3 && isQu s.1 x2) = false → TM gc m M (d + 2) 120 (fun r X' => r = some (.int (opCs s.1 s.2 x1 x2 au).1) ∧ SX 0 X' (s.1, (opCs s.1 s.2 x1 x2 au).2)) 16 [.ref m, .int x1, .int x2, .int (b2i au)] [] X := fun hb => by
    have ho : opCs s.1 s.2 x1 x2 au = (-1, s.2) := by
      unfold opCs
      rw [hb]
      rfl
    rw [ho]
    exact N120_16 ⟨rfl, h⟩
  refine N120 ⟨_, n_in (k := 3) (by decide), ?_⟩
  rintro r X3 ⟨rfl, rfl⟩
  refine ⟨_, rfl, fun z => bad (by rw [show wi x1 0 3 = false from b2i_z.mp z]; rfl), fun z => ⟨_, n_isQ h.2.1 hv.1.1, ?_⟩⟩
  rintro r X4 ⟨rfl, rfl⟩
  refine ⟨_, rfl, fun z2 => ?_, fun z2 => bad (by rw [show isQu s.1 x2 = false from b2i_z.mp z2, Bool.and_false])⟩
  have z : wi x1 0 3 = true := b2i_nz z
  have z2 : isQu s.1 x2 = true := b2i_nz z2
  obtain ⟨w, hw, rfl, hd⟩ := isQu_dec z2
  have ho : opCs s.1 s.2 x1 (nI w) au = if ix (nEq x1) (uR s.2 (8 + w)) < (uR s.2 (8 + w)).length then (-3, s.2) else (0, upR s.2 (8 + w) (uR s.2 (8 + w) ++ [(x1, au)])) := by
    unfold opCs
    rw [z, z2, nI_clamp (by omega)]
    rfl
  rw [ho]
  have hfd := sN_find (p := cnC x1) hN hw
  refine N120_18 ⟨_, n_consumer hN.1 (by omega), ?_⟩
  rintro r X5 ⟨rfl, rfl⟩
  refine ⟨_, rfl, fun y => ?_, fun y => ?_⟩
  · by_cases hix : ix (fun c => cnQ w c && cnC x1 c) (cnL X5 n) < n
    · rw [if_pos hix] at y
      exact absurd y (nI_pos (by omega))
    · rw [if_neg (show ¬ ix (nEq x1) (uR s.2 (8 + w)) < (uR s.2 (8 + w)).length from fun y2 => hix (hfd.mpr y2))]
      refine N120_30 ⟨_, n_addC hN.1 (by omega) (b2i_01 _), ?_⟩
      rintro r X6 ⟨rfl, g1, g2, g3⟩
      exact ⟨rfl, rfl, h.cI rfl rfl rfl g1 ⟨n + 1, hN.add hw g2 g3⟩⟩
  · by_cases hix : ix (fun c => cnQ w c && cnC x1 c) (cnL X5 n) < n
    · rw [if_pos (show ix (nEq x1) (uR s.2 (8 + w)) < (uR s.2 (8 + w)).length from hfd.mp hix)]
      exact ⟨rfl, h⟩
    · rw [if_neg hix] at y
      exact absurd (by decide : (-1 : Int32) < 0) y
theorem n_cancel {gc : Nat → Nat} {m : Nat} {M : Nat → Nat} {d : Nat} {X : XT} {s : St} {P T : Nat} {x1 x2 : Int32} (h : SX 0 X s) (hv : IV P T s) : WM gc m M (d + 3) 123 [.ref m, .int x1, .int x2] X (fun r X' => r = some (.int (opCa s.1 s.2 x1 x2).1) ∧ SX 0 X' (s.1, (opCa s.1 s.2 x1 x2).2)) := by
  obtain ⟨n, hN⟩ := h.2.2.2.1
  have hN : sN X n s.2 := hN
  have hn24 := sN_24 hN hv.2.2.1
  have bad : (wi x1 0 3 && isQu s.1 x2) = false → TM gc m M (d + 2) 123 (fun r X' => r = some (.int (opCa s.1 s.2 x1 x2).1) ∧ SX 0 X' (s.1, (opCa s.1 s.2 x1 x2).2)) 16 [.ref m, .int x1, .int x2, .retAddr 0] [] X := fun hb => by
    have ho : opCa s.1 s.2 x1 x2 = (-1, s.2) := by
      unfold opCa
      rw [hb]
      rfl
    rw [ho]
    exact N123_16 ⟨rfl, h⟩
  refine N123 ⟨_, n_in (k := 3) (by decide), ?_⟩
  rintro r X3 ⟨rfl, rfl⟩
  refine ⟨_, rfl, fun z => bad (by rw [show wi x1 0 3 = false from b2i_z.mp z]; rfl), fun z => ⟨_, n_isQ h.2.1 hv.1.1, ?_⟩⟩
  rintro r X4 ⟨rfl, rfl⟩
  refine ⟨_, rfl, fun z2 => ?_, fun z2 => bad (by rw [show isQu s.1 x2 = false from b2i_z.mp z2, Bool.and_false])⟩
  have z : wi x1 0 3 = true := b2i_nz z
  have z2 : isQu s.1 x2 = true := b2i_nz z2
  obtain ⟨w, hw, rfl, hd⟩ := isQu_dec z2
  have ho : opCa s.1 s.2 x1 (nI w) = (if ix (nEq x1) (uR s.2 (8 + w)) < (uR s.2 (8 + w)).length then 0 else -3, upR s.2 (8 + w) (rmN x1 (uR s.2 (8 + w)))) := by
    unfold opCa
    rw [z, z2, nI_clamp (by omega)]
    rfl
  rw [ho]
  have hfd := sN_find (p := cnC x1) hN hw
  refine N123_18 ⟨_, n_consumer hN.1 (by omega), ?_⟩
  rintro r X5 ⟨rfl, rfl⟩
  refine ⟨_, rfl, fun y => ?_, fun y => ?_⟩
  · by_cases hix : ix (fun c => cnQ w c && cnC x1 c) (cnL X5 n) < n
    · have hlt : ix (nEq x1) (uR s.2 (8 + w)) < (uR s.2 (8 + w)).length := hfd.mp hix
      rw [if_pos hix, if_pos hlt]
      obtain ⟨n, rfl⟩ : ∃ k, n = k + 1 := ⟨n - 1, by omega⟩
      refine N123_32 ⟨_, n_rmC hN.1 (by omega) (by omega) (fun j hj => sN_01 hN (by omega)), ?_⟩
      rintro r X6 ⟨rfl, g1, g2, g3⟩
      refine ⟨rfl, rfl, ?_⟩
      have hr : rmN x1 (uR s.2 (8 + w)) = (uR s.2 (8 + w)).eraseIdx (ix (nEq x1) (uR s.2 (8 + w))) := if_pos hlt
      dsimp only
      rw [hr]
      exact h.cI rfl rfl rfl g1 ⟨n, sN.er (p := cnC x1) hN hw hix g2 g3⟩
    · rw [if_neg hix] at y
      exact absurd y (by decide)
  · by_cases hix : ix (fun c => cnQ w c && cnC x1 c) (cnL X5 n) < n
    · rw [if_pos hix] at y
      exact absurd (nI_le (a := 0) (by omega) (by omega)) y
    · have hlt : ¬ ix (nEq x1) (uR s.2 (8 + w)) < (uR s.2 (8 + w)).length := fun y2 => hix (hfd.mpr y2)
      have hr : rmN x1 (uR s.2 (8 + w)) = uR s.2 (8 + w) := if_neg hlt
      rw [if_neg hlt, hr]
      refine ⟨rfl, ?_⟩
      have : upR s.2 (8 + w) (uR s.2 (8 + w)) = s.2 := by
        unfold upR uR
        have : va_up s.2.2.2.1 (8 + w) (s.2.2.2.1 (8 + w)) = s.2.2.2.1 := by
          funext i
          by_cases h1 : i = 8 + w
          · subst h1; rw [va_up_self]
          · rw [va_up_ne _ _ h1]
        rw [this]
      dsimp only
      rw [this]
      exact h
