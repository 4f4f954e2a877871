/-! the cases -/
theorem c_bd {gc : Nat → Nat} {q : PT} {h : AH} {a1 a2 c i : Nat} {xs : List Int32} (hl : xs.length ≤ 3072) (hi : i + 6 ≤ xs.length) (hc : c < 512) (hS : LwS gc a1 a2 (xs.map Value.int) c h) (hK : ∀ h', LwS gc a1 a2 (xs.map Value.int) (c + 1) h' → TL gc 13 q 867 [.ref (gc 2), .ref a1, .ref a2, .int (nI i)] [] h') : TL gc 13 q 252 [.ref (gc 2), .ref a1, .ref a2, .int (nI i)] [] h := by
  obtain ⟨A, I, v, M, X, rfl, hR, hM, hX, hV, hs⟩ := hS
  have hR0 : RC gc h A I v (45 * (512 - (c + 1))) := hR.le (by omega)
  have hB : (uB v 0).length ≤ 24 := hV.1.2.2.2.2.2.2.1.1
  have hB6 : (uB v 0).length ≤ 64 := by omega
  have hn : NOK I := hV.1.1
  have hcq : CQ v := hV.1.2.2.1
  have hb : LB v 360 := hV.1.2.2.2.1
  have hD : ∀ c, c < 4 → (uD v (18 + c)).length ≤ 4 := fun c hc => (hV.2.2.2.1 c hc).1
  have hrb : RB v := RI.rb hV.2.2.1
  have hch : ∀ q, q < 6 → chOK (uR v (8 + q)) := fun q hq6 => RI.ch hV.2.2.1 hq6
  have hhl : ∀ c, c < 4 → (uC v (14 + c)).length ≤ 64 := fun c hc => Nat.le_trans (hb.1 c hc) (by decide)
  have hwl : ∀ q, q < 6 → (uC v (2 + q)).length ≤ 64 := fun q hq6 => by
    have := hb.2.1 q hq6
    omega
  have hP : 42 * c + 42 < 2 ^ 31 := by omega
  have hT : c + 1 < 2 ^ 31 := by omega
  exact L_252 (rd hs hl (n := i + 1) (by omega) (x3n (k := 1) rfl) (rd hs hl (n := i + 2) (by omega) (x3n (k := 2) rfl) (rd hs hl (n := i + 3) (by omega) (x3n (k := 3) rfl) (callC hR0 hM hs (k_bind (hR.le (G := 45 * (512 - (c + 1)) + 1) (by omega)) hB) (fun h9 R9 M9 s9 => (rd s9 hl (n := i + 1) (by omega) (x3n (k := 1) rfl) (rd s9 hl (n := i + 2) (by omega) (x3n (k := 2) rfl) (rd s9 hl (n := i + 3) (by omega) (x3n (k := 3) rfl) (callN (s := (I, (opBd I v (xs.getD (i + 1) 0) (xs.getD (i + 2) 0) (xs.getD (i + 3) 0)).2)) R9 M9 s9 (Nat.le_refl _) (n_bind (s := (I, v)) hX hV) (v_bd (s := (I, v)) hV) (by omega) (by omega) hK)))))))))
theorem c_ub {gc : Nat → Nat} {q : PT} {h : AH} {a1 a2 c i : Nat} {xs : List Int32} (hl : xs.length ≤ 3072) (hi : i + 6 ≤ xs.length) (hc : c < 512) (hS : LwS gc a1 a2 (xs.map Value.int) c h) (hK : ∀ h', LwS gc a1 a2 (xs.map Value.int) (c + 1) h' → TL gc 13 q 867 [.ref (gc 2), .ref a1, .ref a2, .int (nI i)] [] h') : TL gc 13 q 295 [.ref (gc 2), .ref a1, .ref a2, .int (nI i)] [] h := by
  obtain ⟨A, I, v, M, X, rfl, hR, hM, hX, hV, hs⟩ := hS
  have hR0 : RC gc h A I v (45 * (512 - (c + 1))) := hR.le (by omega)
  have hB : (uB v 0).length ≤ 24 := hV.1.2.2.2.2.2.2.1.1
  have hB6 : (uB v 0).length ≤ 64 := by omega
  have hn : NOK I := hV.1.1
  have hcq : CQ v := hV.1.2.2.1
  have hb : LB v 360 := hV.1.2.2.2.1
  have hD : ∀ c, c < 4 → (uD v (18 + c)).length ≤ 4 := fun c hc => (hV.2.2.2.1 c hc).1
  have hrb : RB v := RI.rb hV.2.2.1
  have hch : ∀ q, q < 6 → chOK (uR v (8 + q)) := fun q hq6 => RI.ch hV.2.2.1 hq6
  have hhl : ∀ c, c < 4 → (uC v (14 + c)).length ≤ 64 := fun c hc => Nat.le_trans (hb.1 c hc) (by decide)
  have hwl : ∀ q, q < 6 → (uC v (2 + q)).length ≤ 64 := fun q hq6 => by
    have := hb.2.1 q hq6
    omega
  have hP : 42 * c + 42 < 2 ^ 31 := by omega
  have hT : c + 1 < 2 ^ 31 := by omega
  exact L_295 (rd hs hl (n := i + 1) (by omega) (x3n (k := 1) rfl) (rd hs hl (n := i + 2) (by omega) (x3n (k := 2) rfl) (rd hs hl (n := i + 3) (by omega) (x3n (k := 3) rfl) (callC hR0 hM hs (k_unbind hR0 hB) (fun h9 R9 M9 s9 => (rd s9 hl (n := i + 1) (by omega) (x3n (k := 1) rfl) (rd s9 hl (n := i + 2) (by omega) (x3n (k := 2) rfl) (rd s9 hl (n := i + 3) (by omega) (x3n (k := 3) rfl) (callN (s := (I, (opUb I v (xs.getD (i + 1) 0) (xs.getD (i + 2) 0) (xs.getD (i + 3) 0)).2)) R9 M9 s9 (Nat.le_refl _) (n_unbind (s := (I, v)) hX hV) (v_ub (s := (I, v)) hV) (by omega) (by omega) hK)))))))))
theorem c_dr {gc : Nat → Nat} {q : PT} {h : AH} {a1 a2 c i : Nat} {xs : List Int32} (hl : xs.length ≤ 3072) (hi : i + 6 ≤ xs.length) (hc : c < 512) (hS : LwS gc a1 a2 (xs.map Value.int) c h) (hK : ∀ h', LwS gc a1 a2 (xs.map Value.int) (c + 1) h' → TL gc 13 q 867 [.ref (gc 2), .ref a1, .ref a2, .int (nI i)] [] h') : TL gc 13 q 338 [.ref (gc 2), .ref a1, .ref a2, .int (nI i)] [] h := by
  obtain ⟨A, I, v, M, X, rfl, hR, hM, hX, hV, hs⟩ := hS
  have hR0 : RC gc h A I v (45 * (512 - (c + 1))) := hR.le (by omega)
  have hB : (uB v 0).length ≤ 24 := hV.1.2.2.2.2.2.2.1.1
  have hB6 : (uB v 0).length ≤ 64 := by omega
  have hn : NOK I := hV.1.1
  have hcq : CQ v := hV.1.2.2.1
  have hb : LB v 360 := hV.1.2.2.2.1
  have hD : ∀ c, c < 4 → (uD v (18 + c)).length ≤ 4 := fun c hc => (hV.2.2.2.1 c hc).1
  have hrb : RB v := RI.rb hV.2.2.1
  have hch : ∀ q, q < 6 → chOK (uR v (8 + q)) := fun q hq6 => RI.ch hV.2.2.1 hq6
  have hhl : ∀ c, c < 4 → (uC v (14 + c)).length ≤ 64 := fun c hc => Nat.le_trans (hb.1 c hc) (by decide)
  have hwl : ∀ q, q < 6 → (uC v (2 + q)).length ≤ 64 := fun q hq6 => by
    have := hb.2.1 q hq6
    omega
  have hP : 42 * c + 42 < 2 ^ 31 := by omega
  have hT : c + 1 < 2 ^ 31 := by omega
  exact L_338 (rd hs hl (n := i + 1) (by omega) (x3n (k := 1) rfl) (callC hR0 hM hs (k_drop hR0 hB6 hhl) (fun h9 R9 M9 s9 => (rd s9 hl (n := i + 1) (by omega) (x3n (k := 1) rfl) (callN (s := (opDr (I, v) (xs.getD (i + 1) 0)).2) R9 M9 s9 (Nat.le_refl _) (n_drop (s := (I, v)) hX hV) (v_dr (s := (I, v)) hV) (by omega) (by omega) hK)))))
theorem c_pb {gc : Nat → Nat} {q : PT} {h : AH} {a1 a2 c i : Nat} {xs : List Int32} (hl : xs.length ≤ 3072) (hi : i + 6 ≤ xs.length) (hc : c < 512) (hS : LwS gc a1 a2 (xs.map Value.int) c h) (hK : ∀ h', LwS gc a1 a2 (xs.map Value.int) (c + 1) h' → TL gc 13 q 867 [.ref (gc 2), .ref a1, .ref a2, .int (nI i)] [] h') : TL gc 13 q 361 [.ref (gc 2), .ref a1, .ref a2, .int (nI i)] [] h := by
  obtain ⟨A, I, v, M, X, rfl, hR, hM, hX, hV, hs⟩ := hS
  have hR0 : RC gc h A I v (45 * (512 - (c + 1))) := hR.le (by omega)
  have hB : (uB v 0).length ≤ 24 := hV.1.2.2.2.2.2.2.1.1
  have hB6 : (uB v 0).length ≤ 64 := by omega
  have hn : NOK I := hV.1.1
  have hcq : CQ v := hV.1.2.2.1
  have hb : LB v 360 := hV.1.2.2.2.1
  have hD : ∀ c, c < 4 → (uD v (18 + c)).length ≤ 4 := fun c hc => (hV.2.2.2.1 c hc).1
  have hrb : RB v := RI.rb hV.2.2.1
  have hch : ∀ q, q < 6 → chOK (uR v (8 + q)) := fun q hq6 => RI.ch hV.2.2.1 hq6
  have hhl : ∀ c, c < 4 → (uC v (14 + c)).length ≤ 64 := fun c hc => Nat.le_trans (hb.1 c hc) (by decide)
  have hwl : ∀ q, q < 6 → (uC v (2 + q)).length ≤ 64 := fun q hq6 => by
    have := hb.2.1 q hq6
    omega
  have hP : 42 * c + 42 < 2 ^ 31 := by omega
  have hT : c + 1 < 2 ^ 31 := by omega
  exact L_361 (rd hs hl (n := i + 1) (by omega) (x3n (k := 1) rfl) (rd hs hl (n := i + 2) (by omega) (x3n (k := 2) rfl) (rd hs hl (n := i + 3) (by omega) (x3n (k := 3) rfl) (rd hs hl (n := i + 4) (by omega) (x3n (k := 4) rfl) (rd hs hl (n := i + 5) (by omega) (x3n (k := 5) rfl) (callC hR0 hM hs (k_publish (hR.le (G := 45 * (512 - (c + 1)) + 28) (by omega)) hB6 hn hcq hb hD) (fun h9 R9 M9 s9 => (rd s9 hl (n := i + 1) (by omega) (x3n (k := 1) rfl) (rd s9 hl (n := i + 2) (by omega) (x3n (k := 2) rfl) (rd s9 hl (n := i + 3) (by omega) (x3n (k := 3) rfl) (rd s9 hl (n := i + 4) (by omega) (x3n (k := 4) rfl) (rd s9 hl (n := i + 5) (by omega) (x3n (k := 5) rfl) (callN (s := (opPb (I, v) (xs.getD (i + 1) 0) (xs.getD (i + 2) 0) (xs.getD (i + 3) 0) (xs.getD (i + 4) 0) (xs.getD (i + 5) 0)).2) R9 M9 s9 (Nat.le_refl _) (n_publish (s := (I, v)) hX hV hP) (v_pb (s := (I, v)) hV hP) (by omega) (by omega) hK)))))))))))))
theorem c_ca {gc : Nat → Nat} {q : PT} {h : AH} {a1 a2 c i : Nat} {xs : List Int32} (hl : xs.length ≤ 3072) (hi : i + 6 ≤ xs.length) (hc : c < 512) (hS : LwS gc a1 a2 (xs.map Value.int) c h) (hK : ∀ h', LwS gc a1 a2 (xs.map Value.int) (c + 1) h' → TL gc 13 q 867 [.ref (gc 2), .ref a1, .ref a2, .int (nI i)] [] h') : TL gc 13 q 483 [.ref (gc 2), .ref a1, .ref a2, .int (nI i)] [] h := by
  obtain ⟨A, I, v, M, X, rfl, hR, hM, hX, hV, hs⟩ := hS
  have hR0 : RC gc h A I v (45 * (512 - (c + 1))) := hR.le (by omega)
  have hB : (uB v 0).length ≤ 24 := hV.1.2.2.2.2.2.2.1.1
  have hB6 : (uB v 0).length ≤ 64 := by omega
  have hn : NOK I := hV.1.1
  have hcq : CQ v := hV.1.2.2.1
  have hb : LB v 360 := hV.1.2.2.2.1
  have hD : ∀ c, c < 4 → (uD v (18 + c)).length ≤ 4 := fun c hc => (hV.2.2.2.1 c hc).1
  have hrb : RB v := RI.rb hV.2.2.1
  have hch : ∀ q, q < 6 → chOK (uR v (8 + q)) := fun q hq6 => RI.ch hV.2.2.1 hq6
  have hhl : ∀ c, c < 4 → (uC v (14 + c)).length ≤ 64 := fun c hc => Nat.le_trans (hb.1 c hc) (by decide)
  have hwl : ∀ q, q < 6 → (uC v (2 + q)).length ≤ 64 := fun q hq6 => by
    have := hb.2.1 q hq6
    omega
  have hP : 42 * c + 42 < 2 ^ 31 := by omega
  have hT : c + 1 < 2 ^ 31 := by omega
  exact L_483 (rd hs hl (n := i + 1) (by omega) (x3n (k := 1) rfl) (rd hs hl (n := i + 2) (by omega) (x3n (k := 2) rfl) (callC hR0 hM hs (k_cancel hR0 hrb) (fun h9 R9 M9 s9 => (rd s9 hl (n := i + 1) (by omega) (x3n (k := 1) rfl) (rd s9 hl (n := i + 2) (by omega) (x3n (k := 2) rfl) (callN (s := (I, (opCa I v (xs.getD (i + 1) 0) (xs.getD (i + 2) 0)).2)) R9 M9 s9 (Nat.le_refl _) (n_cancel (s := (I, v)) hX hV) (v_ca (s := (I, v)) hV) (by omega) (by omega) hK)))))))
theorem c_dl {gc : Nat → Nat} {q : PT} {h : AH} {a1 a2 c i : Nat} {xs : List Int32} (hl : xs.length ≤ 3072) (hi : i + 6 ≤ xs.length) (hc : c < 512) (hS : LwS gc a1 a2 (xs.map Value.int) c h) (hK : ∀ h', LwS gc a1 a2 (xs.map Value.int) (c + 1) h' → TL gc 13 q 867 [.ref (gc 2), .ref a1, .ref a2, .int (nI i)] [] h') : TL gc 13 q 516 [.ref (gc 2), .ref a1, .ref a2, .int (nI i)] [] h := by
  obtain ⟨A, I, v, M, X, rfl, hR, hM, hX, hV, hs⟩ := hS
  have hR0 : RC gc h A I v (45 * (512 - (c + 1))) := hR.le (by omega)
  have hB : (uB v 0).length ≤ 24 := hV.1.2.2.2.2.2.2.1.1
  have hB6 : (uB v 0).length ≤ 64 := by omega
  have hn : NOK I := hV.1.1
  have hcq : CQ v := hV.1.2.2.1
  have hb : LB v 360 := hV.1.2.2.2.1
  have hD : ∀ c, c < 4 → (uD v (18 + c)).length ≤ 4 := fun c hc => (hV.2.2.2.1 c hc).1
  have hrb : RB v := RI.rb hV.2.2.1
  have hch : ∀ q, q < 6 → chOK (uR v (8 + q)) := fun q hq6 => RI.ch hV.2.2.1 hq6
  have hhl : ∀ c, c < 4 → (uC v (14 + c)).length ≤ 64 := fun c hc => Nat.le_trans (hb.1 c hc) (by decide)
  have hwl : ∀ q, q < 6 → (uC v (2 + q)).length ≤ 64 := fun q hq6 => by
    have := hb.2.1 q hq6
    omega
  have hP : 42 * c + 42 < 2 ^ 31 := by omega
  have hT : c + 1 < 2 ^ 31 := by omega
  exact L_516 (rd hs hl (n := i + 1) (by omega) (x3n (k := 1) rfl) (callC hR0 hM hs (k_deliver hR0 hrb hch hhl) (fun h9 R9 M9 s9 => (rd s9 hl (n := i + 1) (by omega) (x3n (k := 1) rfl) (callN (s := ((opDl I v (xs.getD (i + 1) 0)).2.1, (opDl I v (xs.getD (i + 1) 0)).2.2)) R9 M9 s9 (Nat.le_refl _) (n_deliver (s := (I, v)) hX hV hT) (v_dl (s := (I, v)) hV hT) (by omega) (by omega) hK)))))
theorem c_pf {gc : Nat → Nat} {q : PT} {h : AH} {a1 a2 c i : Nat} {xs : List Int32} (hl : xs.length ≤ 3072) (hi : i + 6 ≤ xs.length) (hc : c < 512) (hS : LwS gc a1 a2 (xs.map Value.int) c h) (hK : ∀ h', LwS gc a1 a2 (xs.map Value.int) (c + 1) h' → TL gc 13 q 867 [.ref (gc 2), .ref a1, .ref a2, .int (nI i)] [] h') : TL gc 13 q 608 [.ref (gc 2), .ref a1, .ref a2, .int (nI i)] [] h := by
  obtain ⟨A, I, v, M, X, rfl, hR, hM, hX, hV, hs⟩ := hS
  have hR0 : RC gc h A I v (45 * (512 - (c + 1))) := hR.le (by omega)
  have hB : (uB v 0).length ≤ 24 := hV.1.2.2.2.2.2.2.1.1
  have hB6 : (uB v 0).length ≤ 64 := by omega
  have hn : NOK I := hV.1.1
  have hcq : CQ v := hV.1.2.2.1
  have hb : LB v 360 := hV.1.2.2.2.1
  have hD : ∀ c, c < 4 → (uD v (18 + c)).length ≤ 4 := fun c hc => (hV.2.2.2.1 c hc).1
  have hrb : RB v := RI.rb hV.2.2.1
  have hch : ∀ q, q < 6 → chOK (uR v (8 + q)) := fun q hq6 => RI.ch hV.2.2.1 hq6
  have hhl : ∀ c, c < 4 → (uC v (14 + c)).length ≤ 64 := fun c hc => Nat.le_trans (hb.1 c hc) (by decide)
  have hwl : ∀ q, q < 6 → (uC v (2 + q)).length ≤ 64 := fun q hq6 => by
    have := hb.2.1 q hq6
    omega
  have hP : 42 * c + 42 < 2 ^ 31 := by omega
  have hT : c + 1 < 2 ^ 31 := by omega
  exact L_608 (rd hs hl (n := i + 1) (by omega) (x3n (k := 1) rfl) (rd hs hl (n := i + 2) (by omega) (x3n (k := 2) rfl) (callC hR0 hM hs (k_prefetch hR0) (fun h9 R9 M9 s9 => (rd s9 hl (n := i + 1) (by omega) (x3n (k := 1) rfl) (rd s9 hl (n := i + 2) (by omega) (x3n (k := 2) rfl) (callN (s := ((opPf I (xs.getD (i + 1) 0) (xs.getD (i + 2) 0)).2, v)) R9 M9 s9 (Nat.le_refl _) (n_prefetch (s := (I, v)) hX hV) (v_pf (s := (I, v)) hV) (by omega) (by omega) hK)))))))
theorem c_bg {gc : Nat → Nat} {q : PT} {h : AH} {a1 a2 c i : Nat} {xs : List Int32} (hl : xs.length ≤ 3072) (hi : i + 6 ≤ xs.length) (hc : c < 512) (hS : LwS gc a1 a2 (xs.map Value.int) c h) (hK : ∀ h', LwS gc a1 a2 (xs.map Value.int) (c + 1) h' → TL gc 13 q 867 [.ref (gc 2), .ref a1, .ref a2, .int (nI i)] [] h') : TL gc 13 q 641 [.ref (gc 2), .ref a1, .ref a2, .int (nI i)] [] h := by
  obtain ⟨A, I, v, M, X, rfl, hR, hM, hX, hV, hs⟩ := hS
  have hR0 : RC gc h A I v (45 * (512 - (c + 1))) := hR.le (by omega)
  have hB : (uB v 0).length ≤ 24 := hV.1.2.2.2.2.2.2.1.1
  have hB6 : (uB v 0).length ≤ 64 := by omega
  have hn : NOK I := hV.1.1
  have hcq : CQ v := hV.1.2.2.1
  have hb : LB v 360 := hV.1.2.2.2.1
  have hD : ∀ c, c < 4 → (uD v (18 + c)).length ≤ 4 := fun c hc => (hV.2.2.2.1 c hc).1
  have hrb : RB v := RI.rb hV.2.2.1
  have hch : ∀ q, q < 6 → chOK (uR v (8 + q)) := fun q hq6 => RI.ch hV.2.2.1 hq6
  have hhl : ∀ c, c < 4 → (uC v (14 + c)).length ≤ 64 := fun c hc => Nat.le_trans (hb.1 c hc) (by decide)
  have hwl : ∀ q, q < 6 → (uC v (2 + q)).length ≤ 64 := fun q hq6 => by
    have := hb.2.1 q hq6
    omega
  have hP : 42 * c + 42 < 2 ^ 31 := by omega
  have hT : c + 1 < 2 ^ 31 := by omega
  exact L_641 (rd hs hl (n := i + 1) (by omega) (x3n (k := 1) rfl) (callC hR0 hM hs (k_begin hR0) (fun h9 R9 M9 s9 => (rd s9 hl (n := i + 1) (by omega) (x3n (k := 1) rfl) (callN (s := ((opBg I (xs.getD (i + 1) 0)).2, v)) R9 M9 s9 (Nat.le_refl _) (n_begin (s := (I, v)) hX hV) (v_bg (s := (I, v)) hV) (by omega) (by omega) hK)))))
theorem c_cm {gc : Nat → Nat} {q : PT} {h : AH} {a1 a2 c i : Nat} {xs : List Int32} (hl : xs.length ≤ 3072) (hi : i + 6 ≤ xs.length) (hc : c < 512) (hS : LwS gc a1 a2 (xs.map Value.int) c h) (hK : ∀ h', LwS gc a1 a2 (xs.map Value.int) (c + 1) h' → TL gc 13 q 867 [.ref (gc 2), .ref a1, .ref a2, .int (nI i)] [] h') : TL gc 13 q 664 [.ref (gc 2), .ref a1, .ref a2, .int (nI i)] [] h := by
  obtain ⟨A, I, v, M, X, rfl, hR, hM, hX, hV, hs⟩ := hS
  have hR0 : RC gc h A I v (45 * (512 - (c + 1))) := hR.le (by omega)
  have hB : (uB v 0).length ≤ 24 := hV.1.2.2.2.2.2.2.1.1
  have hB6 : (uB v 0).length ≤ 64 := by omega
  have hn : NOK I := hV.1.1
  have hcq : CQ v := hV.1.2.2.1
  have hb : LB v 360 := hV.1.2.2.2.1
  have hD : ∀ c, c < 4 → (uD v (18 + c)).length ≤ 4 := fun c hc => (hV.2.2.2.1 c hc).1
  have hrb : RB v := RI.rb hV.2.2.1
  have hch : ∀ q, q < 6 → chOK (uR v (8 + q)) := fun q hq6 => RI.ch hV.2.2.1 hq6
  have hhl : ∀ c, c < 4 → (uC v (14 + c)).length ≤ 64 := fun c hc => Nat.le_trans (hb.1 c hc) (by decide)
  have hwl : ∀ q, q < 6 → (uC v (2 + q)).length ≤ 64 := fun q hq6 => by
    have := hb.2.1 q hq6
    omega
  have hP : 42 * c + 42 < 2 ^ 31 := by omega
  have hT : c + 1 < 2 ^ 31 := by omega
  exact L_664 (rd hs hl (n := i + 1) (by omega) (x3n (k := 1) rfl) (callC hR0 hM hs (k_commit (hR.le (G := 45 * (512 - (c + 1)) + 45) (by omega)) hB6 hn hcq hb hD) (fun h9 R9 M9 s9 => (rd s9 hl (n := i + 1) (by omega) (x3n (k := 1) rfl) (callN (s := (opCm (I, v) (xs.getD (i + 1) 0)).2) R9 M9 s9 (Nat.le_refl _) (n_commit (s := (I, v)) hX hV hP) (v_cm (s := (I, v)) hV hP) (by omega) (by omega) hK)))))
theorem c_rb {gc : Nat → Nat} {q : PT} {h : AH} {a1 a2 c i : Nat} {xs : List Int32} (hl : xs.length ≤ 3072) (hi : i + 6 ≤ xs.length) (hc : c < 512) (hS : LwS gc a1 a2 (xs.map Value.int) c h) (hK : ∀ h', LwS gc a1 a2 (xs.map Value.int) (c + 1) h' → TL gc 13 q 867 [.ref (gc 2), .ref a1, .ref a2, .int (nI i)] [] h') : TL gc 13 q 687 [.ref (gc 2), .ref a1, .ref a2, .int (nI i)] [] h := by
  obtain ⟨A, I, v, M, X, rfl, hR, hM, hX, hV, hs⟩ := hS
  have hR0 : RC gc h A I v (45 * (512 - (c + 1))) := hR.le (by omega)
  have hB : (uB v 0).length ≤ 24 := hV.1.2.2.2.2.2.2.1.1
  have hB6 : (uB v 0).length ≤ 64 := by omega
  have hn : NOK I := hV.1.1
  have hcq : CQ v := hV.1.2.2.1
  have hb : LB v 360 := hV.1.2.2.2.1
  have hD : ∀ c, c < 4 → (uD v (18 + c)).length ≤ 4 := fun c hc => (hV.2.2.2.1 c hc).1
  have hrb : RB v := RI.rb hV.2.2.1
  have hch : ∀ q, q < 6 → chOK (uR v (8 + q)) := fun q hq6 => RI.ch hV.2.2.1 hq6
  have hhl : ∀ c, c < 4 → (uC v (14 + c)).length ≤ 64 := fun c hc => Nat.le_trans (hb.1 c hc) (by decide)
  have hwl : ∀ q, q < 6 → (uC v (2 + q)).length ≤ 64 := fun q hq6 => by
    have := hb.2.1 q hq6
    omega
  have hP : 42 * c + 42 < 2 ^ 31 := by omega
  have hT : c + 1 < 2 ^ 31 := by omega
  exact L_687 (rd hs hl (n := i + 1) (by omega) (x3n (k := 1) rfl) (callC hR0 hM hs (k_rollback hR0 hb) (fun h9 R9 M9 s9 => (rd s9 hl (n := i + 1) (by omega) (x3n (k := 1) rfl) (callN (s := (opRb (I, v) (xs.getD (i + 1) 0)).2) R9 M9 s9 (Nat.le_refl _) (n_rollback (s := (I, v)) hX hV) (v_rb (s := (I, v)) hV) (by omega) (by omega) hK)))))
theorem c_cl {gc : Nat → Nat} {q : PT} {h : AH} {a1 a2 c i : Nat} {xs : List Int32} (hl : xs.length ≤ 3072) (hi : i + 6 ≤ xs.length) (hc : c < 512) (hS : LwS gc a1 a2 (xs.map Value.int) c h) (hK : ∀ h', LwS gc a1 a2 (xs.map Value.int) (c + 1) h' → TL gc 13 q 867 [.ref (gc 2), .ref a1, .ref a2, .int (nI i)] [] h') : TL gc 13 q 710 [.ref (gc 2), .ref a1, .ref a2, .int (nI i)] [] h := by
  obtain ⟨A, I, v, M, X, rfl, hR, hM, hX, hV, hs⟩ := hS
  have hR0 : RC gc h A I v (45 * (512 - (c + 1))) := hR.le (by omega)
  have hB : (uB v 0).length ≤ 24 := hV.1.2.2.2.2.2.2.1.1
  have hB6 : (uB v 0).length ≤ 64 := by omega
  have hn : NOK I := hV.1.1
  have hcq : CQ v := hV.1.2.2.1
  have hb : LB v 360 := hV.1.2.2.2.1
  have hD : ∀ c, c < 4 → (uD v (18 + c)).length ≤ 4 := fun c hc => (hV.2.2.2.1 c hc).1
  have hrb : RB v := RI.rb hV.2.2.1
  have hch : ∀ q, q < 6 → chOK (uR v (8 + q)) := fun q hq6 => RI.ch hV.2.2.1 hq6
  have hhl : ∀ c, c < 4 → (uC v (14 + c)).length ≤ 64 := fun c hc => Nat.le_trans (hb.1 c hc) (by decide)
  have hwl : ∀ q, q < 6 → (uC v (2 + q)).length ≤ 64 := fun q hq6 => by
    have := hb.2.1 q hq6
    omega
  have hP : 42 * c + 42 < 2 ^ 31 := by omega
  have hT : c + 1 < 2 ^ 31 := by omega
  exact L_710 (rd hs hl (n := i + 1) (by omega) (x3n (k := 1) rfl) (callC hR0 hM hs (k_close hR0 hcq hb hrb) (fun h9 R9 M9 s9 => (rd s9 hl (n := i + 1) (by omega) (x3n (k := 1) rfl) (callN (s := (opCl (I, v) (xs.getD (i + 1) 0)).2) R9 M9 s9 (Nat.le_refl _) (n_close (s := (I, v)) hX hV) (v_cl (s := (I, v)) hV) (by omega) (by omega) hK)))))
theorem c_cr {gc : Nat → Nat} {q : PT} {h : AH} {a1 a2 c i : Nat} {xs : List Int32} (hl : xs.length ≤ 3072) (hi : i + 6 ≤ xs.length) (hc : c < 512) (hS : LwS gc a1 a2 (xs.map Value.int) c h) (hK : ∀ h', LwS gc a1 a2 (xs.map Value.int) (c + 1) h' → TL gc 13 q 867 [.ref (gc 2), .ref a1, .ref a2, .int (nI i)] [] h') : TL gc 13 q 733 [.ref (gc 2), .ref a1, .ref a2, .int (nI i)] [] h := by
  obtain ⟨A, I, v, M, X, rfl, hR, hM, hX, hV, hs⟩ := hS
  have hR0 : RC gc h A I v (45 * (512 - (c + 1))) := hR.le (by omega)
  have hB : (uB v 0).length ≤ 24 := hV.1.2.2.2.2.2.2.1.1
  have hB6 : (uB v 0).length ≤ 64 := by omega
  have hn : NOK I := hV.1.1
  have hcq : CQ v := hV.1.2.2.1
  have hb : LB v 360 := hV.1.2.2.2.1
  have hD : ∀ c, c < 4 → (uD v (18 + c)).length ≤ 4 := fun c hc => (hV.2.2.2.1 c hc).1
  have hrb : RB v := RI.rb hV.2.2.1
  have hch : ∀ q, q < 6 → chOK (uR v (8 + q)) := fun q hq6 => RI.ch hV.2.2.1 hq6
  have hhl : ∀ c, c < 4 → (uC v (14 + c)).length ≤ 64 := fun c hc => Nat.le_trans (hb.1 c hc) (by decide)
  have hwl : ∀ q, q < 6 → (uC v (2 + q)).length ≤ 64 := fun q hq6 => by
    have := hb.2.1 q hq6
    omega
  have hP : 42 * c + 42 < 2 ^ 31 := by omega
  have hT : c + 1 < 2 ^ 31 := by omega
  exact L_733 (callC hR0 hM hs (k_crash hR0 hcq hb hrb hB6) (fun h9 R9 M9 s9 => (callN (s := (opCr (I, v)).2) R9 M9 s9 (Nat.le_refl _) (n_crash (s := (I, v)) hX hV) (v_cr (s := (I, v)) hV) (by omega) (by omega) hK)))
theorem c_ry {gc : Nat → Nat} {q : PT} {h : AH} {a1 a2 c i : Nat} {xs : List Int32} (hl : xs.length ≤ 3072) (hi : i + 6 ≤ xs.length) (hc : c < 512) (hS : LwS gc a1 a2 (xs.map Value.int) c h) (hK : ∀ h', LwS gc a1 a2 (xs.map Value.int) (c + 1) h' → TL gc 13 q 867 [.ref (gc 2), .ref a1, .ref a2, .int (nI i)] [] h') : TL gc 13 q 746 [.ref (gc 2), .ref a1, .ref a2, .int (nI i)] [] h := by
  obtain ⟨A, I, v, M, X, rfl, hR, hM, hX, hV, hs⟩ := hS
  have hR0 : RC gc h A I v (45 * (512 - (c + 1))) := hR.le (by omega)
  have hB : (uB v 0).length ≤ 24 := hV.1.2.2.2.2.2.2.1.1
  have hB6 : (uB v 0).length ≤ 64 := by omega
  have hn : NOK I := hV.1.1
  have hcq : CQ v := hV.1.2.2.1
  have hb : LB v 360 := hV.1.2.2.2.1
  have hD : ∀ c, c < 4 → (uD v (18 + c)).length ≤ 4 := fun c hc => (hV.2.2.2.1 c hc).1
  have hrb : RB v := RI.rb hV.2.2.1
  have hch : ∀ q, q < 6 → chOK (uR v (8 + q)) := fun q hq6 => RI.ch hV.2.2.1 hq6
  have hhl : ∀ c, c < 4 → (uC v (14 + c)).length ≤ 64 := fun c hc => Nat.le_trans (hb.1 c hc) (by decide)
  have hwl : ∀ q, q < 6 → (uC v (2 + q)).length ≤ 64 := fun q hq6 => by
    have := hb.2.1 q hq6
    omega
  have hP : 42 * c + 42 < 2 ^ 31 := by omega
  have hT : c + 1 < 2 ^ 31 := by omega
  exact L_746 (rd hs hl (n := i + 1) (by omega) (x3n (k := 1) rfl) (rd hs hl (n := i + 2) (by omega) (x3n (k := 2) rfl) (rd hs hl (n := i + 3) (by omega) (x3n (k := 3) rfl) (callCl hR0 hM hs (k_ready hR0 hwl) (fun h9 R9 M9 s9 => (rd s9 hl (n := i + 1) (by omega) (x3n (k := 1) rfl) (rd s9 hl (n := i + 2) (by omega) (x3n (k := 2) rfl) (rd s9 hl (n := i + 3) (by omega) (x3n (k := 3) rfl) (callNl (s := (I, v)) R9 M9 s9 (Nat.le_refl _) (n_ready (s := (I, v)) hX hV) (hV) (by omega) (by omega) hK)))))))))
theorem c_hd {gc : Nat → Nat} {q : PT} {h : AH} {a1 a2 c i : Nat} {xs : List Int32} (hl : xs.length ≤ 3072) (hi : i + 6 ≤ xs.length) (hc : c < 512) (hS : LwS gc a1 a2 (xs.map Value.int) c h) (hK : ∀ h', LwS gc a1 a2 (xs.map Value.int) (c + 1) h' → TL gc 13 q 867 [.ref (gc 2), .ref a1, .ref a2, .int (nI i)] [] h') : TL gc 13 q 790 [.ref (gc 2), .ref a1, .ref a2, .int (nI i)] [] h := by
  obtain ⟨A, I, v, M, X, rfl, hR, hM, hX, hV, hs⟩ := hS
  have hR0 : RC gc h A I v (45 * (512 - (c + 1))) := hR.le (by omega)
  have hB : (uB v 0).length ≤ 24 := hV.1.2.2.2.2.2.2.1.1
  have hB6 : (uB v 0).length ≤ 64 := by omega
  have hn : NOK I := hV.1.1
  have hcq : CQ v := hV.1.2.2.1
  have hb : LB v 360 := hV.1.2.2.2.1
  have hD : ∀ c, c < 4 → (uD v (18 + c)).length ≤ 4 := fun c hc => (hV.2.2.2.1 c hc).1
  have hrb : RB v := RI.rb hV.2.2.1
  have hch : ∀ q, q < 6 → chOK (uR v (8 + q)) := fun q hq6 => RI.ch hV.2.2.1 hq6
  have hhl : ∀ c, c < 4 → (uC v (14 + c)).length ≤ 64 := fun c hc => Nat.le_trans (hb.1 c hc) (by decide)
  have hwl : ∀ q, q < 6 → (uC v (2 + q)).length ≤ 64 := fun q hq6 => by
    have := hb.2.1 q hq6
    omega
  have hP : 42 * c + 42 < 2 ^ 31 := by omega
  have hT : c + 1 < 2 ^ 31 := by omega
  exact L_790 (rd hs hl (n := i + 1) (by omega) (x3n (k := 1) rfl) (rd hs hl (n := i + 2) (by omega) (x3n (k := 2) rfl) (rd hs hl (n := i + 3) (by omega) (x3n (k := 3) rfl) (callCl hR0 hM hs (k_heldR hR0 hhl) (fun h9 R9 M9 s9 => (rd s9 hl (n := i + 1) (by omega) (x3n (k := 1) rfl) (rd s9 hl (n := i + 2) (by omega) (x3n (k := 2) rfl) (rd s9 hl (n := i + 3) (by omega) (x3n (k := 3) rfl) (callNl (s := (I, v)) R9 M9 s9 (Nat.le_refl _) (n_held (s := (I, v)) hX hV) (hV) (by omega) (by omega) hK)))))))))
theorem c_ct {gc : Nat → Nat} {q : PT} {h : AH} {a1 a2 c i : Nat} {xs : List Int32} (hl : xs.length ≤ 3072) (hi : i + 6 ≤ xs.length) (hc : c < 512) (hS : LwS gc a1 a2 (xs.map Value.int) c h) (hK : ∀ h', LwS gc a1 a2 (xs.map Value.int) (c + 1) h' → TL gc 13 q 867 [.ref (gc 2), .ref a1, .ref a2, .int (nI i)] [] h') : TL gc 13 q 834 [.ref (gc 2), .ref a1, .ref a2, .int (nI i)] [] h := by
  obtain ⟨A, I, v, M, X, rfl, hR, hM, hX, hV, hs⟩ := hS
  have hR0 : RC gc h A I v (45 * (512 - (c + 1))) := hR.le (by omega)
  have hB : (uB v 0).length ≤ 24 := hV.1.2.2.2.2.2.2.1.1
  have hB6 : (uB v 0).length ≤ 64 := by omega
  have hn : NOK I := hV.1.1
  have hcq : CQ v := hV.1.2.2.1
  have hb : LB v 360 := hV.1.2.2.2.1
  have hD : ∀ c, c < 4 → (uD v (18 + c)).length ≤ 4 := fun c hc => (hV.2.2.2.1 c hc).1
  have hrb : RB v := RI.rb hV.2.2.1
  have hch : ∀ q, q < 6 → chOK (uR v (8 + q)) := fun q hq6 => RI.ch hV.2.2.1 hq6
  have hhl : ∀ c, c < 4 → (uC v (14 + c)).length ≤ 64 := fun c hc => Nat.le_trans (hb.1 c hc) (by decide)
  have hwl : ∀ q, q < 6 → (uC v (2 + q)).length ≤ 64 := fun q hq6 => by
    have := hb.2.1 q hq6
    omega
  have hP : 42 * c + 42 < 2 ^ 31 := by omega
  have hT : c + 1 < 2 ^ 31 := by omega
  exact L_834 (rd hs hl (n := i + 1) (by omega) (x3n (k := 1) rfl) (rd hs hl (n := i + 2) (by omega) (x3n (k := 2) rfl) (callC hR0 hM hs (k_countR hR0 hrb hB6) (fun h9 R9 M9 s9 => (rd s9 hl (n := i + 1) (by omega) (x3n (k := 1) rfl) (rd s9 hl (n := i + 2) (by omega) (x3n (k := 2) rfl) (callN (s := (I, v)) R9 M9 s9 (Nat.le_refl _) (n_count (s := (I, v)) hX hV) (hV) (by omega) (by omega) hK)))))))
theorem c_ex1 {gc : Nat → Nat} {q : PT} {h : AH} {a1 a2 c i : Nat} {xs : List Int32} {b : Bool} (hl : xs.length ≤ 3072) (hi : i + 6 ≤ xs.length) (hc : c < 512) (hS : LwS gc a1 a2 (xs.map Value.int) c h) (hK : ∀ h', LwS gc a1 a2 (xs.map Value.int) (c + 1) h' → TL gc 13 q 867 [.ref (gc 2), .ref a1, .ref a2, .int (nI i)] [] h') (hb0 : xs.getD (i + 3) 0 = 0 → b = false) (hb1 : ¬ xs.getD (i + 3) 0 = 0 → b = true) : TL gc 13 q 148 [.ref (gc 2), .ref a1, .ref a2, .int (nI i)] [.int (b2i b), .int (xs.getD (i + 2) 0), .int (xs.getD (i + 1) 0), .ref a1] h := by
  obtain ⟨A, I, v, M, X, rfl, hR, hM, hX, hV, hs⟩ := hS
  have hR0 : RC gc h A I v (45 * (512 - (c + 1))) := hR.le (by omega)
  have hB : (uB v 0).length ≤ 24 := hV.1.2.2.2.2.2.2.1.1
  have hB6 : (uB v 0).length ≤ 64 := by omega
  have hn : NOK I := hV.1.1
  have hcq : CQ v := hV.1.2.2.1
  have hb : LB v 360 := hV.1.2.2.2.1
  have hD : ∀ c, c < 4 → (uD v (18 + c)).length ≤ 4 := fun c hc => (hV.2.2.2.1 c hc).1
  have hrb : RB v := RI.rb hV.2.2.1
  have hch : ∀ q, q < 6 → chOK (uR v (8 + q)) := fun q hq6 => RI.ch hV.2.2.1 hq6
  have hhl : ∀ c, c < 4 → (uC v (14 + c)).length ≤ 64 := fun c hc => Nat.le_trans (hb.1 c hc) (by decide)
  have hwl : ∀ q, q < 6 → (uC v (2 + q)).length ≤ 64 := fun q hq6 => by
    have := hb.2.1 q hq6
    omega
  have hP : 42 * c + 42 < 2 ^ 31 := by omega
  have hT : c + 1 < 2 ^ 31 := by omega
  have hbb : b2i b = 0 ∨ b2i b = 1 := by cases b; exact Or.inl rfl; exact Or.inr rfl
  exact L_148 (callC hR0 hM hs (k_exchange hR0 hbb) (fun h9 R9 M9 s9 => (rd s9 hl (n := i + 1) (by omega) (x3n (k := 1) rfl) (rd s9 hl (n := i + 2) (by omega) (x3n (k := 2) rfl) (rd s9 hl (n := i + 3) (by omega) (x3n (k := 3) rfl) ⟨fun z => by
    have e := hb0 z
    subst e
    exact L_174 (L_175 (callN (s := ((opEx I (xs.getD (i + 1) 0) (xs.getD (i + 2) 0) (b2i false)).2, v)) R9 M9 s9 (Nat.le_refl _) (n_exchange (s := (I, v)) hX hV (by decide)) (v_ex (s := (I, v)) hV) (by omega) (by omega) hK)), fun z => by
    have e := hb1 z
    subst e
    exact L_175 (callN (s := ((opEx I (xs.getD (i + 1) 0) (xs.getD (i + 2) 0) (b2i true)).2, v)) R9 M9 s9 (Nat.le_refl _) (n_exchange (s := (I, v)) hX hV (by decide)) (v_ex (s := (I, v)) hV) (by omega) (by omega) hK)⟩)))))
theorem c_ex {gc : Nat → Nat} {q : PT} {h : AH} {a1 a2 c i : Nat} {xs : List Int32} (hl : xs.length ≤ 3072) (hi : i + 6 ≤ xs.length) (hc : c < 512) (hS : LwS gc a1 a2 (xs.map Value.int) c h) (hK : ∀ h', LwS gc a1 a2 (xs.map Value.int) (c + 1) h' → TL gc 13 q 867 [.ref (gc 2), .ref a1, .ref a2, .int (nI i)] [] h') : TL gc 13 q 124 [.ref (gc 2), .ref a1, .ref a2, .int (nI i)] [] h := by
  have hs : at_ h (gc 2) 200 (xs.map Value.int) := by
    obtain ⟨A, I, v, M, X, -, -, -, -, -, hs⟩ := hS
    exact hs
  exact L_124 (rd hs hl (n := i + 1) (by omega) (x3n (k := 1) rfl) (rd hs hl (n := i + 2) (by omega) (x3n (k := 2) rfl) (rd hs hl (n := i + 3) (by omega) (x3n (k := 3) rfl) ⟨fun z => L_147 (c_ex1 (b := false) hl hi hc hS hK (fun _ => rfl) (fun w => absurd z w)), fun z => c_ex1 (b := true) hl hi hc hS hK (fun w => absurd w z) (fun _ => rfl)⟩)))
theorem c_qu1 {gc : Nat → Nat} {q : PT} {h : AH} {a1 a2 c i : Nat} {xs : List Int32} {b : Bool} (hl : xs.length ≤ 3072) (hi : i + 6 ≤ xs.length) (hc : c < 512) (hS : LwS gc a1 a2 (xs.map Value.int) c h) (hK : ∀ h', LwS gc a1 a2 (xs.map Value.int) (c + 1) h' → TL gc 13 q 867 [.ref (gc 2), .ref a1, .ref a2, .int (nI i)] [] h') (hb0 : xs.getD (i + 4) 0 = 0 → b = false) (hb1 : ¬ xs.getD (i + 4) 0 = 0 → b = true) : TL gc 13 q 212 [.ref (gc 2), .ref a1, .ref a2, .int (nI i)] [.int (b2i b), .int (xs.getD (i + 3) 0), .int (xs.getD (i + 2) 0), .int (xs.getD (i + 1) 0), .ref a1] h := by
  obtain ⟨A, I, v, M, X, rfl, hR, hM, hX, hV, hs⟩ := hS
  have hR0 : RC gc h A I v (45 * (512 - (c + 1))) := hR.le (by omega)
  have hB : (uB v 0).length ≤ 24 := hV.1.2.2.2.2.2.2.1.1
  have hB6 : (uB v 0).length ≤ 64 := by omega
  have hn : NOK I := hV.1.1
  have hcq : CQ v := hV.1.2.2.1
  have hb : LB v 360 := hV.1.2.2.2.1
  have hD : ∀ c, c < 4 → (uD v (18 + c)).length ≤ 4 := fun c hc => (hV.2.2.2.1 c hc).1
  have hrb : RB v := RI.rb hV.2.2.1
  have hch : ∀ q, q < 6 → chOK (uR v (8 + q)) := fun q hq6 => RI.ch hV.2.2.1 hq6
  have hhl : ∀ c, c < 4 → (uC v (14 + c)).length ≤ 64 := fun c hc => Nat.le_trans (hb.1 c hc) (by decide)
  have hwl : ∀ q, q < 6 → (uC v (2 + q)).length ≤ 64 := fun q hq6 => by
    have := hb.2.1 q hq6
    omega
  have hP : 42 * c + 42 < 2 ^ 31 := by omega
  have hT : c + 1 < 2 ^ 31 := by omega
  have hbb : b2i b = 0 ∨ b2i b = 1 := by cases b; exact Or.inl rfl; exact Or.inr rfl
  exact L_212 (callC hR0 hM hs (k_queue hR0 hbb) (fun h9 R9 M9 s9 => (rd s9 hl (n := i + 1) (by omega) (x3n (k := 1) rfl) (rd s9 hl (n := i + 2) (by omega) (x3n (k := 2) rfl) (rd s9 hl (n := i + 3) (by omega) (x3n (k := 3) rfl) (rd s9 hl (n := i + 4) (by omega) (x3n (k := 4) rfl) ⟨fun z => by
    have e := hb0 z
    subst e
    exact L_243 (L_244 (callN (s := ((opQu I (xs.getD (i + 1) 0) (xs.getD (i + 2) 0) (xs.getD (i + 3) 0) (b2i false)).2, v)) R9 M9 s9 (Nat.le_refl _) (n_queue (s := (I, v)) hX hV (by decide)) (v_qu (s := (I, v)) hV) (by omega) (by omega) hK)), fun z => by
    have e := hb1 z
    subst e
    exact L_244 (callN (s := ((opQu I (xs.getD (i + 1) 0) (xs.getD (i + 2) 0) (xs.getD (i + 3) 0) (b2i true)).2, v)) R9 M9 s9 (Nat.le_refl _) (n_queue (s := (I, v)) hX hV (by decide)) (v_qu (s := (I, v)) hV) (by omega) (by omega) hK)⟩))))))
theorem c_qu {gc : Nat → Nat} {q : PT} {h : AH} {a1 a2 c i : Nat} {xs : List Int32} (hl : xs.length ≤ 3072) (hi : i + 6 ≤ xs.length) (hc : c < 512) (hS : LwS gc a1 a2 (xs.map Value.int) c h) (hK : ∀ h', LwS gc a1 a2 (xs.map Value.int) (c + 1) h' → TL gc 13 q 867 [.ref (gc 2), .ref a1, .ref a2, .int (nI i)] [] h') : TL gc 13 q 183 [.ref (gc 2), .ref a1, .ref a2, .int (nI i)] [] h := by
  have hs : at_ h (gc 2) 200 (xs.map Value.int) := by
    obtain ⟨A, I, v, M, X, -, -, -, -, -, hs⟩ := hS
    exact hs
  exact L_183 (rd hs hl (n := i + 1) (by omega) (x3n (k := 1) rfl) (rd hs hl (n := i + 2) (by omega) (x3n (k := 2) rfl) (rd hs hl (n := i + 3) (by omega) (x3n (k := 3) rfl) (rd hs hl (n := i + 4) (by omega) (x3n (k := 4) rfl) ⟨fun z => L_211 (c_qu1 (b := false) hl hi hc hS hK (fun _ => rfl) (fun w => absurd z w)), fun z => c_qu1 (b := true) hl hi hc hS hK (fun w => absurd w z) (fun _ => rfl)⟩))))
theorem c_cs1 {gc : Nat → Nat} {q : PT} {h : AH} {a1 a2 c i : Nat} {xs : List Int32} {b : Bool} (hl : xs.length ≤ 3072) (hi : i + 6 ≤ xs.length) (hc : c < 512) (hS : LwS gc a1 a2 (xs.map Value.int) c h) (hK : ∀ h', LwS gc a1 a2 (xs.map Value.int) (c + 1) h' → TL gc 13 q 867 [.ref (gc 2), .ref a1, .ref a2, .int (nI i)] [] h') (hb0 : xs.getD (i + 3) 0 = 0 → b = false) (hb1 : ¬ xs.getD (i + 3) 0 = 0 → b = true) : TL gc 13 q 448 [.ref (gc 2), .ref a1, .ref a2, .int (nI i)] [.int (b2i b), .int (xs.getD (i + 2) 0), .int (xs.getD (i + 1) 0), .ref a1] h := by
  obtain ⟨A, I, v, M, X, rfl, hR, hM, hX, hV, hs⟩ := hS
  have hR0 : RC gc h A I v (45 * (512 - (c + 1))) := hR.le (by omega)
  have hB : (uB v 0).length ≤ 24 := hV.1.2.2.2.2.2.2.1.1
  have hB6 : (uB v 0).length ≤ 64 := by omega
  have hn : NOK I := hV.1.1
  have hcq : CQ v := hV.1.2.2.1
  have hb : LB v 360 := hV.1.2.2.2.1
  have hD : ∀ c, c < 4 → (uD v (18 + c)).length ≤ 4 := fun c hc => (hV.2.2.2.1 c hc).1
  have hrb : RB v := RI.rb hV.2.2.1
  have hch : ∀ q, q < 6 → chOK (uR v (8 + q)) := fun q hq6 => RI.ch hV.2.2.1 hq6
  have hhl : ∀ c, c < 4 → (uC v (14 + c)).length ≤ 64 := fun c hc => Nat.le_trans (hb.1 c hc) (by decide)
  have hwl : ∀ q, q < 6 → (uC v (2 + q)).length ≤ 64 := fun q hq6 => by
    have := hb.2.1 q hq6
    omega
  have hP : 42 * c + 42 < 2 ^ 31 := by omega
  have hT : c + 1 < 2 ^ 31 := by omega
  have hbb : b2i b = 0 ∨ b2i b = 1 := by cases b; exact Or.inl rfl; exact Or.inr rfl
  exact L_448 (callC hR0 hM hs (k_consume (hR.le (G := 45 * (512 - (c + 1)) + 1) (by omega)) hrb) (fun h9 R9 M9 s9 => (rd s9 hl (n := i + 1) (by omega) (x3n (k := 1) rfl) (rd s9 hl (n := i + 2) (by omega) (x3n (k := 2) rfl) (rd s9 hl (n := i + 3) (by omega) (x3n (k := 3) rfl) ⟨fun z => by
    have e := hb0 z
    subst e
    exact L_474 (L_475 (callN (s := (I, (opCs I v (xs.getD (i + 1) 0) (xs.getD (i + 2) 0) false).2)) R9 M9 s9 (Nat.le_refl _) (n_consume (s := (I, v)) hX hV) (v_cs (s := (I, v)) hV) (by omega) (by omega) hK)), fun z => by
    have e := hb1 z
    subst e
    exact L_475 (callN (s := (I, (opCs I v (xs.getD (i + 1) 0) (xs.getD (i + 2) 0) true).2)) R9 M9 s9 (Nat.le_refl _) (n_consume (s := (I, v)) hX hV) (v_cs (s := (I, v)) hV) (by omega) (by omega) hK)⟩)))))
theorem c_cs {gc : Nat → Nat} {q : PT} {h : AH} {a1 a2 c i : Nat} {xs : List Int32} (hl : xs.length ≤ 3072) (hi : i + 6 ≤ xs.length) (hc : c < 512) (hS : LwS gc a1 a2 (xs.map Value.int) c h) (hK : ∀ h', LwS gc a1 a2 (xs.map Value.int) (c + 1) h' → TL gc 13 q 867 [.ref (gc 2), .ref a1, .ref a2, .int (nI i)] [] h') : TL gc 13 q 424 [.ref (gc 2), .ref a1, .ref a2, .int (nI i)] [] h := by
  have hs : at_ h (gc 2) 200 (xs.map Value.int) := by
    obtain ⟨A, I, v, M, X, -, -, -, -, -, hs⟩ := hS
    exact hs
  exact L_424 (rd hs hl (n := i + 1) (by omega) (x3n (k := 1) rfl) (rd hs hl (n := i + 2) (by omega) (x3n (k := 2) rfl) (rd hs hl (n := i + 3) (by omega) (x3n (k := 3) rfl) ⟨fun z => L_447 (c_cs1 (b := false) hl hi hc hS hK (fun _ => rfl) (fun w => absurd z w)), fun z => c_cs1 (b := true) hl hi hc hS hK (fun w => absurd w z) (fun _ => rfl)⟩)))
theorem c_st1 {gc : Nat → Nat} {q : PT} {h : AH} {a1 a2 c i : Nat} {xs : List Int32} {b : Bool} (hl : xs.length ≤ 3072) (hi : i + 6 ≤ xs.length) (hc : c < 512) (hS : LwS gc a1 a2 (xs.map Value.int) c h) (hK : ∀ h', LwS gc a1 a2 (xs.map Value.int) (c + 1) h' → TL gc 13 q 867 [.ref (gc 2), .ref a1, .ref a2, .int (nI i)] [] h') (hb0 : xs.getD (i + 3) 0 = 0 → b = false) (hb1 : ¬ xs.getD (i + 3) 0 = 0 → b = true) : TL gc 13 q 563 [.ref (gc 2), .ref a1, .ref a2, .int (nI i)] [.int (b2i b), .int (xs.getD (i + 2) 0), .int (xs.getD (i + 1) 0), .ref a1] h := by
  obtain ⟨A, I, v, M, X, rfl, hR, hM, hX, hV, hs⟩ := hS
  have hR0 : RC gc h A I v (45 * (512 - (c + 1))) := hR.le (by omega)
  have hB : (uB v 0).length ≤ 24 := hV.1.2.2.2.2.2.2.1.1
  have hB6 : (uB v 0).length ≤ 64 := by omega
  have hn : NOK I := hV.1.1
  have hcq : CQ v := hV.1.2.2.1
  have hb : LB v 360 := hV.1.2.2.2.1
  have hD : ∀ c, c < 4 → (uD v (18 + c)).length ≤ 4 := fun c hc => (hV.2.2.2.1 c hc).1
  have hrb : RB v := RI.rb hV.2.2.1
  have hch : ∀ q, q < 6 → chOK (uR v (8 + q)) := fun q hq6 => RI.ch hV.2.2.1 hq6
  have hhl : ∀ c, c < 4 → (uC v (14 + c)).length ≤ 64 := fun c hc => Nat.le_trans (hb.1 c hc) (by decide)
  have hwl : ∀ q, q < 6 → (uC v (2 + q)).length ≤ 64 := fun q hq6 => by
    have := hb.2.1 q hq6
    omega
  have hP : 42 * c + 42 < 2 ^ 31 := by omega
  have hT : c + 1 < 2 ^ 31 := by omega
  have hbb : b2i b = 0 ∨ b2i b = 1 := by cases b; exact Or.inl rfl; exact Or.inr rfl
  exact L_563 (rd hs hl (n := i + 4) (by omega) (x3n (k := 4) rfl) (callC hR0 hM hs (k_settle (hR.le (G := 45 * (512 - (c + 1)) + 21) (by omega)) hB6 hn hcq hb hD) (fun h9 R9 M9 s9 => (rd s9 hl (n := i + 1) (by omega) (x3n (k := 1) rfl) (rd s9 hl (n := i + 2) (by omega) (x3n (k := 2) rfl) (rd s9 hl (n := i + 3) (by omega) (x3n (k := 3) rfl) ⟨fun z => by
    have e := hb0 z
    subst e
    exact L_594 (L_595 (rd s9 hl (n := i + 4) (by omega) (x3n (k := 4) rfl) (callN (s := (opSt (I, v) (xs.getD (i + 1) 0) (xs.getD (i + 2) 0) false (xs.getD (i + 4) 0)).2) R9 M9 s9 (Nat.le_refl _) (n_settle (s := (I, v)) hX hV hP) (v_st (s := (I, v)) hV hP) (by omega) (by omega) hK))), fun z => by
    have e := hb1 z
    subst e
    exact L_595 (rd s9 hl (n := i + 4) (by omega) (x3n (k := 4) rfl) (callN (s := (opSt (I, v) (xs.getD (i + 1) 0) (xs.getD (i + 2) 0) true (xs.getD (i + 4) 0)).2) R9 M9 s9 (Nat.le_refl _) (n_settle (s := (I, v)) hX hV hP) (v_st (s := (I, v)) hV hP) (by omega) (by omega) hK))⟩))))))
theorem c_st {gc : Nat → Nat} {q : PT} {h : AH} {a1 a2 c i : Nat} {xs : List Int32} (hl : xs.length ≤ 3072) (hi : i + 6 ≤ xs.length) (hc : c < 512) (hS : LwS gc a1 a2 (xs.map Value.int) c h) (hK : ∀ h', LwS gc a1 a2 (xs.map Value.int) (c + 1) h' → TL gc 13 q 867 [.ref (gc 2), .ref a1, .ref a2, .int (nI i)] [] h') : TL gc 13 q 539 [.ref (gc 2), .ref a1, .ref a2, .int (nI i)] [] h := by
  have hs : at_ h (gc 2) 200 (xs.map Value.int) := by
    obtain ⟨A, I, v, M, X, -, -, -, -, -, hs⟩ := hS
    exact hs
  exact L_539 (rd hs hl (n := i + 1) (by omega) (x3n (k := 1) rfl) (rd hs hl (n := i + 2) (by omega) (x3n (k := 2) rfl) (rd hs hl (n := i + 3) (by omega) (x3n (k := 3) rfl) ⟨fun z => L_562 (c_st1 (b := false) hl hi hc hS hK (fun _ => rfl) (fun w => absurd z w)), fun z => c_st1 (b := true) hl hi hc hS hK (fun w => absurd w z) (fun _ => rfl)⟩)))
