/-! patterns against keys: rm P K i n: the last i items of the pattern can stand for the last n words of the key -/
def rmS (p : Nat) (K : Nat → Nat) (prev : Nat → Bool) : Nat → Bool
  | 0 => if p = 15 then prev 0 else false
  | n + 1 => if p = 15 then prev (n + 1) || rmS p K prev n else (decide (p = 14) || decide (p = K n)) && prev n
def rm (P K : Nat → Nat) : Nat → Nat → Bool
  | 0 => fun n => n == 0
  | i + 1 => rmS (P i) K (rm P K i)
def isM (p k : Int32) : Bool := rm (dg p) (dg k) (ct p) (ct k)
def bt9 (b0 b1 b2 b3 b4 b5 b6 b7 b8 : Bool) : Nat := b0.toNat + 2 * (b1.toNat + 2 * (b2.toNat + 2 * (b3.toNat + 2 * (b4.toNat + 2 * (b5.toNat + 2 * (b6.toNat + 2 * (b7.toNat + 2 * b8.toNat)))))))
def bt (f : Nat → Bool) : Nat := bt9 (f 0) (f 1) (f 2) (f 3) (f 4) (f 5) (f 6) (f 7) (f 8)
theorem bt9_lt : ∀ b0 b1 b2 b3 b4 b5 b6 b7 b8 : Bool, bt9 b0 b1 b2 b3 b4 b5 b6 b7 b8 < 512 := by decide +kernel
theorem bt9_bit : ∀ b0 b1 b2 b3 b4 b5 b6 b7 b8 : Bool, (bt9 b0 b1 b2 b3 b4 b5 b6 b7 b8).testBit 0 = b0 ∧ (bt9 b0 b1 b2 b3 b4 b5 b6 b7 b8).testBit 1 = b1 ∧ (bt9 b0 b1 b2 b3 b4 b5 b6 b7 b8).testBit 2 = b2 ∧ (bt9 b0 b1 b2 b3 b4 b5 b6 b7 b8).testBit 3 = b3 ∧ (bt9 b0 b1 b2 b3 b4 b5 b6 b7 b8).testBit 4 = b4 ∧ (bt9 b0 b1 b2 b3 b4 b5 b6 b7 b8).testBit 5 = b5 ∧ (bt9 b0 b1 b2 b3 b4 b5 b6 b7 b8).testBit 6 = b6 ∧ (bt9 b0 b1 b2 b3 b4 b5 b6 b7 b8).testBit 7 = b7 ∧ (bt9 b0 b1 b2 b3 b4 b5 b6 b7 b8).testBit 8 = b8 := by decide +kernel
theorem bt_lt (f : Nat → Bool) : bt f < 512 := bt9_lt _ _ _ _ _ _ _ _ _
theorem bt_bit (f : Nat → Bool) {n : Nat} (hn : n < 9) : (bt f).testBit n = f n := by
  have := bt9_bit (f 0) (f 1) (f 2) (f 3) (f 4) (f 5) (f 6) (f 7) (f 8)
  obtain ⟨h0, h1, h2, h3, h4, h5, h6, h7, h8⟩ := this
  match n, hn with
  | 0, _ => exact h0
  | 1, _ => exact h1
  | 2, _ => exact h2
  | 3, _ => exact h3
  | 4, _ => exact h4
  | 5, _ => exact h5
  | 6, _ => exact h6
  | 7, _ => exact h7
  | 8, _ => exact h8
theorem bt_eq {f g : Nat → Bool} (h : ∀ n, n < 9 → f n = g n) : bt f = bt g := by
  unfold bt
  rw [h 0 (by decide), h 1 (by decide), h 2 (by decide), h 3 (by decide), h 4 (by decide), h 5 (by decide), h 6 (by decide), h 7 (by decide), h 8 (by decide)]
def pos (k : Nat) : Int32 := ((1 : Int32) <<< ((nI k + 1) &&& 31)) - 1
theorem m_sh : ∀ k, k < 9 → ∀ m, m < 512 → pos k &&& (nI m <<< (1 &&& 31)) = nI (bt (fun n => decide (n ≤ k) && (decide (0 < n) && m.testBit (n - 1)))) := by decide +kernel
theorem m_up : ∀ k, k < 9 → ∀ m, m < 512 → pos k &&& (-(nI m &&& (-nI m))) = nI (bt (fun n => decide (n ≤ k) && !(m % 2 ^ (n + 1) == 0))) := by decide +kernel
theorem m_and : ∀ k, k < 9 → ∀ m, m < 512 → pos k &&& nI m = nI (bt (fun n => decide (n ≤ k) && m.testBit n)) := by decide +kernel
theorem m_bit : ∀ n, n < 9 → ∀ m, m < 512 → ((nI m >>> (nI n &&& 31)) &&& 1) = nI (m.testBit n).toNat := by decide +kernel
theorem m_or : ∀ n, n < 8 → ∀ m, m < 512 → nI m ||| ((1 : Int32) <<< ((nI n + 1) &&& 31)) = nI (m ||| 2 ^ (n + 1)) ∧ m ||| 2 ^ (n + 1) < 512 := by decide +kernel
theorem m_low : ∀ n, n < 9 → ∀ m, m < 512 → (!(m % 2 ^ (n + 1) == 0)) = (m.testBit n || (decide (0 < n) && !(m % 2 ^ n == 0))) := by decide +kernel
