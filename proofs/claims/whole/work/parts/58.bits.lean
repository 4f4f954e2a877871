/-! patterns against keys: rm P K i n: the last i items of the pattern can stand for the last n words of the key -/
def rmS (p : Nat) (K : Nat → Nat) (prev : Nat → Bool) : Nat → Bool
  | 0 => if p = 15 then prev 0 else false
  | n + 1 => if p = 15 then prev (n + 1) || rmS p K prev n else (decide (p = 14) || decide (p = K n)) && prev n
def rm (P K : Nat → Nat) : Nat → Nat → Bool
  | 0 => fun n => n == 0
  | i + 1 => rmS (P i) K (rm P K i)
def isM (p k : Int32) : Bool := rm (dg p) (dg k) (ct p) (ct k)
def bt9 (b0 b1 b2 b3 b4 b5 b6 b7 b8 : Bool) : Nat := b0.toNat + 2 * (b1.toNat + 2 * (b2.toNat + 2 * (b3.toNat + 2 * (b4.toNat + 2 * (b5.toNat + 2 * (b6.toNat + 2 * (b7.toNat + 2 * b8.toNat)))))))
def bt (f : Nat → Bool) : Nat := bt9 (f 0) (f 1) (f 2) (f 3) (f 4) (f 5) (f 6) (f 7) (f 8)
theorem bt9_lt : ∀ b0 b1 b2 b3 b4 b5 b6 b7 b8 : Bool, bt9 b0 b1 b2 b3 b4 b5 b6 b7 b8 < 512 := by decide +kernel
theorem bt9_bit : ∀ b0 b1 b2 b3 b4 b5 b6 b7 b8 : Bool, (bt9 b0 b1 b2 b3 b4 b5 b6 b7 b8).testBit 0 = b0 ∧ (bt9 b0 b1 b2 b3 b4 b5 b6 b7 b8).testBit 1 = b1 ∧ (bt9 b0 b1 b2 b3 b4 b5 b6 b7 b8).testBit 2 = b2 ∧ (bt9 b0 b1 b2 b3 b4 b5 b6 b7 b8).testBit 3 = b3 ∧ (bt9 b0 b1 b2 b3 b4 b5 b6 b7 b8).testBit 4 = b4 ∧ (bt9 b0 b1 b2 b3 b4 b5 b6 b7 b8).testBit 5 = b5 ∧ (bt9 b0 b1 b2 b3 b4 b5 b6 b7 b8).testBit 6 = b6 ∧ (bt9 b0 b1 b2 b3 b4 b5 b6 b7 b8).testBit 7 = b7 ∧ (bt9 b0 b1 b2 b3 b4 b5 b6 b7 b8).testBit 8 = b8 := by decide +kernel
theorem bt_lt (f : Nat → Bool) : bt f < 512 := bt9_lt _ _ _ _ _ _ _ _ _
theorem bt_bit (f : Nat → Bool) {n : Nat} (hn : n < 9) : (bt f).testBit n = f n := by
  have := bt9_bit (f 0) (f 1) (f 2) (f 3) (f 4) (f 5) (f 6) (f 7) (f 8)
  obtain ⟨h0, h1, h2, h3, h4, h5, h6, h7, h8⟩ := this
  match n, hn with
  | 0, _ => exact h0
  | 1, _ => exact h1
  | 2, _ => exact h2
  | 3, _ => exact h3
  | 4, _ => exact h4
  | 5, _ => exact h5
  | 6, _ => exact h6
  | 7, _ => exact h7
  | 8, _ => exact h8
theorem bt_eq {f g : Nat → Bool} (h : ∀ n, n < 9 → f n = g n) : bt f = bt g := by
  unfold bt
  rw [h 0 (by decide), h 1 (by decide), h 2 (by decide), h 3 (by decide), h 4 (by decide), h 5 (by decide), h 6 (by decide), h 7 (by decide), h 8 (by decide)]
/-- the low nine bits -/
def lo9 (R : Int32) : Nat := R.toBitVec.toNat % 512
theorem lo9_lt (R : Int32) : lo9 R < 512 := Nat.mod_lt _ (by decide)
theorem lo9_nI {m : Nat} (h : m < 512) : lo9 (nI m) = m := by
  unfold lo9
  rw [pk_tn (by omega)]
  omega
theorem q9_id : ∀ m, m < 512 → m = bt (fun n => m.testBit n) := by decide +kernel
theorem q9_sh : ∀ m, m < 512 → m * 2 % 512 = bt (fun n => decide (0 < n) && m.testBit (n - 1)) := by decide +kernel
theorem q9_up : ∀ m, m < 512 → (512 - (m &&& ((512 - m) % 512))) % 512 = bt (fun n => !(m % 2 ^ (n + 1) == 0)) := by decide +kernel
theorem lo9_sh (R : Int32) : lo9 (R <<< (1 &&& 31)) = lo9 R * 2 % 512 := by
  unfold lo9
  rw [pk_shl R (1 &&& 31) 1 (by decide)]
  omega
theorem lo9_neg (R : Int32) : lo9 (-R) = (512 - lo9 R) % 512 := by
  unfold lo9
  rw [Int32.toBitVec_neg, BitVec.toNat_neg]
  have := R.toBitVec.isLt
  omega
theorem lo9_and (R S : Int32) : lo9 (R &&& S) = lo9 R &&& lo9 S := by
  unfold lo9
  rw [Int32.toBitVec_and, BitVec.toNat_and]
  exact Nat.and_mod_two_pow (n := 9)
theorem lo9_up (R : Int32) : lo9 (-(R &&& (-R))) = (512 - (lo9 R &&& ((512 - lo9 R) % 512))) % 512 := by
  rw [lo9_neg, lo9_and, lo9_neg]
theorem q9_s : ∀ n, n < 9 → (((nI n &&& 31) : Int32).toBitVec.smod 32).toNat = n := by decide
theorem q9_p : ∀ n, n < 9 → (2 ^ n = 1 ∨ 2 ^ n = 2 ∨ 2 ^ n = 4 ∨ 2 ^ n = 8 ∨ 2 ^ n = 16 ∨ 2 ^ n = 32 ∨ 2 ^ n = 64 ∨ 2 ^ n = 128 ∨ 2 ^ n = 256) := by decide
theorem ti9 (R : Int32) : (R.toInt = (R.toBitVec.toNat : Int) ∧ R.toBitVec.toNat < 2147483648) ∨ (R.toInt = (R.toBitVec.toNat : Int) - 4294967296 ∧ 2147483648 ≤ R.toBitVec.toNat ∧ R.toBitVec.toNat < 4294967296) := by
  have h := BitVec.toInt_eq_toNat_cond R.toBitVec
  have h2 : R.toInt = R.toBitVec.toInt := rfl
  have h3 := R.toBitVec.isLt
  rw [← h2] at h
  split at h
  · left
    omega
  · right
    omega
theorem ar9 {a y p : Nat} {ai : Int} (hp : p = 1 ∨ p = 2 ∨ p = 4 ∨ p = 8 ∨ p = 16 ∨ p = 32 ∨ p = 64 ∨ p = 128 ∨ p = 256) (h1 : (ai = (a : Int) ∧ a < 2147483648) ∨ (ai = (a : Int) - 4294967296 ∧ 2147483648 ≤ a ∧ a < 4294967296)) (h2 : (ai / (p : Int) = (y : Int) ∧ y < 2147483648) ∨ (ai / (p : Int) = (y : Int) - 4294967296 ∧ 2147483648 ≤ y ∧ y < 4294967296)) : y % 2 = a % 512 / p % 2 := by
  rcases hp with rfl | rfl | rfl | rfl | rfl | rfl | rfl | rfl | rfl <;> omega
theorem m_bit : ∀ n, n < 9 → ∀ m, m < 512 → ((nI m >>> (nI n &&& 31)) &&& 1) = nI (m.testBit n).toNat := by decide +kernel
theorem m_or : ∀ n, n < 8 → ∀ m, m < 512 → nI m ||| ((1 : Int32) <<< ((nI n + 1) &&& 31)) = nI (m ||| 2 ^ (n + 1)) ∧ m ||| 2 ^ (n + 1) < 512 := by decide +kernel
theorem m_low : ∀ n, n < 9 → ∀ m, m < 512 → (!(m % 2 ^ (n + 1) == 0)) = (m.testBit n || (decide (0 < n) && !(m % 2 ^ n == 0))) := by decide +kernel
theorem m_bitR (n : Nat) (hn : n < 9) (R : Int32) : ((R >>> (nI n &&& 31)) &&& 1) = nI ((lo9 R).testBit n).toNat := by
  have hl := lo9_lt R
  rw [← m_bit n hn (lo9 R) hl]
  have hs := q9_s n hn
  have h2 : lo9 R / 2 ^ n ≤ lo9 R := Nat.div_le_self _ _
  rw [pk_shrN (n := lo9 R) (by omega) _ n hs, pk_and (R >>> (nI n &&& 31)) (m := 1) 1 (by decide), pk_andN (n := lo9 R / 2 ^ n) (by omega) (m := 1) 1 (by decide)]
  have h1 := pk_shr R (nI n &&& 31) n hs
  have b := ti9 (R >>> (nI n &&& 31))
  rw [h1, Int.shiftRight_eq_div_pow] at b
  exact congrArg nI (ar9 (q9_p n hn) (ti9 R) b)
