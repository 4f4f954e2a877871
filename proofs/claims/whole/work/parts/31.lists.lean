/-! ArrayList's methods over Lst -/
theorem nI_ofNat (n : Nat) : Int32.ofNat n = nI n := rfl
theorem k_size {gc : Nat → Nat} {d : Nat} {h : AH} {a e cap : Nat} {xs : List Nat} (hL : Lst gc h a e cap xs) : WP gc (d + 1) 17 [.ref a] h (fun r h' => r = some (.int (nI xs.length)) ∧ h' = h) := by
  obtain ⟨⟨m, h1⟩, -⟩ := hL
  exact M17 ⟨_, _, h1, rfl, rfl, rfl⟩
theorem k_chk {gc : Nat → Nat} {d i n : Nat} {h : AH} (hi : i < n) (hn : n < 2 ^ 31) : WP gc (d + 2) 19 [.int (nI i), .int (nI n)] h (fun r h' => r = some (.int (nI i)) ∧ h' = h) :=
  M19 ⟨fun r h' => r = some (.int (nI i)) ∧ h' = h, M20 ⟨fun z => absurd z (nI_pos (by omega)), fun _ => ⟨fun _ => B20_16 ⟨rfl, rfl⟩, fun z => absurd (nI_lt hi hn) z⟩⟩, fun r h' ⟨h1, h2⟩ => ⟨_, h1, rfl, h2⟩⟩
theorem k_get {gc : Nat → Nat} {d i : Nat} {h : AH} {a e cap : Nat} {xs : List Nat} (hL : Lst gc h a e cap xs) (hi : i < xs.length) : WP gc (d + 3) 18 [.ref a, .int (nI i)] h (fun r h' => r = some (.ref xs[i]) ∧ h' = h) := by
  obtain ⟨⟨m, h1⟩, h2, h3, h4, h5⟩ := hL
  rcases h4 with ⟨h4, -⟩ | ⟨-, h4⟩
  · omega
  · refine M18 ⟨_, _, h1, rfl, _, k_chk (n := xs.length) hi (by omega), ?_⟩
    rintro r h' ⟨rfl, rfl⟩
    refine ⟨_, rfl, ⟨_, h1⟩, fun r h'' => r = some (.ref xs[i]) ∧ h'' = h', M21 ⟨_, _, h1, rfl, 103, _, _, h4, rfl, nI_pos (by omega), by rw [nI_clamp (by omega)]; exact pl_at hi, rfl, rfl⟩, ?_⟩
    rintro r h'' ⟨rfl, rfl⟩
    exact ⟨_, rfl, rfl, rfl⟩
theorem k_isEmpty {gc : Nat → Nat} {d : Nat} {h : AH} {a e cap : Nat} {xs : List Nat} (hL : Lst gc h a e cap xs) : WP gc (d + 1) 63 [.ref a] h (fun r h' => r = some (.int (if xs = [] then 1 else 0)) ∧ h' = h) := by
  obtain ⟨⟨m, h1⟩, h2, h3, -⟩ := hL
  by_cases hx : xs = []
  · subst hx
    exact M63 ⟨_, _, h1, rfl, fun z => absurd rfl z, fun _ => B63_12 ⟨Or.inr rfl, by rw [if_pos rfl], rfl⟩⟩
  · have hl : 0 < xs.length := List.length_pos_iff.mpr hx
    exact M63 ⟨_, _, h1, rfl, fun _ => B63_11 (B63_12 ⟨Or.inl rfl, by rw [if_neg hx], rfl⟩), fun z => absurd z (nI_ne0 hl (by omega))⟩
/-- newLength: n and n/2 more, at least one -/
def gr (n : Nat) : Nat := if n = 0 then 10 else n + (if 1 < n / 2 then n / 2 else 1)
theorem k_newLen {gc : Nat → Nat} {d n : Nat} {h : AH} (h0 : 0 < n) (hn : n ≤ 4000) : WP gc (d + 1) 27 [.int (nI n), .int (nI (n + 1) - nI n), .int (nI n >>> (1 &&& 31))] h (fun r h' => r = some (.int (nI (gr n))) ∧ h' = h) := by
  have e1 : nI (n + 1) - nI n = nI 1 := by rw [pk_sub (by omega)]; congr 1; omega
  have e2 : nI n >>> ((1 : Int32) &&& 31) = nI (n / 2) := by
    have k := pk_shrN (n := n) (by omega) ((1 : Int32) &&& 31) 1 (by decide)
    rw [Nat.pow_one] at k
    exact k
  rw [e1, e2]
  have e3 : (nI n + (if nI 1 < nI (n / 2) then nI (n / 2) else nI 1)) = nI (gr n) := by
    unfold gr
    rw [if_neg (show ¬ n = 0 by omega)]
    by_cases c : 1 < n / 2
    · rw [if_pos (nI_lt c (by omega)), if_pos c, nI_add]
    · rw [if_neg (nI_nlt (by omega) (by decide)), if_neg c, nI_add]
  have hg : 0 < gr n ∧ gr n ≤ 6001 := by
    unfold gr
    split <;> (try split) <;> omega
  refine M27 ⟨fun z => ?_, fun _ => ⟨fun z => ?_, fun _ => ?_⟩⟩
  · rw [e3] at z
    exact absurd z (nI_nle hg.1 (by omega))
  · rw [e3] at z
    exact absurd z (nI_nlt (a := 2147483639) (b := gr n) (by omega) (by decide))
  · rw [e3]
    exact ⟨rfl, rfl⟩
