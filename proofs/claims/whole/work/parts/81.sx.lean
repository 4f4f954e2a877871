/-! THE REFERENCE SHOWS THE SAME STATE -/
def sE (X : XT) (I : Nat → Int32) : Prop := ∀ e, e < 5 → X 0 e = (if I (100 + 10 * e) = 0 then -1 else I (101 + 10 * e)) ∧ (¬ I (100 + 10 * e) = 0 → X 3 e = I (102 + 10 * e))
def sQ (X : XT) (I : Nat → Int32) : Prop := ∀ q, q < 6 → X 1 q = (if I (200 + 10 * q) = 0 then 0 else I (201 + 10 * q)) ∧ (¬ I (200 + 10 * q) = 0 → X 2 q = I (202 + 10 * q) ∧ X 4 q = I (203 + 10 * q))
def bnA (X : XT) (i : Nat) : Bnd := (X 5 i, X 6 i, X 7 i)
def bnL (X : XT) (n : Nat) : List Bnd := (List.range n).map (bnA X)
def sB (X : XT) (v : Mu) : Prop := X 8 0 = nI (uB v 0).length ∧ (bnL X (uB v 0).length).Perm (uB v 0)
abbrev Cn : Type := Int32 × Int32 × Int32
def cnA (X : XT) (i : Nat) : Cn := (X 9 i, X 10 i, X 11 i)
def cnL (X : XT) (n : Nat) : List Cn := (List.range n).map (cnA X)
def cnQ (q : Nat) (x : Cn) : Bool := decide (x.1 = nI q)
def cnM (q : Nat) (c : Con) : Cn := (nI q, c.1, b2i c.2)
def sC (X : XT) (v : Mu) : Prop := ∃ n, X 12 0 = nI n ∧ (∀ i, i < n → ∃ q, q < 6 ∧ X 9 i = nI q) ∧ ∀ q, q < 6 → (cnL X n).filter (cnQ q) = (uR v (8 + q)).map (cnM q)
def ddS (X : XT) (i : Nat) (d : Ded) : Prop := X 17 i = d.1 ∧ match d.2.1 with
  | none => X 20 i = d.2.2
  | some m => X 18 i = mKey m ∧ X 19 i = m.1 ∧ ∃ f, f < 4 ∧ X 20 i = nI f ∧ mPers m = decide (f % 2 = 1)
def sD (X : XT) (I : Nat → Int32) (v : Mu) : Prop := ∀ c, c < 4 → X 13 c = I (300 + 10 * c) ∧ X 14 c = I (302 + 10 * c) ∧ X 16 c = I (301 + 10 * c) ∧ X 15 c = nI (uD v (18 + c)).length ∧ ∀ j d, (uD v (18 + c))[j]? = some d → ddS X (4 * c + j) d
def sP (X : XT) (v : Mu) : Prop := X 31 0 = nI (flat v).length ∧ (cpL X (flat v).length).Perm (flat v)
def ltS (X : XT) (I : Nat → Int32) (j : Nat) (r : Rec) : Prop := X 33 j = (rM r).1 ∧ X 34 j = mKey (rM r) ∧ X 35 j = mHops (rM r) ∧ X 36 j = dead I r ∧ X 37 j = b2i (mPers (rM r))
def sL (X : XT) (I : Nat → Int32) (v : Mu) : Prop := X 38 0 = nI (uC v 1).length ∧ ∀ j r, (uC v 1)[j]? = some r → ltS X I j r
def SX (k : Nat) (X : XT) (s : St) : Prop := sE X s.1 ∧ sQ X s.1 ∧ sB X s.2 ∧ sC X s.2 ∧ sD X s.1 s.2 ∧ sP X s.2 ∧ X 32 0 = s.1 0 ∧ sL X s.1 s.2 ∧ X 39 0 = s.1 1 + nI k ∧ X 40 0 = s.1 2
/-- only the fields that p names differ -/
def Ag (p : Nat → Bool) (X Y : XT) : Prop := ∀ k, p k = false → Y k = X k
theorem Ag.refl (p : Nat → Bool) (X : XT) : Ag p X X := fun _ _ => rfl
theorem Ag.trans {p : Nat → Bool} {X Y Z : XT} (h1 : Ag p X Y) (h2 : Ag p Y Z) : Ag p X Z := fun k hk => (h2 k hk).trans (h1 k hk)
theorem Ag.wr {p : Nat → Bool} {X Y : XT} {k i : Nat} {x : Int32} (h1 : Ag p X Y) (hk : p k = true) : Ag p X (wr Y k i x) := fun k' hk' => by
  have : k' ≠ k := fun z => by rw [z, hk] at hk'; cases hk'
  rw [← h1 k' hk']
  exact funext (fun j => wr_k this)
theorem Ag.mono {p q : Nat → Bool} {X Y : XT} (h : Ag p X Y) (hp : ∀ k, p k = true → q k = true) : Ag q X Y := fun k hk => h k (by
  cases hz : p k with
  | false => rfl
  | true => rw [hp k hz] at hk; cases hk)
theorem sE.ag {p : Nat → Bool} {X Y : XT} {I : Nat → Int32} (h : sE X I) (ha : Ag p X Y) (h0 : p 0 = false) (h3 : p 3 = false) : sE Y I := by
  unfold sE
  rw [ha 0 h0, ha 3 h3]
  exact h
theorem sQ.ag {p : Nat → Bool} {X Y : XT} {I : Nat → Int32} (h : sQ X I) (ha : Ag p X Y) (h1 : p 1 = false) (h2 : p 2 = false) (h4 : p 4 = false) : sQ Y I := by
  unfold sQ
  rw [ha 1 h1, ha 2 h2, ha 4 h4]
  exact h
theorem sB.ag {p : Nat → Bool} {X Y : XT} {v : Mu} (h : sB X v) (ha : Ag p X Y) (h5 : p 5 = false) (h6 : p 6 = false) (h7 : p 7 = false) (h8 : p 8 = false) : sB Y v := by
  unfold sB bnL bnA
  rw [ha 5 h5, ha 6 h6, ha 7 h7, ha 8 h8]
  exact h
theorem sC.ag {p : Nat → Bool} {X Y : XT} {v : Mu} (h : sC X v) (ha : Ag p X Y) (h9 : p 9 = false) (h10 : p 10 = false) (h11 : p 11 = false) (h12 : p 12 = false) : sC Y v := by
  unfold sC cnL cnA
  rw [ha 9 h9, ha 10 h10, ha 11 h11, ha 12 h12]
  exact h
theorem sD.ag {p : Nat → Bool} {X Y : XT} {I : Nat → Int32} {v : Mu} (h : sD X I v) (ha : Ag p X Y) (hp : ∀ k, 13 ≤ k → k ≤ 20 → p k = false) : sD Y I v := by
  unfold sD ddS
  rw [ha 13 (hp _ (by omega) (by omega)), ha 14 (hp _ (by omega) (by omega)), ha 15 (hp _ (by omega) (by omega)), ha 16 (hp _ (by omega) (by omega)), ha 17 (hp _ (by omega) (by omega)), ha 18 (hp _ (by omega) (by omega)), ha 19 (hp _ (by omega) (by omega)), ha 20 (hp _ (by omega) (by omega))]
  exact h
theorem sP.ag {p : Nat → Bool} {X Y : XT} {v : Mu} (h : sP X v) (ha : Ag p X Y) (hp : ∀ k, 21 ≤ k → k ≤ 31 → p k = false) : sP Y v := by
  unfold sP cpL cpA
  rw [ha 21 (hp _ (by omega) (by omega)), ha 22 (hp _ (by omega) (by omega)), ha 23 (hp _ (by omega) (by omega)), ha 24 (hp _ (by omega) (by omega)), ha 25 (hp _ (by omega) (by omega)), ha 26 (hp _ (by omega) (by omega)), ha 27 (hp _ (by omega) (by omega)), ha 28 (hp _ (by omega) (by omega)), ha 29 (hp _ (by omega) (by omega)), ha 30 (hp _ (by omega) (by omega)), ha 31 (hp _ (by omega) (by omega))]
  exact h
theorem sL.ag {p : Nat → Bool} {X Y : XT} {I : Nat → Int32} {v : Mu} (h : sL X I v) (ha : Ag p X Y) (hp : ∀ k, 33 ≤ k → k ≤ 38 → p k = false) : sL Y I v := by
  unfold sL ltS
  rw [ha 33 (hp _ (by omega) (by omega)), ha 34 (hp _ (by omega) (by omega)), ha 35 (hp _ (by omega) (by omega)), ha 36 (hp _ (by omega) (by omega)), ha 37 (hp _ (by omega) (by omega)), ha 38 (hp _ (by omega) (by omega))]
  exact h
theorem nI_of_le {x y : Int32} : (¬ x < y) ↔ y.toInt ≤ x.toInt := by
  rw [Int32.lt_iff_toInt_lt]
  omega
