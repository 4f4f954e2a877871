/-! objects in lists, and the values that they stand for -/
def All2 {α : Type} (R : Nat → α → Prop) : List Nat → List α → Prop
  | [], [] => True
  | a :: as, b :: bs => R a b ∧ All2 R as bs
  | _, _ => False
theorem All2.len {α : Type} {R : Nat → α → Prop} : ∀ {as : List Nat} {bs : List α}, All2 R as bs → as.length = bs.length
  | [], [], _ => rfl
  | _ :: _, _ :: _, h => by rw [List.length_cons, List.length_cons, All2.len h.2]
  | [], _ :: _, h => h.elim
  | _ :: _, [], h => h.elim
theorem All2.get {α : Type} {R : Nat → α → Prop} : ∀ {as : List Nat} {bs : List α} (i : Nat), All2 R as bs → (h1 : i < as.length) → (h2 : i < bs.length) → R as[i] bs[i]
  | [], _, i, _, h1, _ => absurd h1 (Nat.not_lt_zero _)
  | _ :: _, [], _, h, _, _ => h.elim
  | _ :: _, _ :: _, 0, h, _, _ => h.1
  | _ :: _, _ :: _, i + 1, h, h1, h2 => All2.get i h.2 (Nat.lt_of_succ_lt_succ h1) (Nat.lt_of_succ_lt_succ h2)
theorem All2.mono {α : Type} {R S : Nat → α → Prop} : ∀ {as : List Nat} {bs : List α}, (∀ a b, a ∈ as → R a b → S a b) → All2 R as bs → All2 S as bs
  | [], [], _, _ => trivial
  | _ :: _, _ :: _, hs, h => ⟨hs _ _ List.mem_cons_self h.1, All2.mono (fun a b ha => hs a b (List.mem_cons_of_mem _ ha)) h.2⟩
  | [], _ :: _, _, h => h.elim
  | _ :: _, [], _, h => h.elim
theorem All2.app {α : Type} {R : Nat → α → Prop} : ∀ {as as' : List Nat} {bs bs' : List α}, All2 R as bs → All2 R as' bs' → All2 R (as ++ as') (bs ++ bs')
  | [], _, [], _, _, h2 => h2
  | _ :: _, _, _ :: _, _, h1, h2 => ⟨h1.1, All2.app h1.2 h2⟩
  | [], _, _ :: _, _, h, _ => h.elim
  | _ :: _, _, [], _, h, _ => h.elim
theorem All2.one {α : Type} {R : Nat → α → Prop} {as : List Nat} {bs : List α} {a : Nat} {b : α} (h : All2 R as bs) (hab : R a b) : All2 R (as ++ [a]) (bs ++ [b]) := h.app ⟨hab, trivial⟩
theorem All2.take {α : Type} {R : Nat → α → Prop} : ∀ {as : List Nat} {bs : List α} (i : Nat), All2 R as bs → All2 R (as.take i) (bs.take i)
  | [], [], _, _ => by rw [List.take_nil, List.take_nil]; trivial
  | _ :: _, _ :: _, 0, _ => trivial
  | _ :: _, _ :: _, i + 1, h => ⟨h.1, All2.take i h.2⟩
  | [], _ :: _, _, h => h.elim
  | _ :: _, [], _, h => h.elim
theorem All2.drop {α : Type} {R : Nat → α → Prop} : ∀ {as : List Nat} {bs : List α} (i : Nat), All2 R as bs → All2 R (as.drop i) (bs.drop i)
  | [], [], _, _ => by rw [List.drop_nil, List.drop_nil]; trivial
  | _ :: _, _ :: _, 0, h => h
  | _ :: _, _ :: _, i + 1, h => All2.drop i h.2
  | [], _ :: _, _, h => h.elim
  | _ :: _, [], _, h => h.elim
def insG {α : Type} (ys : List α) (i : Nat) (y : α) : List α := ys.take i ++ y :: ys.drop i
theorem All2.ins {α : Type} {R : Nat → α → Prop} {as : List Nat} {bs : List α} {a i : Nat} {b : α} (h : All2 R as bs) (hab : R a b) : All2 R (ins as i a) (insG bs i b) := (h.take i).app ⟨hab, h.drop i⟩
theorem All2.erase {α : Type} {R : Nat → α → Prop} : ∀ {as : List Nat} {bs : List α} (i : Nat), All2 R as bs → All2 R (as.eraseIdx i) (bs.eraseIdx i)
  | [], [], _, _ => trivial
  | _ :: _, _ :: _, 0, h => h.2
  | _ :: _, _ :: _, i + 1, h => ⟨h.1, All2.erase i h.2⟩
  | [], _ :: _, _, h => h.elim
  | _ :: _, [], _, h => h.elim
theorem All2.mono' {α : Type} {R S : Nat → α → Prop} {as : List Nat} {bs : List α} (h : All2 R as bs) (hs : ∀ (j a : Nat) (b : α), as[j]? = some a → R a b → S a b) : All2 S as bs := h.mono (fun a b ha hr => by
  obtain ⟨j, hj⟩ := List.getElem?_of_mem ha
  exact hs j a b hj hr)
theorem All2.set {α : Type} {R S : Nat → α → Prop} : ∀ {as : List Nat} {bs : List α} (i : Nat) (y : α), (∀ (j a : Nat) (b : α), as[j]? = some a → j ≠ i → R a b → S a b) → (∀ a : Nat, as[i]? = some a → S a y) → All2 R as bs → All2 S as (bs.set i y)
  | [], [], _, _, _, _, _ => trivial
  | a :: _, _ :: _, 0, y, hs, hi, h => ⟨hi a rfl, h.2.mono' (fun j a' b ha hr => hs (j + 1) a' b ha (Nat.succ_ne_zero _) hr)⟩
  | _ :: _, _ :: _, i + 1, y, hs, hi, h => ⟨hs 0 _ _ rfl (by omega) h.1, All2.set i y (fun j a b ha hn hr => hs (j + 1) a b ha (by omega) hr) (fun a ha => hi a ha) h.2⟩
  | [], _ :: _, _, _, _, _, h => h.elim
  | _ :: _, [], _, _, _, _, h => h.elim
/-- a message: body, key, hops, persistent. A copy's record: message; returned, queue, place, tag, deed -/
abbrev Msg : Type := Int32 × Int32 × Int32 × Bool
abbrev Rec : Type := Msg × Bool × Int32 × Int32 × Int32 × Int32
def rM (r : Rec) : Msg := r.1
def rRet (r : Rec) : Bool := r.2.1
def rQ (r : Rec) : Int32 := r.2.2.1
def rP (r : Rec) : Int32 := r.2.2.2.1
def rT (r : Rec) : Int32 := r.2.2.2.2.1
def rD (r : Rec) : Int32 := r.2.2.2.2.2
def MsgAt (h : AH) (a : Nat) (m : Msg) : Prop := at_ h a 7 [.int m.1, .int m.2.1, .int m.2.2.1, .int (b2i m.2.2.2)]
/-- a copy in list k; a copy that nobody holds shows no deed -/
def CpAt (k : Nat) (h : AH) (a : Nat) (r : Rec) : Prop := ∃ (m : Nat) (D : Int32), at_ h a 4 [.ref m, .int (rQ r), .int (rP r), .int (b2i (rRet r)), .int (rT r), .int D] ∧ (14 ≤ k → D = rD r) ∧ MsgAt h m (rM r)
abbrev Bnd : Type := Int32 × Int32 × Int32
def BdAt (h : AH) (a : Nat) (b : Bnd) : Prop := at_ h a 1 [.int b.1, .int b.2.1, .int b.2.2]
abbrev Con : Type := Int32 × Bool
def CnAt (h : AH) (a : Nat) (b : Con) : Prop := at_ h a 3 [.int b.1, .int (b2i b.2)]
abbrev Ded : Type := Int32 × Option Msg × Int32
def DdAt (h : AH) (a : Nat) (b : Ded) : Prop := match b.2.1 with
  | none => at_ h a 5 [.int b.1, .null, .int b.2.2]
  | some ms => ∃ m : Nat, at_ h a 5 [.int b.1, .ref m, .int b.2.2] ∧ MsgAt h m ms
/-- the objects of the lists stay -/
def KO (h h' : AH) : Prop := ∀ (b t : Nat) (vs : List Value), (t = 1 ∨ t = 3 ∨ t = 4 ∨ t = 5 ∨ t = 7) → at_ h b t vs → at_ h' b t vs
theorem KL.ko {h h' : AH} (hk : KL h h') : KO h h' := fun b t vs z hb => hk b t vs (by omega) (by omega) (by omega) hb
theorem MsgAt.ko {h h' : AH} {a : Nat} {m : Msg} (hk : KO h h') (hm : MsgAt h a m) : MsgAt h' a m := hk _ _ _ (by omega) hm
theorem CpAt.ko {h h' : AH} {a k : Nat} {r : Rec} (hk : KO h h') (hm : CpAt k h a r) : CpAt k h' a r := by
  obtain ⟨m, D, h1, h2, h3⟩ := hm
  exact ⟨m, D, hk _ _ _ (by omega) h1, h2, h3.ko hk⟩
theorem BdAt.ko {h h' : AH} {a : Nat} {b : Bnd} (hk : KO h h') (hm : BdAt h a b) : BdAt h' a b := hk _ _ _ (by omega) hm
theorem CnAt.ko {h h' : AH} {a : Nat} {b : Con} (hk : KO h h') (hm : CnAt h a b) : CnAt h' a b := hk _ _ _ (by omega) hm
theorem DdAt.ko {h h' : AH} {a : Nat} {b : Ded} (hk : KO h h') (hm : DdAt h a b) : DdAt h' a b := by
  unfold DdAt at *
  split at hm
  · exact hk _ _ _ (by omega) hm
  · obtain ⟨m, h1, h2⟩ := hm
    exact ⟨m, hk _ _ _ (by omega) h1, h2.ko hk⟩
theorem CpAt.tag {h : AH} {a k : Nat} {r : Rec} (hm : CpAt k h a r) : ∃ ws, at_ h a 4 ws := by
  obtain ⟨m, D, h1, -⟩ := hm
  exact ⟨_, h1⟩
theorem BdAt.tag {h : AH} {a : Nat} {r : Bnd} (hm : BdAt h a r) : ∃ ws, at_ h a 1 ws := ⟨_, hm⟩
theorem CnAt.tag {h : AH} {a : Nat} {r : Con} (hm : CnAt h a r) : ∃ ws, at_ h a 3 ws := ⟨_, hm⟩
theorem DdAt.tag {h : AH} {a : Nat} {r : Ded} (hm : DdAt h a r) : ∃ ws, at_ h a 5 ws := by
  unfold DdAt at hm
  split at hm
  · exact ⟨_, hm⟩
  · obtain ⟨m, h1, -⟩ := hm
    exact ⟨_, h1⟩
/-- what the lists hold: bindings (list 0), copies (1 letters, 2+q waiting, 14+c held), rows (8+q), deeds (18+c) -/
abbrev Mu : Type := (Nat → List Bnd) × (Nat → List Rec) × (Nat → List Con) × (Nat → List Ded)
def uB (v : Mu) : Nat → List Bnd := v.1
def uC (v : Mu) : Nat → List Rec := v.2.1
def uR (v : Mu) : Nat → List Con := v.2.2.1
def uD (v : Mu) : Nat → List Ded := v.2.2.2
def upB (v : Mu) (k : Nat) (ys : List Bnd) : Mu := (va_up v.1 k ys, v.2)
def upC (v : Mu) (k : Nat) (ys : List Rec) : Mu := (v.1, va_up v.2.1 k ys, v.2.2)
def upR (v : Mu) (k : Nat) (ys : List Con) : Mu := (v.1, v.2.1, va_up v.2.2.1 k ys, v.2.2.2)
def upD (v : Mu) (k : Nat) (ys : List Ded) : Mu := (v.1, v.2.1, v.2.2.1, va_up v.2.2.2 k ys)
def isB (k : Nat) : Prop := k = 0
def isC (k : Nat) : Prop := (1 ≤ k ∧ k < 8) ∨ (14 ≤ k ∧ k < 18)
def isR (k : Nat) : Prop := 8 ≤ k ∧ k < 14
def isD (k : Nat) : Prop := 18 ≤ k ∧ k < 22
def CT (h : AH) (xs : Nat → List Nat) (v : Mu) : Prop :=
  (∀ k, isB k → All2 (BdAt h) (xs k) (uB v k)) ∧ (∀ k, isC k → All2 (CpAt k h) (xs k) (uC v k)) ∧ (∀ k, isR k → All2 (CnAt h) (xs k) (uR v k)) ∧ ∀ k, isD k → All2 (DdAt h) (xs k) (uD v k)
theorem CT.ko {h h' : AH} {xs : Nat → List Nat} {v : Mu} (hk : KO h h') (hc : CT h xs v) : CT h' xs v := by
  obtain ⟨h1, h2, h3, h4⟩ := hc
  exact ⟨fun k z => (h1 k z).mono (fun _ _ _ => BdAt.ko hk), fun k z => (h2 k z).mono (fun _ _ _ => CpAt.ko hk), fun k z => (h3 k z).mono (fun _ _ _ => CnAt.ko hk), fun k z => (h4 k z).mono (fun _ _ _ => DdAt.ko hk)⟩
theorem CT.B {h : AH} {xs : Nat → List Nat} {v : Mu} (hc : CT h xs v) {k : Nat} (hk : isB k) : All2 (BdAt h) (xs k) (uB v k) := hc.1 k hk
theorem CT.C {h : AH} {xs : Nat → List Nat} {v : Mu} (hc : CT h xs v) {k : Nat} (hk : isC k) : All2 (CpAt k h) (xs k) (uC v k) := hc.2.1 k hk
theorem CT.R {h : AH} {xs : Nat → List Nat} {v : Mu} (hc : CT h xs v) {k : Nat} (hk : isR k) : All2 (CnAt h) (xs k) (uR v k) := hc.2.2.1 k hk
theorem CT.D {h : AH} {xs : Nat → List Nat} {v : Mu} (hc : CT h xs v) {k : Nat} (hk : isD k) : All2 (DdAt h) (xs k) (uD v k) := hc.2.2.2 k hk
theorem up_all {α : Type} {R : Nat → Nat → α → Prop} {p : Nat → Prop} {xs : Nat → List Nat} {f : Nat → List α} {k : Nat} {as : List Nat} {ys : List α} (h : ∀ j, p j → All2 (R j) (xs j) (f j)) (ha : All2 (R k) as ys) : ∀ j, p j → All2 (R j) (va_up xs k as j) (va_up f k ys j) := fun j hj => by
  by_cases hz : j = k
  · subst hz
    rw [va_up_self, va_up_self]
    exact ha
  · rw [va_up_ne _ _ hz, va_up_ne _ _ hz]
    exact h j hj
theorem up_oth {α : Type} {R : Nat → Nat → α → Prop} {p : Nat → Prop} {xs : Nat → List Nat} {f : Nat → List α} {k : Nat} {as : List Nat} (h : ∀ j, p j → All2 (R j) (xs j) (f j)) (hn : ¬ p k) : ∀ j, p j → All2 (R j) (va_up xs k as j) (f j) := fun j hj => by
  have hz : j ≠ k := fun z => hn (by rw [← z]; exact hj)
  rw [va_up_ne _ _ hz]
  exact h j hj
theorem CT.upB {h : AH} {xs : Nat → List Nat} {v : Mu} (hc : CT h xs v) {k : Nat} (hk : isB k) {as : List Nat} {ys : List Bnd} (ha : All2 (BdAt h) as ys) : CT h (va_up xs k as) (upB v k ys) := by
  obtain ⟨h1, h2, h3, h4⟩ := hc
  unfold isB at hk
  exact ⟨up_all (R := fun _ => BdAt h) h1 ha, up_oth h2 (by unfold isC; omega), up_oth (R := fun _ => CnAt h) h3 (by unfold isR; omega), up_oth (R := fun _ => DdAt h) h4 (by unfold isD; omega)⟩
theorem CT.upC {h : AH} {xs : Nat → List Nat} {v : Mu} (hc : CT h xs v) {k : Nat} (hk : isC k) {as : List Nat} {ys : List Rec} (ha : All2 (CpAt k h) as ys) : CT h (va_up xs k as) (upC v k ys) := by
  obtain ⟨h1, h2, h3, h4⟩ := hc
  unfold isC at hk
  exact ⟨up_oth (R := fun _ => BdAt h) h1 (by unfold isB; omega), up_all (R := fun j => CpAt j h) h2 ha, up_oth (R := fun _ => CnAt h) h3 (by unfold isR; omega), up_oth (R := fun _ => DdAt h) h4 (by unfold isD; omega)⟩
theorem CT.upR {h : AH} {xs : Nat → List Nat} {v : Mu} (hc : CT h xs v) {k : Nat} (hk : isR k) {as : List Nat} {ys : List Con} (ha : All2 (CnAt h) as ys) : CT h (va_up xs k as) (upR v k ys) := by
  obtain ⟨h1, h2, h3, h4⟩ := hc
  unfold isR at hk
  exact ⟨up_oth (R := fun _ => BdAt h) h1 (by unfold isB; omega), up_oth h2 (by unfold isC; omega), up_all (R := fun _ => CnAt h) h3 ha, up_oth (R := fun _ => DdAt h) h4 (by unfold isD; omega)⟩
theorem CT.upD {h : AH} {xs : Nat → List Nat} {v : Mu} (hc : CT h xs v) {k : Nat} (hk : isD k) {as : List Nat} {ys : List Ded} (ha : All2 (DdAt h) as ys) : CT h (va_up xs k as) (upD v k ys) := by
  obtain ⟨h1, h2, h3, h4⟩ := hc
  unfold isD at hk
  exact ⟨up_oth (R := fun _ => BdAt h) h1 (by unfold isB; omega), up_oth h2 (by unfold isC; omega), up_oth (R := fun _ => CnAt h) h3 (by unfold isR; omega), up_all (R := fun _ => DdAt h) h4 ha⟩
/-- no copy lies twice -/
def ND (xs : Nat → List Nat) : Prop := (∀ k, isC k → (xs k).Nodup) ∧ ∀ k l a, isC k → isC l → a ∈ xs k → a ∈ xs l → k = l
theorem ND.up {xs : Nat → List Nat} (hn : ND xs) {k : Nat} {as : List Nat} (h1 : isC k → as.Nodup) (h2 : isC k → ∀ a l, a ∈ as → isC l → l ≠ k → a ∉ xs l) : ND (va_up xs k as) := by
  refine ⟨fun j hj => ?_, fun i j a hi hj ha hb => ?_⟩
  · by_cases hz : j = k
    · subst hz; rw [va_up_self]; exact h1 hj
    · rw [va_up_ne _ _ hz]; exact hn.1 j hj
  · by_cases hz : i = k <;> by_cases hy : j = k
    · omega
    · subst hz
      rw [va_up_self] at ha
      rw [va_up_ne _ _ hy] at hb
      exact absurd hb (h2 hi a j ha hj hy)
    · subst hy
      rw [va_up_self] at hb
      rw [va_up_ne _ _ hz] at ha
      exact absurd ha (h2 hj a i hb hi hz)
    · rw [va_up_ne _ _ hz] at ha
      rw [va_up_ne _ _ hy] at hb
      exact hn.2 i j a hi hj ha hb
