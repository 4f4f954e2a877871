/-! objects in lists, and the values that they stand for -/
def All2 {α : Type} (R : Nat → α → Prop) : List Nat → List α → Prop
  | [], [] => True
  | a :: as, b :: bs => R a b ∧ All2 R as bs
  | _, _ => False
theorem All2.len {α : Type} {R : Nat → α → Prop} : ∀ {as : List Nat} {bs : List α}, All2 R as bs → as.length = bs.length
  | [], [], _ => rfl
  | _ :: _, _ :: _, h => by rw [List.length_cons, List.length_cons, All2.len h.2]
  | [], _ :: _, h => h.elim
  | _ :: _, [], h => h.elim
theorem All2.get {α : Type} {R : Nat → α → Prop} : ∀ {as : List Nat} {bs : List α} (i : Nat), All2 R as bs → (h1 : i < as.length) → (h2 : i < bs.length) → R as[i] bs[i]
  | [], _, i, _, h1, _ => absurd h1 (Nat.not_lt_zero _)
  | _ :: _, [], _, h, _, _ => h.elim
  | _ :: _, _ :: _, 0, h, _, _ => h.1
  | _ :: _, _ :: _, i + 1, h, h1, h2 => All2.get i h.2 (Nat.lt_of_succ_lt_succ h1) (Nat.lt_of_succ_lt_succ h2)
theorem All2.mono {α : Type} {R S : Nat → α → Prop} : ∀ {as : List Nat} {bs : List α}, (∀ a b, a ∈ as → R a b → S a b) → All2 R as bs → All2 S as bs
  | [], [], _, _ => trivial
  | _ :: _, _ :: _, hs, h => ⟨hs _ _ List.mem_cons_self h.1, All2.mono (fun a b ha => hs a b (List.mem_cons_of_mem _ ha)) h.2⟩
  | [], _ :: _, _, h => h.elim
  | _ :: _, [], _, h => h.elim
theorem All2.app {α : Type} {R : Nat → α → Prop} : ∀ {as as' : List Nat} {bs bs' : List α}, All2 R as bs → All2 R as' bs' → All2 R (as ++ as') (bs ++ bs')
  | [], _, [], _, _, h2 => h2
  | _ :: _, _, _ :: _, _, h1, h2 => ⟨h1.1, All2.app h1.2 h2⟩
  | [], _, _ :: _, _, h, _ => h.elim
  | _ :: _, _, [], _, h, _ => h.elim
theorem All2.one {α : Type} {R : Nat → α → Prop} {as : List Nat} {bs : List α} {a : Nat} {b : α} (h : All2 R as bs) (hab : R a b) : All2 R (as ++ [a]) (bs ++ [b]) := h.app ⟨hab, trivial⟩
theorem All2.take {α : Type} {R : Nat → α → Prop} : ∀ {as : List Nat} {bs : List α} (i : Nat), All2 R as bs → All2 R (as.take i) (bs.take i)
  | [], [], _, _ => by rw [List.take_nil, List.take_nil]; trivial
  | _ :: _, _ :: _, 0, _ => trivial
  | _ :: _, _ :: _, i + 1, h => ⟨h.1, All2.take i h.2⟩
  | [], _ :: _, _, h => h.elim
  | _ :: _, [], _, h => h.elim
theorem All2.drop {α : Type} {R : Nat → α → Prop} : ∀ {as : List Nat} {bs : List α} (i : Nat), All2 R as bs → All2 R (as.drop i) (bs.drop i)
  | [], [], _, _ => by rw [List.drop_nil, List.drop_nil]; trivial
  | _ :: _, _ :: _, 0, h => h
  | _ :: _, _ :: _, i + 1, h => All2.drop i h.2
  | [], _ :: _, _, h => h.elim
  | _ :: _, [], _, h => h.elim
def insG {α : Type} (ys : List α) (i : Nat) (y : α) : List α := ys.take i ++ y :: ys.drop i
theorem All2.ins {α : Type} {R : Nat → α → Prop} {as : List Nat} {bs : List α} {a i : Nat} {b : α} (h : All2 R as bs) (hab : R a b) : All2 R (ins as i a) (insG bs i b) := (h.take i).app ⟨hab, h.drop i⟩
theorem All2.erase {α : Type} {R : Nat → α → Prop} : ∀ {as : List Nat} {bs : List α} (i : Nat), All2 R as bs → All2 R (as.eraseIdx i) (bs.eraseIdx i)
  | [], [], _, _ => trivial
  | _ :: _, _ :: _, 0, h => h.2
  | _ :: _, _ :: _, i + 1, h => ⟨h.1, All2.erase i h.2⟩
  | [], _ :: _, _, h => h.elim
  | _ :: _, [], _, h => h.elim
/-- a copy's record: body, key, hops, persistent; returned, queue, place, tag, deed -/
abbrev Msg : Type := Int32 × Int32 × Int32 × Int32
abbrev Rec : Type := Msg × Int32 × Int32 × Int32 × Int32 × Int32
def rM (r : Rec) : Msg := r.1
def rRet (r : Rec) : Int32 := r.2.1
def rQ (r : Rec) : Int32 := r.2.2.1
def rP (r : Rec) : Int32 := r.2.2.2.1
def rT (r : Rec) : Int32 := r.2.2.2.2.1
def rD (r : Rec) : Int32 := r.2.2.2.2.2
def MsgAt (h : AH) (a : Nat) (m : Msg) : Prop := at_ h a 7 [.int m.1, .int m.2.1, .int m.2.2.1, .int m.2.2.2]
def CpAt (h : AH) (a : Nat) (r : Rec) : Prop := ∃ m : Nat, at_ h a 4 [.ref m, .int (rQ r), .int (rP r), .int (rRet r), .int (rT r), .int (rD r)] ∧ MsgAt h m (rM r)
abbrev Bnd : Type := Int32 × Int32 × Int32
def BdAt (h : AH) (a : Nat) (b : Bnd) : Prop := at_ h a 1 [.int b.1, .int b.2.1, .int b.2.2]
abbrev Con : Type := Int32 × Int32
def CnAt (h : AH) (a : Nat) (b : Con) : Prop := at_ h a 3 [.int b.1, .int b.2]
abbrev Ded : Type := Int32 × Option Msg × Int32
def DdAt (h : AH) (a : Nat) (b : Ded) : Prop := match b.2.1 with
  | none => at_ h a 5 [.int b.1, .null, .int b.2.2]
  | some ms => ∃ m : Nat, at_ h a 5 [.int b.1, .ref m, .int b.2.2] ∧ MsgAt h m ms
theorem MsgAt.kl {h h' : AH} {a : Nat} {m : Msg} (hk : KL h h') (hm : MsgAt h a m) : MsgAt h' a m := hk _ _ _ (by decide) (by decide) (by decide) hm
theorem CpAt.kl {h h' : AH} {a : Nat} {r : Rec} (hk : KL h h') (hm : CpAt h a r) : CpAt h' a r := by
  obtain ⟨m, h1, h2⟩ := hm
  exact ⟨m, hk _ _ _ (by decide) (by decide) (by decide) h1, h2.kl hk⟩
theorem BdAt.kl {h h' : AH} {a : Nat} {b : Bnd} (hk : KL h h') (hm : BdAt h a b) : BdAt h' a b := hk _ _ _ (by decide) (by decide) (by decide) hm
theorem CnAt.kl {h h' : AH} {a : Nat} {b : Con} (hk : KL h h') (hm : CnAt h a b) : CnAt h' a b := hk _ _ _ (by decide) (by decide) (by decide) hm
theorem DdAt.kl {h h' : AH} {a : Nat} {b : Ded} (hk : KL h h') (hm : DdAt h a b) : DdAt h' a b := by
  unfold DdAt at *
  split at hm
  · exact hk _ _ _ (by decide) (by decide) (by decide) hm
  · obtain ⟨m, h1, h2⟩ := hm
    exact ⟨m, hk _ _ _ (by decide) (by decide) (by decide) h1, h2.kl hk⟩
/-- the copies' lists: letters, waiting, held -/
def cpl (xs : Nat → List Nat) : List Nat := xs 1 ++ (xs 2 ++ (xs 3 ++ (xs 4 ++ (xs 5 ++ (xs 6 ++ (xs 7 ++ (xs 14 ++ (xs 15 ++ (xs 16 ++ xs 17)))))))))
/-- what the lists hold -/
abbrev Mu : Type := List Bnd × List Rec × (Nat → List Rec) × (Nat → List Con) × (Nat → List Rec) × (Nat → List Ded)
def muB (v : Mu) : List Bnd := v.1
def muL (v : Mu) : List Rec := v.2.1
def muW (v : Mu) : Nat → List Rec := v.2.2.1
def muR (v : Mu) : Nat → List Con := v.2.2.2.1
def muH (v : Mu) : Nat → List Rec := v.2.2.2.2.1
def muD (v : Mu) : Nat → List Ded := v.2.2.2.2.2
def CT (h : AH) (xs : Nat → List Nat) (v : Mu) : Prop :=
  All2 (BdAt h) (xs 0) (muB v) ∧ All2 (CpAt h) (xs 1) (muL v) ∧ (∀ q, q < 6 → All2 (CpAt h) (xs (2 + q)) (muW v q)) ∧ (∀ q, q < 6 → All2 (CnAt h) (xs (8 + q)) (muR v q)) ∧
  (∀ c, c < 4 → All2 (CpAt h) (xs (14 + c)) (muH v c)) ∧ ∀ c, c < 4 → All2 (DdAt h) (xs (18 + c)) (muD v c)
theorem CT.kl {h h' : AH} {xs : Nat → List Nat} {v : Mu} (hk : KL h h') (hc : CT h xs v) : CT h' xs v := by
  obtain ⟨h1, h2, h3, h4, h5, h6⟩ := hc
  exact ⟨h1.mono (fun _ _ _ => BdAt.kl hk), h2.mono (fun _ _ _ => CpAt.kl hk), fun q hq => (h3 q hq).mono (fun _ _ _ => CpAt.kl hk), fun q hq => (h4 q hq).mono (fun _ _ _ => CnAt.kl hk), fun c hc => (h5 c hc).mono (fun _ _ _ => CpAt.kl hk), fun c hc => (h6 c hc).mono (fun _ _ _ => DdAt.kl hk)⟩
