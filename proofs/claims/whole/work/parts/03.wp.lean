/-! THE PROGRAM AS A PREDICATE OVER PICTURES. An instruction with its length and what it names (numbers: targets, class numbers, field numbers, words' places); a block is a list of them. -/
abbrev Ins : Type := Instr × Nat × List Nat
abbrev PT : Type := Option Value → AH → Prop
abbrev KT : Type := Nat → List Value → List Value → AH → Prop
def c1_ : Value → Bool
  | .long _ => false
  | .double _ => false
  | _ => true
def lkb : List (Nat × List Ins) → Nat → List Ins
  | [], _ => []
  | (p, b) :: r, q => if p = q then b else lkb r q
/-- what may be stored in a field or a place of the kind: 0 int, 4 boolean, 1 and 2 a reference, 3 long -/
def pvk (kd : Nat) (v : Value) : Prop := match kd, v with
  | 0, .int _ => True
  | 4, .int x => x = 0 ∨ x = 1
  | 1, .ref _ => True
  | 1, .null => True
  | 2, .ref _ => True
  | 2, .null => True
  | _, _ => False
/-- may an object of class number tb lie in an array of kind t -/
def asg : Nat → Nat → Bool
  | 100, 6 => true
  | 101, 8 => true
  | 102, 2 => true
  | 103, 1 => true
  | 103, 3 => true
  | 103, 4 => true
  | 103, 5 => true
  | _, _ => false
def isRA : Nat → Bool
  | 100 => true
  | 101 => true
  | 102 => true
  | 103 => true
  | _ => false
def cpyL (v0 v1 : List Value) (sp dp n : Nat) : List Value := (List.range v1.length).map (va_cpy (vp_V v0) (vp_V v1) sp dp n)
def nullAt (h : AH) (a t k : Nat) (nx : Prop) : Prop := ∃ vs : List Value, at_ h a t vs ∧ vs[k]? = some .null ∧ nx
def gfk (kd : Nat) (h : AH) (a t k : Nat) (nx : Value → Prop) : Prop := match kd with
  | 0 => ∃ (vs : List Value) (x : Int32), at_ h a t vs ∧ vs[k]? = some (.int x) ∧ nx (.int x)
  | 1 => ∃ (vs : List Value) (b : Nat), at_ h a t vs ∧ vs[k]? = some (.ref b) ∧ nx (.ref b)
  | 2 => (∃ vs : List Value, at_ h a t vs ∧ vs[k]? = some .null ∧ nx .null) ∨ ∃ (vs : List Value) (b : Nat), at_ h a t vs ∧ vs[k]? = some (.ref b) ∧ nx (.ref b)
  | _ => False
def rvk (rk : Nat) (rv : Option Value) (s' : List Value) (nx : List Value → Prop) : Prop := match rk with
  | 0 => rv = none ∧ nx s'
  | 1 => ∃ x : Int32, rv = some (.int x) ∧ nx (.int x :: s')
  | 2 => ∃ b : Nat, rv = some (.ref b) ∧ nx (.ref b :: s')
  | 3 => ∃ x : Int64, rv = some (.long x) ∧ nx (.long x :: s')
  | 5 => (rv = some .null ∧ nx (.null :: s')) ∨ ∃ b : Nat, rv = some (.ref b) ∧ nx (.ref b :: s')
  | _ => False
def ifI (c : ClassFile.Cond) (x y : Int32) (A B : Prop) : Prop := match c with
  | .eq => (x = y → A) ∧ (¬ x = y → B)
  | .ne => (¬ x = y → A) ∧ (x = y → B)
  | .lt => (x < y → A) ∧ (¬ x < y → B)
  | .ge => (y ≤ x → A) ∧ (¬ y ≤ x → B)
  | .gt => (y < x → A) ∧ (¬ y < x → B)
  | .le => (x ≤ y → A) ∧ (¬ x ≤ y → B)
def dflM : List Value := [.null, .null, .null, .null, .null, .null, .null, .null, .int 0, .null, .null, .null, .int 0, .null, .null, .null, .null, .null, .null, .null, .null, .null, .null, .null, .null, .null, .null, .null, .null, .null, .null, .int 0, .int 0, .null, .null, .null, .null, .null, .int 0, .int 0, .int 0, .null, .null]
/-- a class's new object -/
def dfl : Nat → List Value
  | 1 => [.int 0, .int 0, .int 0]
  | 2 => [.int 0, .int 0, .int 0, .null, .null]
  | 3 => [.int 0, .int 0]
  | 4 => [.null, .int 0, .int 0, .int 0, .int 0, .int 0]
  | 5 => [.int 0, .null, .int 0]
  | 6 => [.int 0, .int 0, .int 0]
  | 7 => [.int 0, .int 0, .int 0, .int 0]
  | 8 => [.int 0, .int 0, .int 0, .int 0, .null, .null]
  | 9 => [.null, .null, .null, .null, .null, .int 0, .int 0, .int 0]
  | 10 => [.int 0, .null, .int 0]
  | 11 => dflM
  | _ => []
/-- what a block does from a place on: E the methods that it calls, K what is known of other places, q what is to hold at a return; gc 0 the class object of Object[], gc 1 the list of no places, gc 2 the script -/
def wpb (gc : Nat → Nat) (E : Nat → List Value → AH → PT → Prop) (K : KT) (q : PT) : List Ins → Nat → List Value → List Value → AH → Prop
  | [], pc, L, st, h => K pc L st h
  | (i, n, an) :: r, pc, L, st, h => match i with
    | .aconst_null => wpb gc E K q r (pc + n) L (.null :: st) h
    | .iconst v => wpb gc E K q r (pc + n) L (.int (Int32.ofInt v) :: st) h
    | .bipush v => wpb gc E K q r (pc + n) L (.int (Int8.ofInt v).toInt32 :: st) h
    | .sipush v => wpb gc E K q r (pc + n) L (.int (Int16.ofInt v).toInt32 :: st) h
    | .lconst v => wpb gc E K q r (pc + n) L (.long (Int64.ofNat v.val) :: st) h
    | .ldc _ => match an with
      | [v, _] => wpb gc E K q r (pc + n) L (.int (Int32.ofNat v) :: st) h
      | [_] => wpb gc E K q r (pc + n) L (.ref (gc 0) :: st) h
      | _ => False
    | .ldc_w _ => match an with
      | [v, _] => wpb gc E K q r (pc + n) L (.int (Int32.ofNat v) :: st) h
      | _ => False
    | .ldc2_w _ => match an with
      | [v, _] => wpb gc E K q r (pc + n) L (.long (Int64.ofNat v) :: st) h
      | _ => False
    | .iload x => match L[x]? with
      | some (.int v) => wpb gc E K q r (pc + n) L (.int v :: st) h
      | _ => False
    | .iload_n x => match L[x.val]? with
      | some (.int v) => wpb gc E K q r (pc + n) L (.int v :: st) h
      | _ => False
    | .aload x => match L[x]? with
      | some (.ref v) => wpb gc E K q r (pc + n) L (.ref v :: st) h
      | some .null => wpb gc E K q r (pc + n) L (.null :: st) h
      | _ => False
    | .aload_n x => match L[x.val]? with
      | some (.ref v) => wpb gc E K q r (pc + n) L (.ref v :: st) h
      | some .null => wpb gc E K q r (pc + n) L (.null :: st) h
      | _ => False
    | .istore x => match st with
      | .int v :: s' => wpb gc E K q r (pc + n) (L.set x (.int v)) s' h
      | _ => False
    | .istore_n x => match st with
      | .int v :: s' => wpb gc E K q r (pc + n) (L.set x.val (.int v)) s' h
      | _ => False
    | .astore x => match st with
      | .ref v :: s' => wpb gc E K q r (pc + n) (L.set x (.ref v)) s' h
      | .null :: s' => wpb gc E K q r (pc + n) (L.set x .null) s' h
      | _ => False
    | .astore_n x => match st with
      | .ref v :: s' => wpb gc E K q r (pc + n) (L.set x.val (.ref v)) s' h
      | .null :: s' => wpb gc E K q r (pc + n) (L.set x.val .null) s' h
      | _ => False
    | .iinc x k => match L[x]? with
      | some (.int v) => wpb gc E K q r (pc + n) (L.set x (.int (v + Int32.ofInt k))) st h
      | _ => False
    | .iadd => match st with
      | .int y :: .int x :: s' => wpb gc E K q r (pc + n) L (.int (x + y) :: s') h
      | _ => False
    | .isub => match st with
      | .int y :: .int x :: s' => wpb gc E K q r (pc + n) L (.int (x - y) :: s') h
      | _ => False
    | .imul => match st with
      | .int y :: .int x :: s' => wpb gc E K q r (pc + n) L (.int (x * y) :: s') h
      | _ => False
    | .iand => match st with
      | .int y :: .int x :: s' => wpb gc E K q r (pc + n) L (.int (x &&& y) :: s') h
      | _ => False
    | .ior => match st with
      | .int y :: .int x :: s' => wpb gc E K q r (pc + n) L (.int (x ||| y) :: s') h
      | _ => False
    | .ishl => match st with
      | .int y :: .int x :: s' => wpb gc E K q r (pc + n) L (.int (x <<< (y &&& 31)) :: s') h
      | _ => False
    | .ishr => match st with
      | .int y :: .int x :: s' => wpb gc E K q r (pc + n) L (.int (x >>> (y &&& 31)) :: s') h
      | _ => False
    | .iushr => match st with
      | .int y :: .int x :: s' => wpb gc E K q r (pc + n) L (.int (x.toUInt32 >>> (y.toUInt32 &&& Int32.toUInt32 31)).toInt32 :: s') h
      | _ => False
    | .irem => match st with
      | .int y :: .int x :: s' => ¬ y = 0 ∧ wpb gc E K q r (pc + n) L (.int (x - x / y * y) :: s') h
      | _ => False
    | .ineg => match st with
      | .int x :: s' => wpb gc E K q r (pc + n) L (.int (-x) :: s') h
      | _ => False
    | .i2l => match st with
      | .int x :: s' => wpb gc E K q r (pc + n) L (.long x.toInt64 :: s') h
      | _ => False
    | .lcmp => match st with
      | .long y :: .long x :: s' => wpb gc E K q r (pc + n) L (.int (lg_cmp x y) :: s') h
      | _ => False
    | .pop => match st with
      | v :: s' => match c1_ v with
        | true => wpb gc E K q r (pc + n) L s' h
        | false => False
      | _ => False
    | .dup => match st with
      | v :: s' => match c1_ v with
        | true => wpb gc E K q r (pc + n) L (v :: v :: s') h
        | false => False
      | _ => False
    | .dup_x1 => match st with
      | v :: w :: s' => match c1_ v, c1_ w with
        | true, true => wpb gc E K q r (pc + n) L (v :: w :: v :: s') h
        | _, _ => False
      | _ => False
    | .dup2 => match st with
      | v :: w :: s' => match c1_ v, c1_ w with
        | true, true => wpb gc E K q r (pc + n) L (v :: w :: v :: w :: s') h
        | _, _ => False
      | _ => False
    | .ifCond c _ => match an, st with
      | [t], .int x :: s' => ifI c x 0 (K t L s' h) (wpb gc E K q r (pc + n) L s' h)
      | _, _ => False
    | .if_icmp c _ => match an, st with
      | [t], .int y :: .int x :: s' => ifI c x y (K t L s' h) (wpb gc E K q r (pc + n) L s' h)
      | _, _ => False
    | .if_acmp c _ => match c, an, st with
      | .eq, [t], .ref y :: .ref x :: s' => (x = y → K t L s' h) ∧ (¬ x = y → wpb gc E K q r (pc + n) L s' h)
      | .ne, [t], .ref y :: .ref x :: s' => (¬ x = y → K t L s' h) ∧ (x = y → wpb gc E K q r (pc + n) L s' h)
      | _, _, _ => False
    | .ifnonnull _ => match an, st with
      | [t], .ref _ :: s' => K t L s' h
      | [_], .null :: s' => wpb gc E K q r (pc + n) L s' h
      | _, _ => False
    | .goto _ => match an with
      | [t] => K t L st h
      | _ => False
    | .tableswitch _ lo hi _ => match an, st with
      | d :: ts, .int x :: s' => ((x.toInt < lo ∨ hi < x.toInt) → K d L s' h) ∧ ∀ (j t : Nat), ts[j]? = some t → x.toInt = lo + j → K t L s' h
      | _, _ => False
    | .getfield _ => match an, st with
      | [t, k, _, kd], .ref a :: s' => gfk kd h a t k (fun v => wpb gc E K q r (pc + n) L (v :: s') h)
      | _, _ => False
    | .putfield _ => match an, st with
      | [t, k, _, kd], v :: .ref a :: s' => ∃ vs : List Value, at_ h a t vs ∧ k < vs.length ∧ pvk kd v ∧ ∀ h' : AH, h' = ah_set h a (t, vs.set k v) → wpb gc E K q r (pc + n) L s' h'
      | _, _ => False
    | .getstatic _ => match an with
      | [_] => wpb gc E K q r (pc + n) L (.ref (gc 1) :: st) h
      | _ => False
    | .new _ => match an with
      | [t, _] => 1 ≤ h.2.1 ∧ (dfl t).length ≤ h.2.2.1 ∧ ∀ (a : Nat) (h' : AH), a = h.1 → h' = ah_new h (t, dfl t) → wpb gc E K q r (pc + n) L (.ref a :: st) h'
      | _ => False
    | .newarray _ => match an, st with
      | [t], .int x :: s' => ¬ x < 0 ∧ 1 ≤ h.2.1 ∧ x.toNatClampNeg ≤ h.2.2.1 ∧ x.toNatClampNeg ≤ 100000 ∧ ∀ (a : Nat) (h' : AH), a = h.1 → h' = ah_new h (t, List.replicate x.toNatClampNeg (.int 0)) → wpb gc E K q r (pc + n) L (.ref a :: s') h'
      | _, _ => False
    | .anewarray _ => match an, st with
      | [t, _], .int x :: s' => ¬ x < 0 ∧ 1 ≤ h.2.1 ∧ x.toNatClampNeg ≤ h.2.2.1 ∧ x.toNatClampNeg ≤ 100000 ∧ ∀ (a : Nat) (h' : AH), a = h.1 → h' = ah_new h (t, List.replicate x.toNatClampNeg .null) → wpb gc E K q r (pc + n) L (.ref a :: s') h'
      | _, _ => False
    | .arraylength => match st with
      | .ref a :: s' => ∃ (t : Nat) (vs : List Value), at_ h a t vs ∧ ((100 ≤ t ∧ t < 200) ∨ (t = 200 ∧ a = gc 2) ∨ (t = 201 ∧ a = gc 1 ∧ vs = [])) ∧ wpb gc E K q r (pc + n) L (.int (Int32.ofNat vs.length) :: s') h
      | _ => False
    | .iaload => match st with
      | .int i :: .ref a :: s' => ∃ (t : Nat) (vs : List Value) (x : Int32), at_ h a t vs ∧ (t = 104 ∨ (t = 200 ∧ a = gc 2)) ∧ ¬ i < 0 ∧ vs[i.toNatClampNeg]? = some (.int x) ∧ wpb gc E K q r (pc + n) L (.int x :: s') h
      | _ => False
    | .baload => match st with
      | .int i :: .ref a :: s' => ∃ (vs : List Value) (x : Int32), at_ h a 105 vs ∧ ¬ i < 0 ∧ vs[i.toNatClampNeg]? = some (.int x) ∧ wpb gc E K q r (pc + n) L (.int x :: s') h
      | _ => False
    | .aaload => match st with
      | .int i :: .ref a :: s' => ∃ (t : Nat) (vs : List Value) (b : Nat), at_ h a t vs ∧ isRA t = true ∧ ¬ i < 0 ∧ vs[i.toNatClampNeg]? = some (.ref b) ∧ wpb gc E K q r (pc + n) L (.ref b :: s') h
      | _ => False
    | .iastore => match st with
      | .int x :: .int i :: .ref a :: s' => ∃ vs : List Value, at_ h a 104 vs ∧ ¬ i < 0 ∧ i.toNatClampNeg < vs.length ∧ ∀ h' : AH, h' = ah_set h a (104, vs.set i.toNatClampNeg (.int x)) → wpb gc E K q r (pc + n) L s' h'
      | _ => False
    | .bastore => match st with
      | .int x :: .int i :: .ref a :: s' => ∃ vs : List Value, at_ h a 105 vs ∧ ¬ i < 0 ∧ i.toNatClampNeg < vs.length ∧ (x = 0 ∨ x = 1) ∧ ∀ h' : AH, h' = ah_set h a (105, vs.set i.toNatClampNeg (.int x)) → wpb gc E K q r (pc + n) L s' h'
      | _ => False
    | .aastore => match st with
      | .ref b :: .int i :: .ref a :: s' => ∃ (t tb : Nat) (vs ws : List Value), at_ h a t vs ∧ at_ h b tb ws ∧ asg t tb = true ∧ ¬ i < 0 ∧ i.toNatClampNeg < vs.length ∧ ∀ h' : AH, h' = ah_set h a (t, vs.set i.toNatClampNeg (.ref b)) → wpb gc E K q r (pc + n) L s' h'
      | .null :: .int i :: .ref a :: s' => ∃ (t : Nat) (vs : List Value), at_ h a t vs ∧ isRA t = true ∧ ¬ i < 0 ∧ i.toNatClampNeg < vs.length ∧ ∀ h' : AH, h' = ah_set h a (t, vs.set i.toNatClampNeg .null) → wpb gc E K q r (pc + n) L s' h'
      | _ => False
    | .checkcast _ => match an, st with
      | [t, _, _], .ref a :: s' => ∃ vs : List Value, at_ h a t vs ∧ wpb gc E K q r (pc + n) L (.ref a :: s') h
      | _, _ => False
    | .invokevirtual _ => match an with
      | [j, na, rk, _, tC] => match Nat.ble (na + 1) st.length, Nat.ble (st.drop (na + 1)).length 4, st[na]? with
        | true, true, some (.ref b) => (∃ vs : List Value, at_ h b tC vs) ∧ ∃ Q : PT, E j (st.take (na + 1)).reverse h Q ∧ ∀ (rv : Option Value) (h' : AH), Q rv h' → rvk rk rv (st.drop (na + 1)) (fun s' => wpb gc E K q r (pc + n) L s' h')
        | _, _, _ => False
      | [_] => match st with
        | .ref a :: s' => match Nat.ble s'.length 4 with
          | true => (∃ vs : List Value, at_ h a 103 vs) ∧ wpb gc E K q r (pc + n) L (.ref (gc 0) :: s') h
          | false => False
        | _ => False
      | _ => False
    | .invokespecial _ => match an with
      | [j, na, rk, _, _] => match Nat.ble (na + 1) st.length, Nat.ble (st.drop (na + 1)).length 4, st[na]? with
        | true, true, some (.ref _) => ∃ Q : PT, E j (st.take (na + 1)).reverse h Q ∧ ∀ (rv : Option Value) (h' : AH), Q rv h' → rvk rk rv (st.drop (na + 1)) (fun s' => wpb gc E K q r (pc + n) L s' h')
        | _, _, _ => False
      | [_] => match st with
        | .ref _ :: s' => match Nat.ble s'.length 4 with
          | true => wpb gc E K q r (pc + n) L s' h
          | false => False
        | _ => False
      | _ => False
    | .invokestatic _ => match an with
      | [j, na, rk, _] => match Nat.ble na st.length, Nat.ble (st.drop na).length 4 with
        | true, true => ∃ Q : PT, E j (st.take na).reverse h Q ∧ ∀ (rv : Option Value) (h' : AH), Q rv h' → rvk rk rv (st.drop na) (fun s' => wpb gc E K q r (pc + n) L s' h')
        | _, _ => False
      | [0, _] => match st with
        | .int y :: .int x :: s' => match Nat.ble s'.length 4 with
          | true => wpb gc E K q r (pc + n) L (.int (if x < y then y else x) :: s') h
          | false => False
        | _ => False
      | [1, _] => match st with
        | .int y :: .int x :: s' => match Nat.ble s'.length 4 with
          | true => wpb gc E K q r (pc + n) L (.int (if y < x then y else x) :: s') h
          | false => False
        | _ => False
      | [2, _] => match st with
        | .int k :: .int dp :: .ref a :: .int sp :: .ref a0 :: s' => match Nat.ble s'.length 4 with
          | true => ∃ v0 v1 : List Value, at_ h a0 103 v0 ∧ at_ h a 103 v1 ∧ ¬ sp < 0 ∧ ¬ dp < 0 ∧ ¬ k < 0 ∧ sp.toNatClampNeg + k.toNatClampNeg ≤ v0.length ∧ dp.toNatClampNeg + k.toNatClampNeg ≤ v1.length ∧ 1 ≤ v1.length ∧
            (∀ v ∈ v0, v = .null ∨ ∃ (y ty : Nat) (vs : List Value), v = .ref y ∧ at_ h y ty vs ∧ asg 103 ty = true) ∧
            ∀ h' : AH, h' = ah_set h a (103, cpyL v0 v1 sp.toNatClampNeg dp.toNatClampNeg k.toNatClampNeg) → wpb gc E K q r (pc + n) L s' h'
          | false => False
        | _ => False
      | _ => False
    | .ireturn => match an, st with
      | [0], [.int x] => q (some (.int x)) h
      | [4], [.int x] => (x = 0 ∨ x = 1) ∧ q (some (.int x)) h
      | _, _ => False
    | .lreturn => match st with
      | [.long x] => q (some (.long x)) h
      | _ => False
    | .areturn => match st with
      | [.ref x] => q (some (.ref x)) h
      | [.null] => q (some .null) h
      | _ => False
    | .return_ => match st with
      | [] => q none h
      | _ => False
    | _ => False
/-- from a place on: the least predicate that the blocks allow -/
def Tf (gc : Nat → Nat) (E : Nat → List Value → AH → PT → Prop) (bks : List (Nat × List Ins)) (q : PT) : KT := fun pc L st h =>
  ∀ P : KT, (∀ (pc : Nat) (L st : List Value) (h : AH), (∃ K : KT, (∀ (pc : Nat) (L st : List Value) (h : AH), K pc L st h → P pc L st h) ∧ wpb gc E K q (lkb bks pc) pc L st h) → P pc L st h) → P pc L st h
theorem Tf_fold {gc : Nat → Nat} {E : Nat → List Value → AH → PT → Prop} {bks : List (Nat × List Ins)} {q : PT} {pc : Nat} {L st : List Value} {h : AH} (hw : wpb gc E (Tf gc E bks q) q (lkb bks pc) pc L st h) : Tf gc E bks q pc L st h :=
  fun P hP => hP _ _ _ _ ⟨Tf gc E bks q, fun _ _ _ _ hT => hT P hP, hw⟩
