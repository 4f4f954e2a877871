/-! WHAT THE PREDICATE SAYS IS SO: the machine walks as the blocks say. -/
def GL : List Cond := lw_tbl.filter goodWord
theorem tb_in {w : Nat} {x : Cond} (h : lw_is w x = true) : x ∈ lw_tbl := by
  unfold lw_is at h
  exact List.mem_of_getElem? (of_decide_eq_true h)
theorem gl_in {w : Nat} {x : Cond} (h : lw_is w x = true) (hg : goodWord x = true) : x ∈ GL := List.mem_filter.mpr ⟨tb_in h, hg⟩
theorem gl_good {ws : List Cond} (h : ∀ w ∈ ws, w ∈ GL) : GoodIn GL ws := fun w hw => ⟨h w hw, good_of_word (List.mem_filter.mp (h w hw)).2⟩
def isNw : Cond → Bool
  | .methodLinkNest .. => true
  | .castable .. => true
  | .declares _ => true
  | _ => false
def KX (D : va_G) (tys : List (ClassId × FieldType)) (gc : Nat → Nat) (H0 : Heap) (s : State) : Prop :=
  va_K D vwc tys s ∧ tys.map (fun q => q.2) = aks ∧ (∀ w ∈ lw_tbl, isNw w = true → va_Nw w s) ∧ (∀ C : String, Cond.arrayOver (.object C) ∈ lw_tbl → va_AO C s) ∧ va_Mi "[Ljava/lang/Object;" (gc 0) s ∧ va_Z "java/util/ArrayList" "DEFAULTCAPACITY_EMPTY_ELEMENTDATA" "[Ljava/lang/Object;" (.ref (gc 1)) (fun q => H0.size ≤ q) s H0 ∧ (∃ scr : Cell, H0[gc 2]? = some scr ∧ s.isArrayOf scr .int ∧ scr.vm ≠ .unknown) ∧ ∃ cell : Cell, H0[gc 1]? = some cell ∧ s.isArrayOf cell (.object "java/lang/Object") ∧ cell.slots.size.toInt32 = 0
theorem KX.moved {D : va_G} {tys : List (ClassId × FieldType)} {gc : Nat → Nat} {H0 : Heap} {s U : State} (hW : s.WarmedH U.vm) (h : KX D tys gc H0 s) : KX D tys gc H0 U := by
  obtain ⟨h1, h2, h3, h4, h5, h6, ⟨scr, h8, h9, h10⟩, cl0, h11, h12, h13⟩ := h
  refine ⟨h1.moved hW.alike, h2, fun w hw hn => ?_, fun C hC => (h4 C hC).moved hW.alike, h5.moved hW.alike, h6.moved hW.alike, ⟨scr, h8, State.isArrayOf_alike hW.alike h9, h10⟩, cl0, h11, State.isArrayOf_alike hW.alike h12, h13⟩
  have h7 := h3 w hw hn
  cases w <;> first | exact va_Nw.warmM hW h7 | exact va_Nw.warmC hW h7 | exact va_Nw.warmD hW h7 | exact absurd hn (by simp [isNw])
/-- a class's rows, checked -/
def clsB (c : Nat) (r : vw_C) : Bool :=
  (List.range r.2.2).all (fun k => decide (u_lay r.1 r.2.1 k ∈ lw_tbl) && (goodWord (u_lay r.1 r.2.1 k) && ((parseFieldDescriptor (r.2.1 k).2.2.1).isSome && decide (defaultValue ((parseFieldDescriptor (r.2.1 k).2.2.1).getD .int) = vp_V (dfl (c + 1)) k)))) &&
  ((List.range r.2.2).all (fun a => (List.range r.2.2).all (fun b => a == b || decide ((r.2.1 a).2.1 ≠ (r.2.1 b).2.1))) && (decide (Cond.instantiable r.1 r.2.2 ∈ lw_tbl) && (decide (Cond.initialized r.1 ∈ lw_tbl) && (dfl (c + 1)).length == r.2.2)))
set_option maxRecDepth 100000 in
theorem cs_0 : (vwc[0]?).all (clsB 0) = true := by decide +kernel
set_option maxRecDepth 100000 in
theorem cs_1 : (vwc[1]?).all (clsB 1) = true := by decide +kernel
set_option maxRecDepth 100000 in
theorem cs_2 : (vwc[2]?).all (clsB 2) = true := by decide +kernel
set_option maxRecDepth 100000 in
theorem cs_3 : (vwc[3]?).all (clsB 3) = true := by decide +kernel
set_option maxRecDepth 100000 in
theorem cs_4 : (vwc[4]?).all (clsB 4) = true := by decide +kernel
set_option maxRecDepth 100000 in
theorem cs_5 : (vwc[5]?).all (clsB 5) = true := by decide +kernel
set_option maxRecDepth 100000 in
theorem cs_6 : (vwc[6]?).all (clsB 6) = true := by decide +kernel
set_option maxRecDepth 100000 in
theorem cs_7 : (vwc[7]?).all (clsB 7) = true := by decide +kernel
set_option maxRecDepth 100000 in
theorem cs_8 : (vwc[8]?).all (clsB 8) = true := by decide +kernel
set_option maxRecDepth 100000 in
theorem cs_9 : (vwc[9]?).all (clsB 9) = true := by decide +kernel
set_option maxRecDepth 100000 in
theorem cs_10 : (vwc[10]?).all (clsB 10) = true := by decide +kernel
theorem vwc_ok {c : Nat} {r : vw_C} (h : vwc[c]? = some r) : clsB c r = true := by
  have key : ∀ (a : Option vw_C), a.all (clsB c) = true → a = some r → clsB c r = true := fun a h1 h2 => by subst h2; exact h1
  refine key _ ?_ h
  match c with
  | 0 => exact cs_0
  | 1 => exact cs_1
  | 2 => exact cs_2
  | 3 => exact cs_3
  | 4 => exact cs_4
  | 5 => exact cs_5
  | 6 => exact cs_6
  | 7 => exact cs_7
  | 8 => exact cs_8
  | 9 => exact cs_9
  | 10 => exact cs_10
  | n + 11 => simp [vwc] at h
def tyc (r : vw_C) (k : Nat) : FieldType := (parseFieldDescriptor (r.2.1 k).2.2.1).getD .int
theorem cls_spec {c : Nat} {r : vw_C} (h : vwc[c]? = some r) : (∀ w ∈ u_ws r.1 r.2.1 r.2.2, w ∈ GL) ∧ (∀ k, k < r.2.2 → parseFieldDescriptor (r.2.1 k).2.2.1 = some (tyc r k)) ∧ (∀ a, a < r.2.2 → ∀ b, b < r.2.2 → a ≠ b → (r.2.1 a).2.1 ≠ (r.2.1 b).2.1) ∧
    Cond.instantiable r.1 r.2.2 ∈ GL ∧ Cond.initialized r.1 ∈ GL ∧ (dfl (c + 1)).length = r.2.2 ∧ ∀ j, j < r.2.2 → defaultValue (tyc r j) = vp_V (dfl (c + 1)) j := by
  have h1 := vwc_ok h
  unfold clsB at h1
  simp only [Bool.and_eq_true, List.all_eq_true, List.mem_range, decide_eq_true_eq, Bool.or_eq_true, beq_iff_eq] at h1
  obtain ⟨f1, f2, f3, f4, f5⟩ := h1
  have hp : ∀ k, k < r.2.2 → parseFieldDescriptor (r.2.1 k).2.2.1 = some (tyc r k) := fun k hk => by
    obtain ⟨-, -, g, -⟩ := f1 k hk
    unfold tyc
    cases hz : parseFieldDescriptor (r.2.1 k).2.2.1 with
    | none => rw [hz] at g; cases g
    | some y => rfl
  refine ⟨fun w hw => ?_, hp, fun a ha b hb hab => ?_, List.mem_filter.mpr ⟨f3, rfl⟩, List.mem_filter.mpr ⟨f4, rfl⟩, f5, fun j hj => (f1 j hj).2.2.2⟩
  · obtain ⟨k, hk, rfl⟩ := List.mem_map.mp hw
    have hk := List.mem_range.mp hk
    exact List.mem_filter.mpr ⟨(f1 k hk).1, (f1 k hk).2.1⟩
  · rcases f2 a ha b hb with g | g
    · exact absurd g hab
    · exact g
