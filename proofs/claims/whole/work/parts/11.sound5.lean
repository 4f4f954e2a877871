section SND5
variable {p : Program} {l : Launch} {e : Env} {R : Room} {s : State} {m : MethodId} {args : Array Value} {below : List Frame} {meth : Method} {c : Code}
variable {D : va_G} {tys : List (ClassId × FieldType)} {H0 : Heap} {LC LS : Nat} {gc : Nat → Nat} {cc : ByteArray} {nL : Nat} {own : String} {h0 : AH} {dd : Nat} {Q : State → Prop}
/-- a method's words, room, start and end -/
def wsj (j : Nat) : List Cond := Cond.code (mY j) (mB j) (mL j) (mR j) :: GL
def rmD (d : Nat) (h : AH) : Room := { frames := d, cells := h.2.1, slots := h.2.2.1, locals := 31 * d }
def PcD (D : va_G) (tys : List (ClassId × FieldType)) (H0 : Heap) (LC LS : Nat) (gc : Nat → Nat) (As : List Value) (h : AH) : Array Value → State → Prop := fun v U => v = As.toArray ∧ Rl D vwc tys H0 LC LS h U.heap ∧ KX D tys gc H0 U
def QcD (D : va_G) (tys : List (ClassId × FieldType)) (H0 : Heap) (LC LS : Nat) (q : PT) : Array Value → State → Outcome → State → Prop := fun _ _ o t => ∃ (r : Option Value) (h' : AH), o = .returned r ∧ Rl D vwc tys H0 LC LS h' t.heap ∧ q r h'
def MetD (l : Launch) (D : va_G) (tys : List (ClassId × FieldType)) (H0 : Heap) (LC LS : Nat) (gc : Nat → Nat) (d j : Nat) (As : List Value) (h : AH) (q : PT) : Prop :=
  Met l (mY j) (wsj j) (rmD d h) (PcD D tys H0 LC LS gc As h) (QcD D tys H0 LC LS q) h.2.1 h.2.2.1 (fun x => H0.size ≤ x)
theorem PcD_blind {As : List Value} {h : AH} : FrameBlind (PcD D tys H0 LC LS gc As h) := fun a U g mk ⟨h1, h2, h3⟩ => ⟨h1, h2, KX.moved (U := U.calling g mk a) (State.WarmedH.refl U) h3⟩
theorem mcode {j : Nat} (hj : chkM j = true) : plainName (mY j).cls = true ∧ Cond.code (mY j) (mB j) (mL j) (mR j) ∈ GL ∧ Cond.initialized (mY j).cls ∈ GL ∧ mL j ≤ 12 ∧ mN j ≤ mL j ∧ (mY j).cls ≠ "java/lang/invoke/MethodHandle" ∧ (mY j).cls ≠ "java/lang/invoke/VarHandle" ∧ chkB (mY j).cls (mB j) (mL j) (mR j) (decide ((mY j).name = "<init>")) (mbk j) = true := by
  unfold chkM at hj
  simp only [Bool.and_eq_true, Nat.ble_eq, decide_eq_true_eq] at hj
  obtain ⟨⟨⟨⟨⟨⟨⟨⟨h1, h2⟩, h3⟩, h4⟩, h5⟩, h6⟩, h7⟩, -⟩, h9⟩ := hj
  exact ⟨h1, gl_in h2 rfl, gl_in h3 rfl, h4, h5, h6, h7, h9⟩
theorem wsj_good {j : Nat} (hj : chkM j = true) : GoodIn GL (wsj j) := gl_good (fun w hw => by
  rcases List.mem_cons.mp hw with rfl | hw
  · exact (mcode hj).2.1
  · exact hw)
theorem rest8 {st : List Value} (h : st.length ≤ 4) : (st.map fun v => v.category).sum ≤ 8 := by
  have key : ∀ st : List Value, (st.map fun v => v.category).sum ≤ 2 * st.length := by
    intro st
    induction st with
    | nil => exact Nat.le_refl 0
    | cons a r ih =>
      rw [List.map_cons, List.sum_cons, List.length_cons]
      rcases lv_cat a with q | q <;> omega
  have := key st
  omega
/-- how a call goes on -/
theorem J_run {h : AH} {H : Heap} {locs : List Loc} {cells slots mc ms pc : Nat} {ls : Array Slot} {st rest : List Value} {As : Array Value} {q : PT} (hl : ∀ x ∈ locs, H0.size ≤ x.base)
    (hr : va_Run p l e R s m args below meth c H locs cells slots mc ms (F0 m pc ls st) rest (QcD D tys H0 LC LS q As) (fun x => H0.size ≤ x))
    (kk : ∀ (rv : Option Value) (h' : AH), q rv h' → J p l e R s m args below meth c D vwc tys H0 LC LS Q h' (F0 m (pc + 3) ls (rv.toList ++ rest))) : W p l e R s m args below meth c H locs cells slots Q (F0 m pc ls st) := by
  intro T hT X
  obtain ⟨v, st₀, t, T', L, e0, X', hL, e1, e2, ⟨rv, h', ho, hR', hq⟩, go⟩ := hr T hT X
  cases ho
  obtain ⟨t2, a1, b1⟩ := kk v h' hq t.heap (locs ++ L) _ _ hR' (fun x hx => (List.mem_append.mp hx).elim (hl x) (hL x)) T' e1 X'
  exact ⟨t2, go t2 a1, b1⟩
theorem callB_D {h : AH} {j n idx w : Nat} (C : Cx p R s m args c D tys H0 LC LS gc cc nL own h0 dd) (hj : chkM j = true) (hw : lw_is w (.methodLink own idx (mY j)) = true) (hn : (parseMethodDescriptor (mY j).desc).map (fun d => d.parameters.length) = some n) :
    CallB R s args own idx (mY j) (mB j) (mL j) (mR j) (wsj j) (rmD dd h) h.2.1 h.2.2.1 n := by
  obtain ⟨hx, hb, hml, hown, hts, hK, r0, hF, hLo, hRc, hRs⟩ := C
  obtain ⟨m1, m2, m3, m4, m5, m6, m7, m8⟩ := mcode hj
  exact callB_of n hts (wsj_good hj) rfl rfl rfl (hts _ m3) (hts _ (gl_in hw rfl)) ⟨m6, m7, hn⟩ ⟨hF, by show 8 + (mL j + 11) + 31 * dd ≤ R.locals; omega⟩
theorem mN_of {j n : Nat} (hj : chkM j = true) (hst : lw_is (mR_ j).2.2.2.2.2.2.1 (.static (mY j)) = true) (hn : mN j = n) : (parseMethodDescriptor (mY j).desc).map (fun d => d.parameters.length) = some n := by
  sorry
end SND5
