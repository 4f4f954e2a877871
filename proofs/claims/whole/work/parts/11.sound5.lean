section SND5
variable {p : Program} {l : Launch} {e : Env} {R : Room} {s : State} {m : MethodId} {args : Array Value} {below : List Frame} {meth : Method} {c : Code}
variable {D : va_G} {tys : List (ClassId × FieldType)} {H0 : Heap} {LC LS : Nat} {gc : Nat → Nat} {cc : ByteArray} {nL : Nat} {own : String} {h0 : AH} {dd : Nat} {Q : State → Prop}
/-- a method's words, room, start and end -/
def wsj (j : Nat) : List Cond := Cond.code (mY j) (mB j) (mL j) (mR j) :: GL
def rmD (d : Nat) (h : AH) : Room := { frames := d, cells := h.2.1, slots := h.2.2.1, locals := 31 * d }
def PcD (D : va_G) (tys : List (ClassId × FieldType)) (H0 : Heap) (LC LS : Nat) (gc : Nat → Nat) (As : List Value) (h : AH) : Array Value → State → Prop := fun v U => v = As.toArray ∧ Rl D vwc tys H0 LC LS h U.heap ∧ KX D tys gc H0 U
def QcD (D : va_G) (tys : List (ClassId × FieldType)) (H0 : Heap) (LC LS : Nat) (q : PT) : Array Value → State → Outcome → State → Prop := fun _ _ o t => ∃ (r : Option Value) (h' : AH), o = .returned r ∧ Rl D vwc tys H0 LC LS h' t.heap ∧ q r h'
def MetD (l : Launch) (D : va_G) (tys : List (ClassId × FieldType)) (H0 : Heap) (LC LS : Nat) (gc : Nat → Nat) (d j : Nat) (As : List Value) (h : AH) (q : PT) : Prop :=
  Met l (mY j) (wsj j) (rmD d h) (PcD D tys H0 LC LS gc As h) (QcD D tys H0 LC LS q) h.2.1 h.2.2.1 (fun x => H0.size ≤ x)
theorem PcD_blind {As : List Value} {h : AH} : FrameBlind (PcD D tys H0 LC LS gc As h) := fun a U g mk ⟨h1, h2, h3⟩ => ⟨h1, h2, KX.moved (U := U.calling g mk a) (State.WarmedH.refl U) h3⟩
theorem mcode {j : Nat} (hj : chkM j = true) : plainName (mY j).cls = true ∧ Cond.code (mY j) (mB j) (mL j) (mR j) ∈ GL ∧ Cond.initialized (mY j).cls ∈ GL ∧ mL j ≤ 12 ∧ mN j ≤ mL j ∧ (mY j).cls ≠ "java/lang/invoke/MethodHandle" ∧ (mY j).cls ≠ "java/lang/invoke/VarHandle" ∧ chkB (mY j).cls (mB j) (mL j) (mR j) (decide ((mY j).name = "<init>")) (mbk j) = true := by
  unfold chkM at hj
  simp only [Bool.and_eq_true, Nat.ble_eq, decide_eq_true_eq] at hj
  obtain ⟨⟨⟨⟨⟨⟨⟨⟨h1, h2⟩, h3⟩, h4⟩, h5⟩, h6⟩, h7⟩, -⟩, h9⟩ := hj
  exact ⟨h1, gl_in h2 rfl, gl_in h3 rfl, h4, h5, h6, h7, h9⟩
theorem wsj_good {j : Nat} (hj : chkM j = true) : GoodIn GL (wsj j) := gl_good (fun w hw => by
  rcases List.mem_cons.mp hw with rfl | hw
  · exact (mcode hj).2.1
  · exact hw)
theorem rest8 {st : List Value} (h : st.length ≤ 4) : (st.map fun v => v.category).sum ≤ 8 := by
  have key : ∀ st : List Value, (st.map fun v => v.category).sum ≤ 2 * st.length := by
    intro st
    induction st with
    | nil => exact Nat.le_refl 0
    | cons a r ih =>
      rw [List.map_cons, List.sum_cons, List.length_cons]
      rcases lv_cat a with q | q <;> omega
  have := key st
  omega
/-- how a call goes on -/
theorem J_run {H : Heap} {locs : List Loc} {cells slots mc ms pc : Nat} {ls : Array Slot} {st rest : List Value} {As : Array Value} {q : PT} (hl : ∀ x ∈ locs, H0.size ≤ x.base)
    (hr : va_Run p l e R s m args below meth c H locs cells slots mc ms (F0 m pc ls st) rest (QcD D tys H0 LC LS q As) (fun x => H0.size ≤ x))
    (kk : ∀ (rv : Option Value) (h' : AH), q rv h' → J p l e R s m args below meth c D vwc tys H0 LC LS Q h' (F0 m (pc + 3) ls (rv.toList ++ rest))) : W p l e R s m args below meth c H locs cells slots Q (F0 m pc ls st) := by
  intro T hT X
  obtain ⟨v, st₀, t, T', L, e0, X', hL, e1, e2, ⟨rv, h', ho, hR', hq⟩, go⟩ := hr T hT X
  cases ho
  obtain ⟨t2, a1, b1⟩ := kk v h' hq t.heap (locs ++ L) _ _ hR' (fun x hx => (List.mem_append.mp hx).elim (hl x) (hL x)) T' e1 X'
  exact ⟨t2, go t2 a1, b1⟩
theorem callB_D {h : AH} {j n idx w : Nat} (C : Cx p R s m args c D tys H0 LC LS gc cc nL own h0 dd) (hj : chkM j = true) (hw : lw_is w (.methodLink own idx (mY j)) = true) (hn : (parseMethodDescriptor (mY j).desc).map (fun d => d.parameters.length) = some n) :
    CallB R s args own idx (mY j) (mB j) (mL j) (mR j) (wsj j) (rmD dd h) h.2.1 h.2.2.1 n := by
  obtain ⟨hx, hb, hml, hown, hts, hK, r0, hF, hLo, hRc, hRs⟩ := C
  obtain ⟨m1, m2, m3, m4, m5, m6, m7, m8⟩ := mcode hj
  exact callB_of n hts (wsj_good hj) rfl rfl rfl (hts _ m3) (hts _ (gl_in hw rfl)) ⟨m6, m7, hn⟩ ⟨hF, by show 8 + (mL j + 11) + 31 * dd ≤ R.locals; omega⟩
theorem lw_one {w : Nat} {x y : Cond} (h1 : lw_is w x = true) (h2 : lw_is w y = true) : x = y := by
  unfold lw_is at h1 h2
  exact Option.some.inj ((of_decide_eq_true h1).symm.trans (of_decide_eq_true h2))
theorem mN_st {j n : Nat} (hj : chkM j = true) (hst : lw_is (mR_ j).2.2.2.2.2.2.1 (.static (mY j)) = true) (hn : mN j = n) : (parseMethodDescriptor (mY j).desc).map (fun d => d.parameters.length) = some n := by
  unfold chkM at hj
  simp only [Bool.and_eq_true] at hj
  have h8 := hj.1.2
  split at h8
  · rename_i n' hn'
    simp only [Bool.or_eq_true, Bool.and_eq_true, decide_eq_true_eq, beq_iff_eq] at h8
    rcases h8 with ⟨-, h8⟩ | ⟨g, -⟩
    · rw [hn']
      congr 1
      omega
    · exact absurd (lw_one hst g) (fun z => by cases z)
  · cases h8
theorem mN_in {j n : Nat} (hj : chkM j = true) (hst : lw_is (mR_ j).2.2.2.2.2.2.1 (.instanceMethod (mY j)) = true) (hn : mN j = n + 1) : (parseMethodDescriptor (mY j).desc).map (fun d => d.parameters.length) = some n := by
  unfold chkM at hj
  simp only [Bool.and_eq_true] at hj
  have h8 := hj.1.2
  split at h8
  · rename_i n' hn'
    simp only [Bool.or_eq_true, Bool.and_eq_true, decide_eq_true_eq, beq_iff_eq] at h8
    rcases h8 with ⟨g, -⟩ | ⟨-, h8⟩
    · exact absurd (lw_one hst g) (fun z => by cases z)
    · rw [hn']
      congr 1
      omega
  · cases h8
theorem stk {st : List Value} {na b : Nat} (h : st[na]? = some (.ref b)) : (st.take (na + 1)).reverse = .ref b :: (st.take na).reverse ∧ st = ((st.take na).reverse).reverse ++ .ref b :: st.drop (na + 1) ∧ ((st.take na).reverse).length = na := by
  have hl := (List.getElem?_eq_some_iff.mp h).1
  have e : st.take (na + 1) = st.take na ++ [.ref b] := by rw [List.take_add_one, h]; rfl
  refine ⟨by rw [e, List.reverse_append]; rfl, ?_, by rw [List.length_reverse, List.length_take]; omega⟩
  rw [List.reverse_reverse]
  have := List.take_append_drop (na + 1) st
  rw [e, List.append_assoc] at this
  exact this.symm
theorem J_callV {h : AH} {j na w idx tC b pc : Nat} {st vs : List Value} {ls : Array Slot} {q : PT} (C : Cx p R s m args c D tys H0 LC LS gc cc nL own h0 dd) (hj : chkM j = true) (hw : lw_is w (.methodLink own idx (mY j)) = true) (hn : mN j = na + 1) (hin : lw_is (mR_ j).2.2.2.2.2.2.1 (.instanceMethod (mY j)) = true) (hse : lw_is (mR_ j).2.2.2.2.2.2.2.1 (.selects (mY j).cls (mY j) (mY j)) = true)
    (h1 : 1 ≤ tC) (h2 : tC < 100) (hC : (match vwc[tC - 1]? with | some (C, _, _) => decide ((mY j).cls = C) | none => false) = true) (hls : ls.size = nL) (hb4 : (st.drop (na + 1)).length ≤ 4) (hst : st[na]? = some (.ref b)) (hat : at_ h b tC vs) (hM : MetD l D tys H0 LC LS gc dd j (st.take (na + 1)).reverse h q) (hd : decode cc pc = .ok (.invokevirtual idx, 3))
    (kk : ∀ (rv : Option Value) (h' : AH), q rv h' → J p l e R s m args below meth c D vwc tys H0 LC LS Q h' (F0 m (pc + 3) ls (rv.toList ++ st.drop (na + 1)))) : J p l e R s m args below meth c D vwc tys H0 LC LS Q h (F0 m pc ls st) := by
  have cb := callB_D (h := h) C hj hw (mN_in hj hin hn)
  obtain ⟨hx, hb, hml, hown, hts, hK, r0, hF, hLo, hRc, hRs⟩ := id C
  intro H locs cells slots hR hl
  obtain ⟨s1, s2, s3⟩ := stk hst
  rw [s1] at hM
  refine J_tg r0 hR (fun z1 z2 => ?_)
  cases hc : vwc[tC - 1]? with
  | none => rw [hc] at hC; cases hC
  | some r =>
    rw [hc] at hC
    obtain ⟨CC, T, N⟩ := r
    have hCC : (mY j).cls = CC := of_decide_eq_true hC
    obtain ⟨g1, g2, r', g3, g4, cell, q1, q2, q3, q4⟩ := ce_obj hR hat h1 h2
    refine J_run hl (va_runV (As := (st.take na).reverse) (rest := st.drop (na + 1)) (b := b) (C := (mY j).cls) ⟨hx, hb, hml, hown, hts⟩ hM ⟨cb, hts _ (gl_in hin rfl), hts _ (gl_in hse rfl)⟩ ⟨PcD_blind, ⟨cell, q1, by rw [q3]; rfl, by rw [q2, hCC]; exact (hK.1.1 _ _ hc).2.1⟩, fun U hU hW => ⟨rfl, by rw [hU]; exact hR, hK.moved hW⟩⟩ rfl s3 hls s2 (lv_room (rest8 hb4)) hd ⟨by omega, by omega⟩) kk
theorem J_callS {h : AH} {j na w idx pc : Nat} {st : List Value} {ls : Array Slot} {q : PT} (C : Cx p R s m args c D tys H0 LC LS gc cc nL own h0 dd) (hj : chkM j = true) (hw : lw_is w (.methodLink own idx (mY j)) = true) (hn : mN j = na) (hsta : lw_is (mR_ j).2.2.2.2.2.2.1 (.static (mY j)) = true)
    (hls : ls.size = nL) (hna : na ≤ st.length) (hb4 : (st.drop na).length ≤ 4) (hM : MetD l D tys H0 LC LS gc dd j (st.take na).reverse h q) (hd : decode cc pc = .ok (.invokestatic idx, 3))
    (kk : ∀ (rv : Option Value) (h' : AH), q rv h' → J p l e R s m args below meth c D vwc tys H0 LC LS Q h' (F0 m (pc + 3) ls (rv.toList ++ st.drop na))) : J p l e R s m args below meth c D vwc tys H0 LC LS Q h (F0 m pc ls st) := by
  have cb := callB_D (h := h) C hj hw (mN_st hj hsta hn)
  obtain ⟨hx, hb, hml, hown, hts, hK, r0, hF, hLo, hRc, hRs⟩ := id C
  intro H locs cells slots hR hl
  refine J_tg r0 hR (fun z1 z2 => ?_)
  exact J_run hl (va_runS (As := (st.take na).reverse) (rest := st.drop na) ⟨hx, hb, hml, hown, hts⟩ hM ⟨cb, hts _ (gl_in hsta rfl)⟩ ⟨PcD_blind, fun U hU hW => ⟨rfl, by rw [hU]; exact hR, hK.moved hW⟩⟩ rfl (by rw [List.length_reverse, List.length_take]; omega) hls (by rw [List.reverse_reverse]; exact (List.take_append_drop na st).symm) (lv_room (rest8 hb4)) hd ⟨by omega, by omega⟩) kk
theorem J_callI {h : AH} {j na w idx b pc : Nat} {st : List Value} {ls : Array Slot} {q : PT} (C : Cx p R s m args c D tys H0 LC LS gc cc nL own h0 dd) (hj : chkM j = true) (hw : lw_is w (.methodLink own idx (mY j)) = true ∨ lw_is w (.methodLinkNest own idx (mY j) "QueueBroker") = true) (hn : mN j = na + 1) (hnm : (mY j).name = "<init>") (hrn : mR j = none) (hin : lw_is (mR_ j).2.2.2.2.2.2.1 (.instanceMethod (mY j)) = true)
    (hls : ls.size = nL) (hb4 : (st.drop (na + 1)).length ≤ 4) (hst : st[na]? = some (.ref b)) (hM : MetD l D tys H0 LC LS gc dd j (st.take (na + 1)).reverse h q) (hd : decode cc pc = .ok (.invokespecial idx, 3))
    (kk : ∀ (rv : Option Value) (h' : AH), q rv h' → J p l e R s m args below meth c D vwc tys H0 LC LS Q h' (F0 m (pc + 3) ls (rv.toList ++ st.drop (na + 1)))) : J p l e R s m args below meth c D vwc tys H0 LC LS Q h (F0 m pc ls st) := by
  obtain ⟨hx, hb, hml, hown, hts, hK, r0, hF, hLo, hRc, hRs⟩ := id C
  intro H locs cells slots hR hl
  obtain ⟨s1, s2, s3⟩ := stk hst
  rw [s1] at hM
  refine J_tg r0 hR (fun z1 z2 => ?_)
  rcases hw with hw | hw
  · have cb := callB_D (h := h) C hj hw (mN_in hj hin hn)
    rw [hrn] at cb
    exact J_run hl (va_runI (As := (st.take na).reverse) (rest := st.drop (na + 1)) (b := b) ⟨hx, hb, hml, hown, hts⟩ hM ⟨cb, hnm, hts _ (gl_in hin rfl)⟩ ⟨PcD_blind, fun U hU hW => ⟨rfl, by rw [hU]; exact hR, hK.moved hW⟩⟩ rfl s3 hls s2 (lv_room (rest8 hb4)) hd ⟨by omega, by omega⟩) kk
  · obtain ⟨m1, m2, m3, m4, m5, m6, m7, m8⟩ := mcode hj
    have cb : va_CN R s args own idx (mY j) "QueueBroker" (mB j) (mL j) (mR j) (wsj j) (rmD dd h) h.2.1 h.2.2.1 na := va_cnB na hts (wsj_good hj) rfl rfl rfl (hK.2.2.1 _ (tb_in hw) rfl) (hts _ m3) ⟨m6, m7, mN_in hj hin hn⟩ ⟨hF, by show 8 + (mL j + 11) + 31 * dd ≤ R.locals; omega⟩
    rw [hrn] at cb
    exact J_run hl (va_runIN (As := (st.take na).reverse) (rest := st.drop (na + 1)) (b := b) ⟨hx, hb, hml, hown, hts⟩ hM ⟨cb, hnm, hts _ (gl_in hin rfl)⟩ ⟨PcD_blind, fun U hU hW => ⟨rfl, by rw [hU]; exact hR, hK.moved hW⟩⟩ rfl s3 hls s2 (lv_room (rest8 hb4)) hd ⟨by omega, by omega⟩) kk
end SND5
