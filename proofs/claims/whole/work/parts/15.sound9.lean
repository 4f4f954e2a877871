theorem lkb_chk {own : String} {cc : ByteArray} {nL : Nat} {rt : Option FieldType} {ini : Bool} {b : List (Nat × List Ins)} (h : chkB own cc nL rt ini b = true) (pc : Nat) : chk own cc nL rt ini (lkb b pc) pc = true := by
  unfold chkB at h
  induction b with
  | nil => rfl
  | cons x r ih =>
    obtain ⟨p0, b0⟩ := x
    rw [List.all_cons, Bool.and_eq_true] at h
    unfold lkb
    by_cases hp : p0 = pc
    · rw [if_pos hp, ← hp]
      exact h.1
    · rw [if_neg hp]
      exact ih h.2
theorem sl_c1 {As : List Value} (h : ∀ v ∈ As, v.category = 1) : lg_sl As = As.map Slot.val := by
  induction As with
  | nil => rfl
  | cons a r ih =>
    have h1 := h a List.mem_cons_self
    have e : lg_sl (a :: r) = (if a.category = 2 then [.val a, .second] else [.val a]) ++ lg_sl r := rfl
    rw [e, ih (fun v hv => h v (List.mem_cons_of_mem _ hv)), h1]
    rfl
theorem lvl_entry {As : List Value} {n : Nat} (h : ∀ v ∈ As, v.category = 1) (hn : As.length ≤ n) : lvl ((lg_sl As ++ List.replicate (n - (lg_sl As).length) Slot.unset).toArray) (As ++ List.replicate (n - As.length) (.retAddr 0)) := by
  have hl : (lg_sl As).length = As.length := by rw [sl_c1 h, List.length_map]
  have hL : (As ++ List.replicate (n - As.length) (Value.retAddr 0)).length = n := by rw [List.length_append, List.length_replicate]; omega
  obtain ⟨e1, e2, -⟩ := lv_entry As (n := n) (by rw [hl]; exact hn)
  refine ⟨⟨by rw [hL]; exact e1, e2, fun q hq => ?_⟩, fun v hv => ?_⟩
  · obtain ⟨i, v⟩ := q
    obtain ⟨g1, g2⟩ := mem_prs.mp hq
    by_cases hi : i < As.length
    · rw [List.getElem?_append_left hi] at g1
      show ((lg_sl As ++ _).toArray)[i]? = some (.val v)
      rw [List.getElem?_toArray, List.getElem?_append_left (by rw [hl]; exact hi), sl_c1 h, List.getElem?_map, g1]
      rfl
    · rw [List.getElem?_append_right (by omega)] at g1
      have := List.mem_of_getElem? g1
      rw [List.mem_replicate] at this
      exact absurd this.2 (g2 0)
  · rcases List.mem_append.mp hv with g | g
    · exact h v g
    · rw [(List.mem_replicate.mp g).2]
      rfl
theorem Tf_sound {p : Program} {l : Launch} {e : Env} {R : Room} {s : State} {m : MethodId} {args : Array Value} {below : List Frame} {meth : Method} {c : Code} {D : va_G} {tys : List (ClassId × FieldType)} {H0 : Heap} {LC LS : Nat} {gc : Nat → Nat} {cc : ByteArray} {nL : Nat} {own : String} {h0 : AH} {dd : Nat} {Q : State → Prop}
    {E : Nat → List Value → AH → PT → Prop} {q : PT} {rt : Option FieldType} {ini : Bool} {bks : List (Nat × List Ins)} (C : Cx p R s m args c D tys H0 LC LS gc cc nL own h0 dd) (hini : ini = true → meth.name = "<init>")
    (hE : ∀ (j : Nat) (As : List Value) (h : AH) (Q' : PT), E j As h Q' → MetD l D tys H0 LC LS gc dd j As h Q') (hM : ∀ j, j < mI.length → chkM j = true) (hB : chkB own cc nL rt ini bks = true)
    (hri : ∀ (pc : Nat) (ls : Array Slot) (h : AH) (x : Int32), decode cc pc = .ok (.ireturn, 1) → (rt = some .int ∨ (rt = some .boolean ∧ (x = 0 ∨ x = 1))) → q (some (.int x)) h → J p l e R s m args below meth c D vwc tys H0 LC LS Q h (F0 m pc ls [.int x]))
    (hrl : ∀ (pc : Nat) (ls : Array Slot) (h : AH) (x : Int64), decode cc pc = .ok (.lreturn, 1) → rt = some .long → q (some (.long x)) h → J p l e R s m args below meth c D vwc tys H0 LC LS Q h (F0 m pc ls [.long x]))
    (hra : ∀ (pc : Nat) (ls : Array Slot) (h : AH) (v : Value), decode cc pc = .ok (.areturn, 1) → (∃ rt', rt = some rt' ∧ ((∃ n, rt' = .object n) ∨ ∃ t, rt' = .array t)) → (v = .null ∨ ∃ a, v = .ref a) → q (some v) h → J p l e R s m args below meth c D vwc tys H0 LC LS Q h (F0 m pc ls [v]))
    (hrv : ∀ (pc : Nat) (ls : Array Slot) (h : AH), decode cc pc = .ok (.return_, 1) → rt = none → q none h → J p l e R s m args below meth c D vwc tys H0 LC LS Q h (F0 m pc ls []))
    {pc : Nat} {L st : List Value} {h : AH} (hT : Tf gc E bks q pc L st h) {ls : Array Slot} (hlv : lvl ls L) (hL : L.length = nL) : J p l e R s m args below meth c D vwc tys H0 LC LS Q h (F0 m pc ls st) := by
  refine hT (fun pc L st h => ∀ ls, lvl ls L → L.length = nL → J p l e R s m args below meth c D vwc tys H0 LC LS Q h (F0 m pc ls st)) ?_ ls hlv hL
  rintro pc L st h ⟨K, hK, hw⟩ ls hlv hL
  exact wpb_sound C hini hE hM hK hri hrl hra hrv _ pc (lkb_chk hB pc) L st h hw ls hlv hL
/-- WHAT THE PREDICATE SAYS OF A METHOD IS ITS CONTRACT -/
theorem WP_sound (l : Launch) {D : va_G} {tys : List (ClassId × FieldType)} {H0 : Heap} {LC LS : Nat} {gc : Nat → Nat} (hM : ∀ j, j < mI.length → chkM j = true) : ∀ (d j : Nat) (As : List Value) (h : AH) (q : PT), WP gc d j As h q → MetD l D tys H0 LC LS gc d j As h q := by
  intro d
  induction d with
  | zero => intro j As h q hw; exact False.elim hw
  | succ d ih =>
    intro j As h q hw
    by_cases hj : j < mI.length
    · have hk := hM j hj
      obtain ⟨m1, m2, m3, m4, m5, m6, m7, m8⟩ := mcode hk
      simp only [WP] at hw
      split at hw
      · rename_i a1 a2
        obtain ⟨q0, hsub, hw⟩ := hw
        have hc1 : ∀ v ∈ As, v.category = 1 := fun v hv => c1_cat (List.all_eq_true.mp a1 v hv)
        have hlen : As.length ≤ mL j := Nat.ble_eq.mp a2
        unfold MetD
        refine Met.ofW (cc := mB j) (maxL := mL j) (ret := mR j) m1 rfl ?_
        intro p e s m args below meth c s₁ B hml hv
        obtain ⟨rfl, hR, hKX⟩ := hv
        have hx := B.exec
        have hb := B.bytes
        have hr := B.returns
        have hts0 := atoms_spec (ws := wsj j) B.pre
        have hown : s.vm.findClass (mY j).cls = some m.cls := findClass_of_methodNamed B.named
        have hlocks := B.notSynchronized
        have hnm : meth.name = (mY j).name := (name_of_methodNamed B.named B.method).1
        have C : Cx p (rmD (d + 1) h) s m As.toArray c D tys H0 LC LS gc (mB j) (mL j) (mY j).cls h d := ⟨hx, hb, hml, hown, fun w hw => hts0 w (List.mem_cons_of_mem _ hw), hKX, hR, Nat.le_refl _, by show 31 * d + 31 ≤ 31 * (d + 1); omega, Nat.le_refl _, Nat.le_refl _⟩
        rw [lg_entry_eq]
        refine Tf_sound (l := l) (e := e) (below := below) (meth := meth) (ini := decide ((mY j).name = "<init>")) C (fun z => hnm.trans (of_decide_eq_true z)) ih hM m8 ?_ ?_ ?_ ?_ hw (lvl_entry hc1 hlen) (by rw [List.length_append, List.length_replicate]; omega) s.heap [] 0 0 hR (fun x hx => by cases hx)
        · intro pc ls h' x hd hrt hq H locs cells slots hR' hl
          refine J_tg hR hR' (fun z1 z2 => W.widen (k := h.2.1) (n := h.2.2.1) (by omega) (by omega) ?_)
          rcases hrt with hrt | ⟨hrt, hx01⟩
          · exact W.iret hx hb (by rw [hr]; exact hrt) (fun t ht hW => ⟨_, h', rfl, by rw [ht]; exact hR', hsub _ _ hq⟩) hl hd
          · exact W.zret (ty := .boolean) hx hb (by rw [hr]; exact hrt) (by rcases hx01 with z | z <;> subst z <;> decide) (fun t ht hW => ⟨_, h', rfl, by rw [ht]; exact hR', hsub _ _ hq⟩) hl hd
        · intro pc ls h' x hd hrt hq H locs cells slots hR' hl
          refine J_tg hR hR' (fun z1 z2 => W.widen (k := h.2.1) (n := h.2.2.1) (by omega) (by omega) ?_)
          exact W.lret hx hb (by rw [hr]; exact hrt) (fun t ht hW => ⟨_, h', rfl, by rw [ht]; exact hR', hsub _ _ hq⟩) hl hd
        · intro pc ls h' v hd hrt hv hq H locs cells slots hR' hl
          refine J_tg hR hR' (fun z1 z2 => W.widen (k := h.2.1) (n := h.2.2.1) (by omega) (by omega) ?_)
          obtain ⟨rt', hrt1, hrt2⟩ := hrt
          exact W.aret hx hb (by rw [hr]; exact hrt1) hrt2 hv (fun t ht hW => ⟨_, h', rfl, by rw [ht]; exact hR', hsub _ _ hq⟩) hl hd
        · intro pc ls h' hd hrt hq H locs cells slots hR' hl
          refine J_tg hR hR' (fun z1 z2 => W.widen (k := h.2.1) (n := h.2.2.1) (by omega) (by omega) ?_)
          exact W.vret hx hb (by rw [hr]; exact hrt) (fun t ht hW => ⟨_, h', rfl, by rw [ht]; exact hR', hsub _ _ hq⟩) hl hd
      · exact False.elim hw
    · exfalso
      have hb : mbk j = [] := by
        unfold mbk
        rw [List.getElem?_eq_none (by have : bkL.length = mI.length := by decide +kernel
                                      omega)]
        rfl
      simp only [WP] at hw
      split at hw
      · obtain ⟨q0, -, hw⟩ := hw
        rw [hb] at hw
        exact hw (fun _ _ _ _ => False) (fun pc L st h ⟨K, hK, hw⟩ => hK _ _ _ _ hw)
      · exact hw
