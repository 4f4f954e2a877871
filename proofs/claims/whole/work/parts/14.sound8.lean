section SND8
variable {p : Program} {l : Launch} {e : Env} {R : Room} {s : State} {m : MethodId} {args : Array Value} {below : List Frame} {meth : Method} {c : Code}
variable {D : va_G} {tys : List (ClassId × FieldType)} {H0 : Heap} {LC LS : Nat} {gc : Nat → Nat} {cc : ByteArray} {nL : Nat} {own : String} {h0 : AH} {dd : Nat} {Q : State → Prop}
theorem rvk_elim {rk : Nat} {rv : Option Value} {s' : List Value} {nx : List Value → Prop} (h : rvk rk rv s' nx) : nx (rv.toList ++ s') := by
  unfold rvk at h
  split at h
  · obtain ⟨rfl, h⟩ := h; exact h
  · obtain ⟨x, rfl, h⟩ := h; exact h
  · obtain ⟨x, rfl, h⟩ := h; exact h
  · obtain ⟨x, rfl, h⟩ := h; exact h
  · rcases h with ⟨rfl, h⟩ | ⟨x, rfl, h⟩ <;> exact h
  · exact h.elim
theorem c1_cat {v : Value} (h : c1_ v = true) : v.category = 1 := by
  cases v <;> first | rfl | cases h
theorem J_ifI {h : AH} {cnd : ClassFile.Cond} {x y : Int32} {off : Int} {t pc : Nat} {rest : List Value} {ls : Array Slot} {A B : Prop} (hx : p.tables.exec = Jvm.exec) (hb : c.code = cc) (hw : ifI cnd x y A B) (hd : decode cc pc = .ok (.if_icmp cnd off, 3)) (ht : (pc : Int) + off = (t : Int)) (hA : A → J p l e R s m args below meth c D vwc tys H0 LC LS Q h (F0 m t ls rest)) (hB : B → J p l e R s m args below meth c D vwc tys H0 LC LS Q h (F0 m (pc + 3) ls rest)) : J p l e R s m args below meth c D vwc tys H0 LC LS Q h (F0 m pc ls (.int y :: .int x :: rest)) := by
  intro H locs cells slots a b
  cases cnd
  · exact lv_icmp_eq (tgt := t) hx hb hd ht (fun z => hA (hw.1 z) H locs cells slots a b) (fun z => hB (hw.2 z) H locs cells slots a b)
  · exact lv_icmp_ne (tgt := t) hx hb hd ht (fun z => hA (hw.1 z) H locs cells slots a b) (fun z => hB (hw.2 z) H locs cells slots a b)
  · exact lv_icmp_lt (tgt := t) hx hb hd ht (fun z => hA (hw.1 z) H locs cells slots a b) (fun z => hB (hw.2 z) H locs cells slots a b)
  · exact lv_icmp_ge (tgt := t) hx hb hd ht (fun z => hA (hw.1 z) H locs cells slots a b) (fun z => hB (hw.2 z) H locs cells slots a b)
  · exact lv_icmp_gt (tgt := t) hx hb hd ht (fun z => hA (hw.1 z) H locs cells slots a b) (fun z => hB (hw.2 z) H locs cells slots a b)
  · exact lv_icmp_le (tgt := t) hx hb hd ht (fun z => hA (hw.1 z) H locs cells slots a b) (fun z => hB (hw.2 z) H locs cells slots a b)
theorem J_if0 {h : AH} {cnd : ClassFile.Cond} {x : Int32} {off : Int} {t pc : Nat} {rest : List Value} {ls : Array Slot} {A B : Prop} (hx : p.tables.exec = Jvm.exec) (hb : c.code = cc) (hw : ifI cnd x 0 A B) (hd : decode cc pc = .ok (.ifCond cnd off, 3)) (ht : (pc : Int) + off = (t : Int)) (hA : A → J p l e R s m args below meth c D vwc tys H0 LC LS Q h (F0 m t ls rest)) (hB : B → J p l e R s m args below meth c D vwc tys H0 LC LS Q h (F0 m (pc + 3) ls rest)) : J p l e R s m args below meth c D vwc tys H0 LC LS Q h (F0 m pc ls (.int x :: rest)) := by
  intro H locs cells slots a b
  cases cnd
  · exact lv_if_eq (tgt := t) hx hb hd ht (fun z => hA (hw.1 z) H locs cells slots a b) (fun z => hB (hw.2 z) H locs cells slots a b)
  · exact lv_if_ne (tgt := t) hx hb hd ht (fun z => hA (hw.1 z) H locs cells slots a b) (fun z => hB (hw.2 z) H locs cells slots a b)
  · exact lv_if_lt (tgt := t) hx hb hd ht (fun z => hA (hw.1 z) H locs cells slots a b) (fun z => hB (hw.2 z) H locs cells slots a b)
  · exact lv_if_ge (tgt := t) hx hb hd ht (fun z => hA (hw.1 z) H locs cells slots a b) (fun z => hB (hw.2 z) H locs cells slots a b)
  · exact lv_if_gt (tgt := t) hx hb hd ht (fun z => hA (hw.1 z) H locs cells slots a b) (fun z => hB (hw.2 z) H locs cells slots a b)
  · exact lv_if_le (tgt := t) hx hb hd ht (fun z => hA (hw.1 z) H locs cells slots a b) (fun z => hB (hw.2 z) H locs cells slots a b)
theorem J_tab {h : AH} {x : Int32} {dflt lo hi : Int} {offs : Array Int} {d n pc : Nat} {ts : List Nat} {rest : List Value} {ls : Array Slot} {KK : Nat → Prop} (hx : p.tables.exec = Jvm.exec) (hb : c.code = cc) (hw : ((x.toInt < lo ∨ hi < x.toInt) → KK d) ∧ ∀ (j t : Nat), ts[j]? = some t → x.toInt = lo + j → KK t) (hd : decode cc pc = .ok (.tableswitch dflt lo hi offs, n)) (h1 : (pc : Int) + dflt = (d : Int)) (h2 : ts.map (fun (t : Nat) => ((t : Int) - (pc : Int))) = offs.toList) (h3 : lo + (ts.length : Int) = hi + 1) (hA : ∀ t, KK t → J p l e R s m args below meth c D vwc tys H0 LC LS Q h (F0 m t ls rest)) : J p l e R s m args below meth c D vwc tys H0 LC LS Q h (F0 m pc ls (.int x :: rest)) := by
  intro H locs cells slots a b
  by_cases ho : x.toInt < lo ∨ hi < x.toInt
  · exact lv_tableOut hx hb hd ho h1 (hA d (hw.1 ho) H locs cells slots a b)
  · have g1 : ¬ x.toInt < lo := fun z => ho (Or.inl z)
    have g2 : ¬ hi < x.toInt := fun z => ho (Or.inr z)
    have hj : (x.toInt - lo).toNat < ts.length := by omega
    have ho2 : offs[(x.toInt - lo).toNat]? = some ((ts[(x.toInt - lo).toNat] : Int) - (pc : Int)) := by
      rw [← Array.getElem?_toList, ← h2, List.getElem?_map, List.getElem?_eq_getElem hj]
      rfl
    exact lv_tableIn (tgt := ts[(x.toInt - lo).toNat]) hx hb hd g1 g2 ho2 (by omega) (hA _ (hw.2 _ _ (List.getElem?_eq_getElem hj) (by omega)) H locs cells slots a b)
set_option maxHeartbeats 8000000 in
theorem wpb_sound {E : Nat → List Value → AH → PT → Prop} {K : KT} {q : PT} {rt : Option FieldType} {ini : Bool} (C : Cx p R s m args c D tys H0 LC LS gc cc nL own h0 dd) (hini : ini = true → meth.name = "<init>")
    (hE : ∀ (j : Nat) (As : List Value) (h : AH) (Q' : PT), E j As h Q' → MetD l D tys H0 LC LS gc dd j As h Q') (hM : ∀ j, j < mI.length → chkM j = true)
    (hK : ∀ (pc : Nat) (L st : List Value) (h : AH), K pc L st h → ∀ ls, lvl ls L → L.length = nL → J p l e R s m args below meth c D vwc tys H0 LC LS Q h (F0 m pc ls st))
    (hri : ∀ (pc : Nat) (ls : Array Slot) (h : AH) (x : Int32), decode cc pc = .ok (.ireturn, 1) → (rt = some .int ∨ (rt = some .boolean ∧ (x = 0 ∨ x = 1))) → q (some (.int x)) h → J p l e R s m args below meth c D vwc tys H0 LC LS Q h (F0 m pc ls [.int x]))
    (hrl : ∀ (pc : Nat) (ls : Array Slot) (h : AH) (x : Int64), decode cc pc = .ok (.lreturn, 1) → rt = some .long → q (some (.long x)) h → J p l e R s m args below meth c D vwc tys H0 LC LS Q h (F0 m pc ls [.long x]))
    (hra : ∀ (pc : Nat) (ls : Array Slot) (h : AH) (v : Value), decode cc pc = .ok (.areturn, 1) → (∃ rt', rt = some rt' ∧ ((∃ n, rt' = .object n) ∨ ∃ t, rt' = .array t)) → (v = .null ∨ ∃ a, v = .ref a) → q (some v) h → J p l e R s m args below meth c D vwc tys H0 LC LS Q h (F0 m pc ls [v]))
    (hrv : ∀ (pc : Nat) (ls : Array Slot) (h : AH), decode cc pc = .ok (.return_, 1) → rt = none → q none h → J p l e R s m args below meth c D vwc tys H0 LC LS Q h (F0 m pc ls [])) :
    ∀ (b : List Ins) (pc : Nat), chk own cc nL rt ini b pc = true → ∀ (L st : List Value) (h : AH), wpb gc E K q b pc L st h → ∀ ls, lvl ls L → L.length = nL → J p l e R s m args below meth c D vwc tys H0 LC LS Q h (F0 m pc ls st) := by
  intro b
  induction b with
  | nil => intro pc _ L st h hw ls hlv hL; exact hK pc L st h hw ls hlv hL
  | cons x r ih =>
    obtain ⟨i, n, an⟩ := x
    intro pc hc L st h hw ls hlv hL
    simp only [chk, Bool.and_eq_true, decide_eq_true_eq] at hc
    obtain ⟨hd, h1, hr⟩ := hc
    have hsz : ls.size = nL := hlv.1.1.trans hL
    obtain ⟨hx, hb, hml, hown, hts, hKX, r0, hF, hLo, hRc, hRs⟩ := id C
    cases i with
    | aconst_null =>
      obtain rfl : n = 1 := eq_of_beq h1
      exact fun H locs cells slots a b => lv_null hx hb hd (ih _ hr _ _ _ hw ls hlv hL H locs cells slots a b)
    | iconst v =>
      obtain rfl : n = 1 := eq_of_beq h1
      exact fun H locs cells slots a b => lv_iconst hx hb hd rfl (ih _ hr _ _ _ hw ls hlv hL H locs cells slots a b)
    | bipush v =>
      obtain rfl : n = 2 := eq_of_beq h1
      exact fun H locs cells slots a b => lv_bipush hx hb hd rfl (ih _ hr _ _ _ hw ls hlv hL H locs cells slots a b)
    | sipush v =>
      obtain rfl : n = 3 := eq_of_beq h1
      exact fun H locs cells slots a b => lv_sipush hx hb hd rfl (ih _ hr _ _ _ hw ls hlv hL H locs cells slots a b)
    | lconst v =>
      obtain rfl : n = 1 := eq_of_beq h1
      exact fun H locs cells slots a b => lv_lconst hx hb hd rfl (ih _ hr _ _ _ hw ls hlv hL H locs cells slots a b)
    | iadd =>
      obtain rfl : n = 1 := eq_of_beq h1
      simp only [wpb] at hw
      split at hw
      · exact fun H locs cells slots a b => lv_iadd hx hb hd (ih _ hr _ _ _ hw ls hlv hL H locs cells slots a b)
      · exact hw.elim
    | isub =>
      obtain rfl : n = 1 := eq_of_beq h1
      simp only [wpb] at hw
      split at hw
      · exact fun H locs cells slots a b => lv_isub hx hb hd (ih _ hr _ _ _ hw ls hlv hL H locs cells slots a b)
      · exact hw.elim
    | imul =>
      obtain rfl : n = 1 := eq_of_beq h1
      simp only [wpb] at hw
      split at hw
      · exact fun H locs cells slots a b => lv_imul hx hb hd (ih _ hr _ _ _ hw ls hlv hL H locs cells slots a b)
      · exact hw.elim
    | iand =>
      obtain rfl : n = 1 := eq_of_beq h1
      simp only [wpb] at hw
      split at hw
      · exact fun H locs cells slots a b => lv_iand hx hb hd (ih _ hr _ _ _ hw ls hlv hL H locs cells slots a b)
      · exact hw.elim
    | ior =>
      obtain rfl : n = 1 := eq_of_beq h1
      simp only [wpb] at hw
      split at hw
      · exact fun H locs cells slots a b => lv_ior hx hb hd (ih _ hr _ _ _ hw ls hlv hL H locs cells slots a b)
      · exact hw.elim
    | ishl =>
      obtain rfl : n = 1 := eq_of_beq h1
      simp only [wpb] at hw
      split at hw
      · exact fun H locs cells slots a b => lv_ishl hx hb hd (ih _ hr _ _ _ hw ls hlv hL H locs cells slots a b)
      · exact hw.elim
    | ishr =>
      obtain rfl : n = 1 := eq_of_beq h1
      simp only [wpb] at hw
      split at hw
      · exact fun H locs cells slots a b => lv_ishr hx hb hd (ih _ hr _ _ _ hw ls hlv hL H locs cells slots a b)
      · exact hw.elim
    | iushr =>
      obtain rfl : n = 1 := eq_of_beq h1
      simp only [wpb] at hw
      split at hw
      · exact fun H locs cells slots a b => lv_iushr hx hb hd rfl (ih _ hr _ _ _ hw ls hlv hL H locs cells slots a b)
      · exact hw.elim
    | irem =>
      obtain rfl : n = 1 := eq_of_beq h1
      simp only [wpb] at hw
      split at hw
      · exact fun H locs cells slots a b => lv_irem hx hb hd hw.1 (ih _ hr _ _ _ hw.2 ls hlv hL H locs cells slots a b)
      · exact hw.elim
    | ineg =>
      obtain rfl : n = 1 := eq_of_beq h1
      simp only [wpb] at hw
      split at hw
      · exact fun H locs cells slots a b => lv_ineg hx hb hd (ih _ hr _ _ _ hw ls hlv hL H locs cells slots a b)
      · exact hw.elim
    | i2l =>
      obtain rfl : n = 1 := eq_of_beq h1
      simp only [wpb] at hw
      split at hw
      · exact fun H locs cells slots a b => lv_i2l hx hb hd rfl (ih _ hr _ _ _ hw ls hlv hL H locs cells slots a b)
      · exact hw.elim
    | lcmp =>
      obtain rfl : n = 1 := eq_of_beq h1
      simp only [wpb] at hw
      split at hw
      · exact fun H locs cells slots a b => W.lcmp hx hb hd (ih _ hr _ _ _ hw ls hlv hL H locs cells slots a b)
      · exact hw.elim
    | pop =>
      obtain rfl : n = 1 := eq_of_beq h1
      simp only [wpb] at hw
      split at hw
      · split at hw
        · rename_i hc1
          exact fun H locs cells slots a b => lv_pop hx hb hd (c1_cat hc1) (ih _ hr _ _ _ hw ls hlv hL H locs cells slots a b)
        · exact hw.elim
      · exact hw.elim
    | dup =>
      obtain rfl : n = 1 := eq_of_beq h1
      simp only [wpb] at hw
      split at hw
      · split at hw
        · rename_i hc1
          exact fun H locs cells slots a b => lv_dup hx hb hd (c1_cat hc1) (ih _ hr _ _ _ hw ls hlv hL H locs cells slots a b)
        · exact hw.elim
      · exact hw.elim
    | dup_x1 =>
      obtain rfl : n = 1 := eq_of_beq h1
      simp only [wpb] at hw
      split at hw
      · split at hw
        · rename_i hc1 hc2
          exact fun H locs cells slots a b => lv_dup_x1 hx hb hd (c1_cat hc1) (c1_cat hc2) (ih _ hr _ _ _ hw ls hlv hL H locs cells slots a b)
        · exact hw.elim
      · exact hw.elim
    | dup2 =>
      obtain rfl : n = 1 := eq_of_beq h1
      simp only [wpb] at hw
      split at hw
      · split at hw
        · rename_i hc1 hc2
          exact fun H locs cells slots a b => lv_dup2_11 hx hb hd (c1_cat hc1) (c1_cat hc2) (ih _ hr _ _ _ hw ls hlv hL H locs cells slots a b)
        · exact hw.elim
      · exact hw.elim
    | ldc idx =>
      have h1 := Bool.and_eq_true_iff.mp h1
      obtain rfl : n = 2 := eq_of_beq h1.1
      simp only [wpb] at hw
      split at hw
      · exact fun H locs cells slots a b => lv_ldc hx hb hown (hts _ (gl_in h1.2 rfl)) hd (ih _ hr _ _ _ hw ls hlv hL H locs cells slots a b)
      · exact J_ldcM C h1.2 hd (ih _ hr _ _ _ hw ls hlv hL)
      · exact hw.elim
    | ldc_w idx =>
      have h1 := Bool.and_eq_true_iff.mp h1
      obtain rfl : n = 3 := eq_of_beq h1.1
      simp only [wpb] at hw
      split at hw
      · exact fun H locs cells slots a b => lv_ldcw hx hb hown (hts _ (gl_in h1.2 rfl)) hd (ih _ hr _ _ _ hw ls hlv hL H locs cells slots a b)
      · exact hw.elim
    | ldc2_w idx =>
      have h1 := Bool.and_eq_true_iff.mp h1
      obtain rfl : n = 3 := eq_of_beq h1.1
      simp only [wpb] at hw
      split at hw
      · exact fun H locs cells slots a b => lv_ldc2 hx hb hown (hts _ (gl_in h1.2 rfl)) hd (ih _ hr _ _ _ hw ls hlv hL H locs cells slots a b)
      · exact hw.elim
    | iload x =>
      obtain rfl : n = 2 := eq_of_beq h1
      simp only [wpb] at hw
      split at hw
      · rename_i v hv
        exact fun H locs cells slots a b => lv_iload hx hb hd (lvl_at hlv hv (fun _ z => by cases z)) (ih _ hr _ _ _ hw ls hlv hL H locs cells slots a b)
      · exact hw.elim
    | iload_n x =>
      obtain rfl : n = 1 := eq_of_beq h1
      simp only [wpb] at hw
      split at hw
      · rename_i v hv
        exact fun H locs cells slots a b => lv_iload_n hx hb hd rfl (lvl_at hlv hv (fun _ z => by cases z)) (ih _ hr _ _ _ hw ls hlv hL H locs cells slots a b)
      · exact hw.elim
    | aload x =>
      obtain rfl : n = 2 := eq_of_beq h1
      simp only [wpb] at hw
      split at hw
      · rename_i v hv
        exact fun H locs cells slots a b => lv_aload hx hb hd (lvl_at hlv hv (fun _ z => by cases z)) (ih _ hr _ _ _ hw ls hlv hL H locs cells slots a b)
      · rename_i hv
        exact fun H locs cells slots a b => lv_aloadN hx hb hd (lvl_at hlv hv (fun _ z => by cases z)) (ih _ hr _ _ _ hw ls hlv hL H locs cells slots a b)
      · exact hw.elim
    | aload_n x =>
      obtain rfl : n = 1 := eq_of_beq h1
      simp only [wpb] at hw
      split at hw
      · rename_i v hv
        exact fun H locs cells slots a b => lv_aload_n hx hb hd rfl (lvl_at hlv hv (fun _ z => by cases z)) (ih _ hr _ _ _ hw ls hlv hL H locs cells slots a b)
      · rename_i hv
        exact fun H locs cells slots a b => lv_aload_nN hx hb hd rfl (lvl_at hlv hv (fun _ z => by cases z)) (ih _ hr _ _ _ hw ls hlv hL H locs cells slots a b)
      · exact hw.elim
    | istore x =>
      have h1 := Bool.and_eq_true_iff.mp h1
      obtain rfl : n = 2 := eq_of_beq h1.1
      have hxl : x < L.length := by rw [hL]; exact Nat.blt_eq.mp h1.2
      simp only [wpb] at hw
      split at hw
      · exact fun H locs cells slots a b => lv_istore hx hb hd hlv.1 hxl rfl (fun ls2 hl2 => ih _ hr _ _ _ hw ls2 (lvl_set hl2 hlv.2 rfl hxl) (by rw [List.length_set]; exact hL) H locs cells slots a b)
      · exact hw.elim
    | istore_n x =>
      have h1 := Bool.and_eq_true_iff.mp h1
      obtain rfl : n = 1 := eq_of_beq h1.1
      have hxl : x.val < L.length := by rw [hL]; exact Nat.blt_eq.mp h1.2
      simp only [wpb] at hw
      split at hw
      · exact fun H locs cells slots a b => lv_istore_n hx hb hd rfl hlv.1 hxl rfl (fun ls2 hl2 => ih _ hr _ _ _ hw ls2 (lvl_set hl2 hlv.2 rfl hxl) (by rw [List.length_set]; exact hL) H locs cells slots a b)
      · exact hw.elim
    | astore x =>
      have h1 := Bool.and_eq_true_iff.mp h1
      obtain rfl : n = 2 := eq_of_beq h1.1
      have hxl : x < L.length := by rw [hL]; exact Nat.blt_eq.mp h1.2
      simp only [wpb] at hw
      split at hw
      · exact fun H locs cells slots a b => lv_astore hx hb hd hlv.1 hxl rfl (fun ls2 hl2 => ih _ hr _ _ _ hw ls2 (lvl_set hl2 hlv.2 rfl hxl) (by rw [List.length_set]; exact hL) H locs cells slots a b)
      · exact fun H locs cells slots a b => lv_astoreN hx hb hd hlv.1 hxl rfl (fun ls2 hl2 => ih _ hr _ _ _ hw ls2 (lvl_set hl2 hlv.2 rfl hxl) (by rw [List.length_set]; exact hL) H locs cells slots a b)
      · exact hw.elim
    | astore_n x =>
      have h1 := Bool.and_eq_true_iff.mp h1
      obtain rfl : n = 1 := eq_of_beq h1.1
      have hxl : x.val < L.length := by rw [hL]; exact Nat.blt_eq.mp h1.2
      simp only [wpb] at hw
      split at hw
      · exact fun H locs cells slots a b => lv_astore_n hx hb hd rfl hlv.1 hxl rfl (fun ls2 hl2 => ih _ hr _ _ _ hw ls2 (lvl_set hl2 hlv.2 rfl hxl) (by rw [List.length_set]; exact hL) H locs cells slots a b)
      · exact fun H locs cells slots a b => lv_astore_nN hx hb hd rfl hlv.1 hxl rfl (fun ls2 hl2 => ih _ hr _ _ _ hw ls2 (lvl_set hl2 hlv.2 rfl hxl) (by rw [List.length_set]; exact hL) H locs cells slots a b)
      · exact hw.elim
    | iinc x k =>
      have h1 := Bool.and_eq_true_iff.mp h1
      obtain rfl : n = 3 := eq_of_beq h1.1
      have hxl : x < L.length := by rw [hL]; exact Nat.blt_eq.mp h1.2
      simp only [wpb] at hw
      split at hw
      · rename_i v hv
        obtain ⟨k9, hk9⟩ := List.getElem?_of_mem (mem_prs.mpr ⟨hv, fun _ z => by cases z⟩)
        exact fun H locs cells slots a b => lv_iinc hx hb hd hlv.1 hk9 rfl hxl rfl (fun ls2 hl2 => ih _ hr _ _ _ hw ls2 (lvl_set hl2 hlv.2 rfl hxl) (by rw [List.length_set]; exact hL) H locs cells slots a b)
      · exact hw.elim
    | ifCond cnd off =>
      have h1 := Bool.and_eq_true_iff.mp h1
      obtain rfl : n = 3 := eq_of_beq h1.1
      simp only [wpb] at hw
      split at hw
      · exact J_if0 hx hb hw hd (of_decide_eq_true h1.2) (fun z => hK _ _ _ _ z ls hlv hL) (fun z => ih _ hr _ _ _ z ls hlv hL)
      · exact hw.elim
    | if_icmp cnd off =>
      have h1 := Bool.and_eq_true_iff.mp h1
      obtain rfl : n = 3 := eq_of_beq h1.1
      simp only [wpb] at hw
      split at hw
      · exact J_ifI hx hb hw hd (of_decide_eq_true h1.2) (fun z => hK _ _ _ _ z ls hlv hL) (fun z => ih _ hr _ _ _ z ls hlv hL)
      · exact hw.elim
    | if_acmp cnd off =>
      obtain rfl : n = 3 := eq_of_beq (Bool.and_eq_true_iff.mp h1).1
      simp only [wpb] at hw
      split at hw
      · exact fun H locs cells slots a b => lv_acmp_eq (rx := some _) (ry := some _) hx hb hd (of_decide_eq_true h1) (fun z => hK _ _ _ _ (hw.1 (Option.some.inj z)) ls hlv hL H locs cells slots a b) (fun z => ih _ hr _ _ _ (hw.2 (fun z2 => z (congrArg some z2))) ls hlv hL H locs cells slots a b)
      · exact fun H locs cells slots a b => lv_acmp_ne (rx := some _) (ry := some _) hx hb hd (of_decide_eq_true h1) (fun z => hK _ _ _ _ (hw.1 (fun z2 => z (congrArg some z2))) ls hlv hL H locs cells slots a b) (fun z => ih _ hr _ _ _ (hw.2 (Option.some.inj z)) ls hlv hL H locs cells slots a b)
      · exact hw.elim
    | ifnonnull off =>
      have h1 := Bool.and_eq_true_iff.mp h1
      obtain rfl : n = 3 := eq_of_beq h1.1
      simp only [wpb] at hw
      split at hw
      · exact fun H locs cells slots a b => lv_ifnonnull hx hb hd (of_decide_eq_true h1.2) (hK _ _ _ _ hw ls hlv hL H locs cells slots a b)
      · exact fun H locs cells slots a b => lv_ifnonnullN hx hb hd (ih _ hr _ _ _ hw ls hlv hL H locs cells slots a b)
      · exact hw.elim
    | goto off =>
      have h1 := Bool.and_eq_true_iff.mp h1
      obtain rfl : n = 3 := eq_of_beq h1.1
      simp only [wpb] at hw
      split at hw
      · exact fun H locs cells slots a b => lv_goto hx hb hd (of_decide_eq_true h1.2) (hK _ _ _ _ hw ls hlv hL H locs cells slots a b)
      · exact hw.elim
    | tableswitch dflt lo hi offs =>
      simp only [wpb] at hw
      split at hw
      · simp only [chk1, Bool.and_eq_true, decide_eq_true_eq] at h1
        exact J_tab (KK := fun t => K t L _ h) hx hb hw hd h1.1.1 h1.1.2 h1.2 (fun t z => hK _ _ _ _ z ls hlv hL)
      · exact hw.elim
    | getfield idx =>
      have h1 := Bool.and_eq_true_iff.mp h1
      obtain rfl : n = 3 := eq_of_beq h1.1
      simp only [wpb] at hw
      split at hw
      · obtain ⟨vs, v, g1, g2, g3⟩ := gfk_elim hw
        exact J_get C g1 g2 h1.2 hd (ih _ hr _ _ _ g3 ls hlv hL)
      · exact hw.elim
    | putfield idx =>
      have h1 := Bool.and_eq_true_iff.mp h1
      obtain rfl : n = 3 := eq_of_beq h1.1
      simp only [wpb] at hw
      split at hw
      · obtain ⟨vs, g1, g2, g3, g4⟩ := hw
        have h2 := Bool.and_eq_true_iff.mp h1.2
        exact J_put C hini g1 g2 g3 h2.1 h2.2 hd (ih _ hr _ _ _ (g4 _ rfl) ls hlv hL)
      · exact hw.elim
    | getstatic idx =>
      have h1 := Bool.and_eq_true_iff.mp h1
      obtain rfl : n = 3 := eq_of_beq h1.1
      simp only [wpb] at hw
      split at hw
      · exact J_gets C h1.2 hd (ih _ hr _ _ _ hw ls hlv hL)
      · exact hw.elim
    | new idx =>
      have h1 := Bool.and_eq_true_iff.mp h1
      obtain rfl : n = 3 := eq_of_beq h1.1
      simp only [wpb] at hw
      split at hw
      · exact J_new C h1.2 hw.1 hw.2.1 hd (ih _ hr _ _ _ (hw.2.2 _ _ rfl rfl) ls hlv hL)
      · exact hw.elim
    | newarray aty =>
      have h1 := Bool.and_eq_true_iff.mp h1
      obtain rfl : n = 2 := eq_of_beq h1.1
      simp only [wpb] at hw
      split at hw
      · have h2 := h1.2
        simp only [Bool.or_eq_true, Bool.and_eq_true, decide_eq_true_eq, beq_iff_eq] at h2
        exact J_newa C h2 hw.1 hw.2.1 hw.2.2.1 hw.2.2.2.1 hd (ih _ hr _ _ _ (hw.2.2.2.2 _ _ rfl rfl) ls hlv hL)
      · exact hw.elim
    | anewarray idx =>
      have h1 := Bool.and_eq_true_iff.mp h1
      obtain rfl : n = 3 := eq_of_beq h1.1
      simp only [wpb] at hw
      split at hw
      · have h2 := h1.2
        simp only [Bool.and_eq_true, Nat.ble_eq, Nat.blt_eq] at h2
        obtain ⟨⟨t1, t2⟩, h3⟩ := h2
        split at h3
        · rename_i A hA
          exact J_anew C t1 t2 hA h3 hw.1 hw.2.1 hw.2.2.1 hw.2.2.2.1 hd (ih _ hr _ _ _ (hw.2.2.2.2 _ _ rfl rfl) ls hlv hL)
        · cases h3
      · exact hw.elim
    | arraylength =>
      obtain rfl : n = 1 := eq_of_beq h1
      simp only [wpb] at hw
      split at hw
      · obtain ⟨t, vs, g1, g2, g3⟩ := hw
        exact J_alen C g1 g2 hd (ih _ hr _ _ _ g3 ls hlv hL)
      · exact hw.elim
    | iaload =>
      obtain rfl : n = 1 := eq_of_beq h1
      simp only [wpb] at hw
      split at hw
      · obtain ⟨t, vs, x, g1, g2, g3, g4, g5⟩ := hw
        exact J_iald C g1 g2 g3 g4 hd (ih _ hr _ _ _ g5 ls hlv hL)
      · exact hw.elim
    | baload =>
      obtain rfl : n = 1 := eq_of_beq h1
      simp only [wpb] at hw
      split at hw
      · obtain ⟨vs, x, g1, g3, g4, g5⟩ := hw
        exact J_zald C g1 g3 g4 hd (ih _ hr _ _ _ g5 ls hlv hL)
      · exact hw.elim
    | aaload =>
      obtain rfl : n = 1 := eq_of_beq h1
      simp only [wpb] at hw
      split at hw
      · obtain ⟨t, vs, x, g1, g2, g3, g4, g5⟩ := hw
        exact J_aald C g1 g2 g3 g4 hd (ih _ hr _ _ _ g5 ls hlv hL)
      · exact hw.elim
    | iastore =>
      obtain rfl : n = 1 := eq_of_beq h1
      simp only [wpb] at hw
      split at hw
      · obtain ⟨vs, g1, g2, g3, g4⟩ := hw
        exact J_iast C g1 g2 g3 hd (ih _ hr _ _ _ (g4 _ rfl) ls hlv hL)
      · exact hw.elim
    | bastore =>
      obtain rfl : n = 1 := eq_of_beq h1
      simp only [wpb] at hw
      split at hw
      · obtain ⟨vs, g1, g2, g3, g4, g5⟩ := hw
        exact J_zast C g1 g2 g3 g4 hd (ih _ hr _ _ _ (g5 _ rfl) ls hlv hL)
      · exact hw.elim
    | aastore =>
      obtain rfl : n = 1 := eq_of_beq h1
      simp only [wpb] at hw
      split at hw
      · obtain ⟨t, tb, vs, ws, g1, g2, g3, g4, g5, g6⟩ := hw
        exact J_aast C g1 g2 g3 g4 g5 hd (ih _ hr _ _ _ (g6 _ rfl) ls hlv hL)
      · obtain ⟨t, vs, g1, g2, g3, g4, g5⟩ := hw
        exact J_aastN C g1 g2 g3 g4 hd (ih _ hr _ _ _ (g5 _ rfl) ls hlv hL)
      · exact hw.elim
    | checkcast idx =>
      have h1 := Bool.and_eq_true_iff.mp h1
      obtain rfl : n = 3 := eq_of_beq h1.1
      simp only [wpb] at hw
      split at hw
      · obtain ⟨vs, g1, g2⟩ := hw
        have h2 := Bool.and_eq_true_iff.mp h1.2
        exact J_cast C g1 h2.1 h2.2 hd (ih _ hr _ _ _ g2 ls hlv hL)
      · exact hw.elim
    | invokevirtual idx =>
      have h1 := Bool.and_eq_true_iff.mp h1
      obtain rfl : n = 3 := eq_of_beq h1.1
      simp only [wpb] at hw
      split at hw
      · split at hw
        · rename_i hb1 hb2 hst
          obtain ⟨⟨vs, g1⟩, Q', g2, g3⟩ := hw
          have h2 := h1.2
          simp only [Bool.and_eq_true, Nat.ble_eq, Nat.blt_eq, beq_iff_eq] at h2
          obtain ⟨⟨⟨⟨⟨⟨⟨c1, c2⟩, c3⟩, c4⟩, c5⟩, c6⟩, c7⟩, c8⟩ := h2
          exact J_callV C (hM _ c1) c2 c3 c6 c7 c4 c5 c8 hsz (Nat.ble_eq.mp hb2) hst g1 (hE _ _ _ _ g2) hd (fun rv h' hq => ih _ hr _ _ _ (rvk_elim (g3 rv h' hq)) ls hlv hL)
        · exact hw.elim
      · split at hw
        · split at hw
          · rename_i hb4
            obtain ⟨⟨vs, g1⟩, g2⟩ := hw
            exact J_getC C h1.2 g1 hsz (Nat.ble_eq.mp hb4) hd (ih _ hr _ _ _ g2 ls hlv hL)
          · exact hw.elim
        · exact hw.elim
      · exact hw.elim
    | invokespecial idx =>
      have h1 := Bool.and_eq_true_iff.mp h1
      obtain rfl : n = 3 := eq_of_beq h1.1
      simp only [wpb] at hw
      split at hw
      · split at hw
        · rename_i hb1 hb2 hst
          obtain ⟨Q', g2, g3⟩ := hw
          have h2 := h1.2
          simp only [Bool.and_eq_true, Bool.or_eq_true, Nat.blt_eq, beq_iff_eq, decide_eq_true_eq] at h2
          obtain ⟨⟨⟨⟨⟨c1, c2⟩, c3⟩, c4⟩, c5⟩, c6⟩ := h2
          exact J_callI C (hM _ c1) c2 c3 c4 c5 c6 hsz (Nat.ble_eq.mp hb2) hst (hE _ _ _ _ g2) hd (fun rv h' hq => ih _ hr _ _ _ (rvk_elim (g3 rv h' hq)) ls hlv hL)
        · exact hw.elim
      · split at hw
        · split at hw
          · rename_i hb4
            exact J_objInit C h1.2 hsz (Nat.ble_eq.mp hb4) hd (ih _ hr _ _ _ hw ls hlv hL)
          · exact hw.elim
        · exact hw.elim
      · exact hw.elim
    | invokestatic idx =>
      have h1 := Bool.and_eq_true_iff.mp h1
      obtain rfl : n = 3 := eq_of_beq h1.1
      simp only [wpb] at hw
      split at hw
      · split at hw
        · rename_i hb1 hb2
          obtain ⟨Q', g2, g3⟩ := hw
          have h2 := h1.2
          simp only [Bool.and_eq_true, Nat.blt_eq, beq_iff_eq] at h2
          obtain ⟨⟨⟨c1, c2⟩, c3⟩, c4⟩ := h2
          exact J_callS C (hM _ c1) c2 c3 c4 hsz (Nat.ble_eq.mp hb1) (Nat.ble_eq.mp hb2) (hE _ _ _ _ g2) hd (fun rv h' hq => ih _ hr _ _ _ (rvk_elim (g3 rv h' hq)) ls hlv hL)
        · exact hw.elim
      · split at hw
        · split at hw
          · rename_i hb4
            exact J_max C h1.2 hsz (Nat.ble_eq.mp hb4) hd (ih _ hr _ _ _ hw ls hlv hL)
          · exact hw.elim
        · exact hw.elim
      · split at hw
        · split at hw
          · rename_i hb4
            exact J_min C h1.2 hsz (Nat.ble_eq.mp hb4) hd (ih _ hr _ _ _ hw ls hlv hL)
          · exact hw.elim
        · exact hw.elim
      · split at hw
        · split at hw
          · rename_i hb4
            obtain ⟨v0, v1, g1, g2, g3, g4, g5, g6, g7, g8, g9, g10⟩ := hw
            exact J_copy C h1.2 hsz (Nat.ble_eq.mp hb4) g1 g2 g3 g4 g5 g6 g7 g8 g9 hd (ih _ hr _ _ _ (g10 _ rfl) ls hlv hL)
          · exact hw.elim
        · exact hw.elim
      · exact hw.elim
    | ireturn =>
      have h1 := Bool.and_eq_true_iff.mp h1
      obtain rfl : n = 1 := eq_of_beq h1.1
      simp only [wpb] at hw
      split at hw
      · exact hri pc ls h _ hd (Or.inl (of_decide_eq_true h1.2)) hw
      · exact hri pc ls h _ hd (Or.inr ⟨of_decide_eq_true h1.2, hw.1⟩) hw.2
      · exact hw.elim
    | lreturn =>
      have h1 := Bool.and_eq_true_iff.mp h1
      obtain rfl : n = 1 := eq_of_beq h1.1
      simp only [wpb] at hw
      split at hw
      · exact hrl pc ls h _ hd (of_decide_eq_true h1.2) hw
      · exact hw.elim
    | areturn =>
      have h1 := Bool.and_eq_true_iff.mp h1
      obtain rfl : n = 1 := eq_of_beq h1.1
      have hrt : ∃ rt', rt = some rt' ∧ ((∃ n, rt' = .object n) ∨ ∃ t, rt' = .array t) := by
        have h2 := h1.2
        split at h2
        · exact ⟨_, rfl, Or.inl ⟨_, rfl⟩⟩
        · exact ⟨_, rfl, Or.inr ⟨_, rfl⟩⟩
        · cases h2
      simp only [wpb] at hw
      split at hw
      · exact hra pc ls h _ hd hrt (Or.inr ⟨_, rfl⟩) hw
      · exact hra pc ls h _ hd hrt (Or.inl rfl) hw
      · exact hw.elim
    | return_ =>
      have h1 := Bool.and_eq_true_iff.mp h1
      obtain rfl : n = 1 := eq_of_beq h1.1
      simp only [wpb] at hw
      split at hw
      · exact hrv pc ls h hd (of_decide_eq_true h1.2) hw
      · exact hw.elim
    | _ => exact False.elim hw
end SND8
