set_option maxHeartbeats 4000000 in
theorem whole_open2 (HP : LawPure2) {p : Program} {e : Env} {s : State} {m : MethodId} {below : List Frame} {meth : Method} {c : Code} (l : Launch) {b L : Nat} {xs : Nat → Int32} (hL : L ≤ 3072) (hM : ∀ j, j < mI.length → chkM j = true) (hB : chkB R_law code 4 ret false bk_law = true) (C0 : lw_At p s m meth c b L xs) : W p l e room_1 s m #[Value.ref b] below meth c s.heap [] 0 0 (lw_Z below #[Value.ref b] s) (entryFrame m ([Value.ref b] : List Value).toArray 4) := by
  obtain ⟨hx, hb, hr, hml, hown, hts, hX, hbl, hlocks, hgv⟩ := id C0
  -- the classes
  have hkn : ∀ k : Nat, ∃ (cC : ClassId) (iS : Nat → Nat), ∀ q : vw_C, vwc[k]? = some q → u_Kn s q.1 q.2.1 q.2.2 cC iS := by
    intro k
    cases hk : vwc[k]? with
    | none => exact ⟨0, fun _ => 0, fun q hq => by cases hq⟩
    | some q =>
      obtain ⟨h1, -, -, h4, -⟩ := cls_spec hk
      obtain ⟨cC, iS, h5⟩ := u_known (C := q.1) (T := q.2.1) (N := q.2.2) (n := q.2.2) (ws := GL) (fun w hw => hts w (List.mem_filter.mp hw).1) h1 (hts _ (List.mem_filter.mp h4).1)
      exact ⟨cC, iS, fun q' hq' => by cases hq'; exact h5⟩
  obtain ⟨a0, f0, g0⟩ := arrO (tb_at ao0 hts)
  obtain ⟨a1, f1, g1⟩ := arrO (tb_at ao1 hts)
  obtain ⟨a2, f2, g2⟩ := arrO (tb_at ao2 hts)
  obtain ⟨a3, f3, g3⟩ := arrO (tb_at ao3 hts)
  obtain ⟨a4, f4, g4⟩ := arrC (Or.inl rfl) (tb_at ac_int0 hts)
  obtain ⟨a5, f5, g5⟩ := arrC (Or.inr rfl) (tb_at ac_bool0 hts)
  have hfl := flat_of_before _ hgv
  -- the static array, the class object
  have hst1 : (Cond.arrayOf (.static "java/util/ArrayList" "DEFAULTCAPACITY_EMPTY_ELEMENTDATA" "[Ljava/lang/Object;") (.object "java/lang/Object")).before #[Value.ref b] s = true := hfl _ (by decide +kernel)
  have hst2 : (Cond.eq (.length (.static "java/util/ArrayList" "DEFAULTCAPACITY_EMPTY_ELEMENTDATA" "[Ljava/lang/Object;")) (.int 0)).before #[Value.ref b] s = true := hfl _ (by decide +kernel)
  have hmi : (Cond.isRef (.mirror "[Ljava/lang/Object;")).before #[Value.ref b] s = true := hfl _ (by decide +kernel)
  obtain ⟨mi, hMi⟩ := va_Mi.of hmi
  have hA : ∀ a : Nat, a < s.heap.size → ¬ (fun q : Nat => s.heap.size ≤ q) a := fun a h => Nat.not_le.mpr h
  obtain ⟨t1, ht1, cl0, k1, k2, k3, k4, k5, k6, k7⟩ := va_Tof (N := 0) (f := fun _ => .null) (A := fun q : Nat => s.heap.size ≤ q) (by decide) hst1 (va_eqt hst2) (fun j hj => absurd hj (Nat.not_lt_zero _)) hA
  have hini : (Cond.initialized "java/util/ArrayList").before #[Value.ref b] s = true := hts _ (List.mem_filter.mp (cls_spec (c := 9) rfl).2.2.2.2.1).1
  have hZ := va_Zref (tb_at ls0 hts) hini ht1 hA
  obtain ⟨scr, x1, x2, x3, x4, x5⟩ := hX
  have hne : t1 ≠ b := fun z => isArr_ne x2 k2 (by rw [z] at k1; exact Option.some.inj (x1.symm.trans k1))
  let gc : Nat → Nat := fun k => match k with
    | 0 => mi
    | 1 => t1
    | _ => b
  let D : va_G := (fun k => Classical.choose (hkn k), fun k => Classical.choose (Classical.choose_spec (hkn k)))
  let tys : List (ClassId × FieldType) := [(a0, .object "QueueBroker$Exchange"), (a1, .object "QueueBroker$Queue"), (a2, .object "QueueBroker$Channel"), (a3, .object "java/lang/Object"), (a4, .int), (a5, .boolean)]
  let vs : List Value := (List.range L).map (fun j => Value.int (xs j))
  let h : AH := (s.heap.size, 600000, 7302250, fun a => if a = b then (200, vs) else if a = t1 then (201, []) else (0, []))
  have hscr : scr.slots = vs.toArray := by
    apply Array.ext_getElem?
    intro j
    have e9 : vs.toArray[j]? = ((List.range L).map (fun j => Value.int (xs j)))[j]? := List.getElem?_toArray
    rw [e9, List.getElem?_map]
    by_cases hj : j < L
    · rw [x5 j hj, List.getElem?_range hj]
      rfl
    · rw [Array.getElem?_eq_none (by omega), List.getElem?_eq_none (by rw [List.length_range]; omega)]
      rfl
  have hK : va_K D vwc tys s := by
    refine ⟨fun k q hq => Classical.choose_spec (Classical.choose_spec (hkn k)) q hq, fun k q hq => ?_⟩
    match k, hq with
    | 0, hq => cases hq; exact ⟨f0, g0⟩
    | 1, hq => cases hq; exact ⟨f1, g1⟩
    | 2, hq => cases hq; exact ⟨f2, g2⟩
    | 3, hq => cases hq; exact ⟨f3, g3⟩
    | 4, hq => cases hq; exact ⟨f4, g4⟩
    | 5, hq => cases hq; exact ⟨f5, g5⟩
    | k + 6, hq => simp [tys] at hq
  have hKX : KX D tys gc s.heap s := by
    refine ⟨hK, rfl, fun w hw hn => ?_, fun C hC => va_AO.of (hts _ hC), hMi, hZ, ⟨scr, x1, x2, x3⟩, cl0, k1, k2, k5⟩
    have hon : w.onTables = true := by cases w <;> first | rfl | cases hn
    exact va_Nw.of hon (hts w hw)
  have hRl : Rl D vwc tys s.heap 600000 7302250 h s.heap := by
    refine ⟨rfl, Nat.le_refl _, rfl, ?_, fun _ _ => rfl, fun a ha => ?_⟩
    · show sl_sum s.heap.size s.heap + 7302250 = 7302250
      unfold sl_sum
      rw [List.drop_eq_nil_of_le (by simp)]
      rfl
    · by_cases e1 : a = b
      · have e2 : h.2.2.2 a = (200, vs) := by simp [h, e1]
        rw [e2]
        refine ⟨⟨by rw [e1]; exact hbl, fun _ => Or.inl (Nat.le_refl _)⟩, ?_⟩
        unfold ce_at
        rw [if_neg (show ¬ (200 : Nat) < 100 by decide), if_neg (show ¬ (200 : Nat) < 200 by decide)]
        exact ⟨scr, by rw [e1]; exact x1, fun _ => hscr⟩
      · by_cases e3 : a = t1
        · have e2 : h.2.2.2 a = (201, []) := by simp only [h]; rw [if_neg e1, if_pos e3]
          rw [e2]
          refine ⟨⟨by rw [e3]; exact (Array.getElem?_eq_some_iff.mp k1).1, fun _ => Or.inl (by decide)⟩, ?_⟩
          unfold ce_at
          rw [if_neg (show ¬ (201 : Nat) < 100 by decide), if_neg (show ¬ (201 : Nat) < 200 by decide)]
          exact ⟨cl0, by rw [e3]; exact k1, fun z => absurd z (by decide)⟩
        · exfalso
          apply ha
          have e2 : h.2.2.2 a = (0, []) := by simp only [h]; rw [if_neg e1, if_neg e3]
          rw [e2]
  have CC : Cx p room_1 s m #[Value.ref b] c D tys s.heap 600000 7302250 gc code 4 R_law h 13 := ⟨hx, hb, hml, hown, fun w hw => hts w (List.mem_filter.mp hw).1, hKX, hRl, by decide, by decide, Nat.le_refl 600000, Nat.le_refl 7302250⟩
  have hT := HP gc h ((List.range L).map xs) (by rw [List.length_map, List.length_range]; exact hL) hne (show (if b = b then (200, vs) else _) = (200, List.map Value.int ((List.range L).map xs)) by rw [if_pos rfl, List.map_map]; rfl) (show (if t1 = b then (200, vs) else if t1 = t1 then (201, []) else (0, [])) = (201, []) by rw [if_neg hne, if_pos rfl]) (fun a z1 z2 => by show (if a = b then (200, vs) else if a = t1 then (201, []) else (0, [])) = (0, []); rw [if_neg (show ¬ a = b from z2), if_neg (show ¬ a = t1 from z1)]) (Array.getElem?_eq_some_iff.mp k1).1 hbl rfl rfl
  rw [lg_entry_eq]
  refine Tf_sound (l := l) (e := e) (below := below) (meth := meth) (ini := false) (rt := ret) CC (fun z => by cases z) (WP_sound l hM 13) hM hB ?_ ?_ ?_ ?_ hT (lvl_entry (As := [.ref b]) (n := 4) (fun v hv => by rw [List.mem_singleton.mp hv]; rfl) (show 1 ≤ 4 by decide)) rfl s.heap [] 0 0 hRl (fun x hx => by cases hx)
  · intro pc ls h' x hd hrt hq H locs cells slots hR' hl
    have hx1 : x = 1 := Value.int.inj (Option.some.inj hq)
    subst hx1
    refine va_forget (fun q hq => hl q hq) ?_
    refine J_tg hRl hR' (fun z1 z2 => W.widen (k := 600000) (n := 7302250) (by show 600000 - _ ≤ 600000; omega) (by show 7302250 - _ ≤ 7302250; omega) ?_)
    exact lw_ret hx hb hr hlocks hd
  · intro pc ls h' x hd hrt hq H locs cells slots hR' hl
    cases hq
  · intro pc ls h' v hd hrt hv hq H locs cells slots hR' hl
    obtain ⟨rt', hrt1, hrt2⟩ := hrt
    cases hrt1
    rcases hrt2 with ⟨n, z⟩ | ⟨t, z⟩ <;> cases z
  · intro pc ls h' hd hrt hq H locs cells slots hR' hl
    cases hq
