section SND4
variable {p : Program} {l : Launch} {e : Env} {R : Room} {s : State} {m : MethodId} {args : Array Value} {below : List Frame} {meth : Method} {c : Code}
variable {D : va_G} {tys : List (ClassId × FieldType)} {H0 : Heap} {LC LS : Nat} {gc : Nat → Nat} {cc : ByteArray} {nL : Nat} {own : String} {h0 : AH} {dd : Nat} {Q : State → Prop}
theorem J_aastN {h : AH} {a t pc : Nat} {i : Int32} {vs rest : List Value} {ls : Array Slot} (C : Cx p R s m args c D tys H0 LC LS gc cc nL own h0 dd) (hat : at_ h a t vs) (ht : isRA t = true) (hi : ¬ i < 0) (hlt : i.toNatClampNeg < vs.length) (hd : decode cc pc = .ok (.aastore, 1))
    (kk : J p l e R s m args below meth c D vwc tys H0 LC LS Q (ah_set h a (t, vs.set i.toNatClampNeg .null)) (F0 m (pc + 1) ls rest)) : J p l e R s m args below meth c D vwc tys H0 LC LS Q h (F0 m pc ls (.null :: .int i :: .ref a :: rest)) := by
  obtain ⟨hx, hb, hml, hown, hts, hK, -⟩ := C
  intro H locs cells slots hR hl
  have htt := isRA_lt ht
  obtain ⟨q, q1, q2, q3, q4, q5⟩ := J_arr hK hR hat htt.1 (by omega)
  obtain ⟨C, hC⟩ := aks_ref htt q2
  rw [hC] at q4
  refine va_WaastN hx hb q3 q4 (fun z => by cases z) (by rw [arrV_size]; exact in_ix hi hlt) rfl rfl hd fun H1 e1 e2 e3 => ?_
  obtain ⟨w1, w2⟩ := J_wr hR hat htt.1 (by omega) hlt q1 hl e1 e2 e3
  exact kk H1 _ cells slots w1 w2
/-- an object of a class that may lie in an array of the kind -/
theorem asg_ok {t tb : Nat} (h : asg t tb = true) : 100 ≤ t ∧ t < 104 ∧ 1 ≤ tb ∧ tb < 100 ∧ ∃ (A C : String) (T : u_T) (N : Nat), aks[t - 100]? = some (.object A) ∧ vwc[tb - 1]? = some (C, T, N) ∧ (A = C ∨ Cond.castable C A ∈ lw_tbl) := by
  unfold asg at h
  split at h
  · exact ⟨by decide, by decide, by decide, by decide, _, _, _, _, rfl, rfl, Or.inl rfl⟩
  · exact ⟨by decide, by decide, by decide, by decide, _, _, _, _, rfl, rfl, Or.inl rfl⟩
  · exact ⟨by decide, by decide, by decide, by decide, _, _, _, _, rfl, rfl, Or.inl rfl⟩
  · exact ⟨by decide, by decide, by decide, by decide, _, _, _, _, rfl, rfl, Or.inr (List.mem_of_getElem? (i := 1020) (by decide +kernel))⟩
  · exact ⟨by decide, by decide, by decide, by decide, _, _, _, _, rfl, rfl, Or.inr (List.mem_of_getElem? (i := 1024) (by decide +kernel))⟩
  · exact ⟨by decide, by decide, by decide, by decide, _, _, _, _, rfl, rfl, Or.inr (List.mem_of_getElem? (i := 1023) (by decide +kernel))⟩
  · exact ⟨by decide, by decide, by decide, by decide, _, _, _, _, rfl, rfl, Or.inr (List.mem_of_getElem? (i := 1022) (by decide +kernel))⟩
  · cases h
/-- what such an object is to the machine -/
theorem asg_any {h : AH} {H : Heap} {t tb b : Nat} {ws : List Value} (hK : KX D tys gc H0 s) (hR : Rl D vwc tys H0 LC LS h H) (hab : at_ h b tb ws) (ht : asg t tb = true) : ∃ A : String, aks[t - 100]? = some (.object A) ∧ va_Any A s H b := by
  obtain ⟨t1, t2, t3, t4, A, C, T, N, a1, a2, a3⟩ := asg_ok ht
  obtain ⟨g1, g2, r', g3, g4, cell, q1, q2, q3, q4⟩ := ce_obj hR hab t3 t4
  have hcl := (hK.1.1 _ _ a2).2
  obtain ⟨f1, kC, f2, f3⟩ := id hcl
  refine ⟨A, a1, cell, q1, by rw [q3]; rfl, ⟨kC, by rw [q2]; exact f2⟩, fun comp hcomp => ?_⟩
  rw [q2]
  rcases a3 with rfl | a3
  · cases f1.symm.trans hcomp
    exact va_assign hcl
  · obtain ⟨c0, t0, i1, i2, i3⟩ := Cond.castable_spec (va_Nw.use (A := #[]) rfl (hK.2.2.1 _ a3 rfl))
    cases f1.symm.trans i1
    cases hcomp.symm.trans i2
    exact i3
theorem J_aast {h : AH} {a t tb b pc : Nat} {i : Int32} {vs ws rest : List Value} {ls : Array Slot} (C : Cx p R s m args c D tys H0 LC LS gc cc nL own h0 dd) (hat : at_ h a t vs) (hab : at_ h b tb ws) (ht : asg t tb = true) (hi : ¬ i < 0) (hlt : i.toNatClampNeg < vs.length) (hd : decode cc pc = .ok (.aastore, 1))
    (kk : J p l e R s m args below meth c D vwc tys H0 LC LS Q (ah_set h a (t, vs.set i.toNatClampNeg (.ref b))) (F0 m (pc + 1) ls rest)) : J p l e R s m args below meth c D vwc tys H0 LC LS Q h (F0 m pc ls (.ref b :: .int i :: .ref a :: rest)) := by
  obtain ⟨hx, hb, hml, hown, hts, hK, -⟩ := C
  intro H locs cells slots hR hl
  obtain ⟨t1, t2, -⟩ := asg_ok ht
  obtain ⟨q, q1, q2, q3, q4, q5⟩ := J_arr hK hR hat t1 (by omega)
  obtain ⟨A, a1, cv, v1, v2, ⟨kv, v3⟩, v4⟩ := asg_any hK hR hab ht
  have hq : q.2 = .object A := Option.some.inj (q2.symm.trans a1)
  rw [hq] at q5
  obtain ⟨kA, comp, r1, r2, r3, -⟩ := q5
  obtain ⟨kE, hkE, -⟩ := Vm.findClass_spec r3
  refine W.aast hx hb q3 (fun z h => by cases h) (fun h => by cases h) r1 r2 rfl hkE ⟨hi, by rw [arrV_size]; exact hlt⟩ v1 (fun z h => by rw [h] at v2; cases v2) v3 (v4 comp r3) rfl rfl hd fun H1 e1 e2 e3 => ?_
  obtain ⟨w1, w2⟩ := J_wr hR hat t1 (by omega) hlt q1 hl e1 e2 e3
  exact kk H1 _ cells slots w1 w2
theorem tys_at {j : Nat} {ty : FieldType} (h : tys.map (fun q => q.2) = aks) (hj : aks[j]? = some ty) : ∃ q : ClassId × FieldType, tys[j]? = some q ∧ q.2 = ty := by
  rw [← h, List.getElem?_map] at hj
  cases hq : tys[j]? with
  | none => rw [hq] at hj; cases hj
  | some q => rw [hq] at hj; exact ⟨q, rfl, Option.some.inj hj⟩
theorem arrV_rep (cA : ClassId) (N : Nat) (v : Value) : arrV cA N (fun _ => v) = arrV cA (List.replicate N v).length (vp_V (List.replicate N v)) := by
  rw [List.length_replicate]
  unfold arrV
  congr 2
  funext j
  unfold vp_V
  rw [List.getD_eq_getElem?_getD, List.getElem?_replicate, if_pos j.2]
  rfl
theorem J_made {h : AH} {H H1 : Heap} {t N : Nat} {v : Value} {q : ClassId × FieldType} (hR : Rl D vwc tys H0 LC LS h H) (h1 : 100 ≤ t) (h2 : t < 200) (hq : tys[t - 100]? = some q) (r1 : 1 ≤ h.2.1) (r2 : N ≤ h.2.2.1)
    (e1 : H1[H.size]? = some (arrV q.1 N (fun _ => v))) (z1 : H1.size = H.size + 1) (o1 : ∀ x : Nat, x < H.size → H1[x]? = H[x]?) : Rl D vwc tys H0 LC LS (ah_new h (t, List.replicate N v)) H1 := by
  refine hR.new z1 e1 o1 (by rw [arrV_size]; exact List.length_replicate.symm) ?_ r1 (by show (List.replicate N v).length ≤ _; rw [List.length_replicate]; exact r2)
  unfold ce_at
  rw [if_neg (show ¬ t < 100 by omega), if_pos (show t < 200 from h2)]
  exact ⟨q, hq, by rw [e1, arrV_rep]⟩
theorem ac_int0 : lw_is 816 (Cond.arrayClass FieldType.int) = true := by decide +kernel
theorem ac_bool0 : lw_is 817 (Cond.arrayClass FieldType.boolean) = true := by decide +kernel
theorem ac_int : Cond.arrayClass FieldType.int ∈ GL := gl_in ac_int0 rfl
theorem ac_bool : Cond.arrayClass FieldType.boolean ∈ GL := gl_in ac_bool0 rfl
theorem J_newa {h : AH} {t pc : Nat} {aty : ArrayType} {x : Int32} {rest : List Value} {ls : Array Slot} (C : Cx p R s m args c D tys H0 LC LS gc cc nL own h0 dd) (hty : (aty = .int ∧ t = 104) ∨ (aty = .boolean ∧ t = 105)) (hn : ¬ x < 0) (r1 : 1 ≤ h.2.1) (r2 : x.toNatClampNeg ≤ h.2.2.1) (r3 : x.toNatClampNeg ≤ 100000) (hd : decode cc pc = .ok (.newarray aty, 2))
    (kk : J p l e R s m args below meth c D vwc tys H0 LC LS Q (ah_new h (t, List.replicate x.toNatClampNeg (.int 0))) (F0 m (pc + 2) ls (.ref h.1 :: rest))) : J p l e R s m args below meth c D vwc tys H0 LC LS Q h (F0 m pc ls (.int x :: rest)) := by
  obtain ⟨hx, hb, hml, hown, hts, hK, r0, -, -, hRc, hRs⟩ := C
  intro H locs cells slots hR hl
  refine J_tg r0 hR (fun z1 z2 => ?_)
  rcases hty with ⟨rfl, rfl⟩ | ⟨rfl, rfl⟩
  · obtain ⟨q, q1, q2⟩ := tys_at hK.2.1 (show aks[104 - 100]? = some .int from rfl)
    have hra := (hK.1.2 _ _ q1).2
    rw [q2] at hra
    refine va_newaK (atype := .int) hx hb (hts _ ac_int) rfl hd rfl hn rfl (by show _ * 4 ≤ _; omega) (by omega) (by omega) hR.1 fun H1 cA e1 s1 o1 ha hfc => ?_
    have hcA : cA = q.1 := Option.some.inj (hfc.symm.trans hra)
    subst hcA
    exact kk H1 locs _ _ (J_made hR (by decide) (by decide) q1 r1 r2 (by rw [hR.1]; exact e1) (by rw [hR.1]; exact s1) (fun y hy => o1 y (by rw [← hR.1]; exact hy))) hl
  · obtain ⟨q, q1, q2⟩ := tys_at hK.2.1 (show aks[105 - 100]? = some .boolean from rfl)
    have hra := (hK.1.2 _ _ q1).2
    rw [q2] at hra
    refine va_newaK (atype := .boolean) hx hb (hts _ ac_bool) rfl hd rfl hn rfl (by show _ * 1 ≤ _; omega) (by omega) (by omega) hR.1 fun H1 cA e1 s1 o1 ha hfc => ?_
    have hcA : cA = q.1 := Option.some.inj (hfc.symm.trans hra)
    subst hcA
    exact kk H1 locs _ _ (J_made hR (by decide) (by decide) q1 r1 r2 (by rw [hR.1]; exact e1) (by rw [hR.1]; exact s1) (fun y hy => o1 y (by rw [← hR.1]; exact hy))) hl
theorem J_anew {h : AH} {t w idx pc : Nat} {A : String} {x : Int32} {rest : List Value} {ls : Array Slot} (C : Cx p R s m args c D tys H0 LC LS gc cc nL own h0 dd) (h1 : 100 ≤ t) (h2 : t < 104) (hA : aks[t - 100]? = some (.object A)) (hw : lw_is w (.classLink own idx A) = true) (hn : ¬ x < 0) (r1 : 1 ≤ h.2.1) (r2 : x.toNatClampNeg ≤ h.2.2.1) (r3 : x.toNatClampNeg ≤ 100000) (hd : decode cc pc = .ok (.anewarray idx, 3))
    (kk : J p l e R s m args below meth c D vwc tys H0 LC LS Q (ah_new h (t, List.replicate x.toNatClampNeg .null)) (F0 m (pc + 3) ls (.ref h.1 :: rest))) : J p l e R s m args below meth c D vwc tys H0 LC LS Q h (F0 m pc ls (.int x :: rest)) := by
  obtain ⟨hx, hb, hml, hown, hts, hK, r0, -, -, hRc, hRs⟩ := C
  intro H locs cells slots hR hl
  refine J_tg r0 hR (fun z1 z2 => ?_)
  obtain ⟨q, q1, q2⟩ := tys_at hK.2.1 hA
  have hra := (hK.1.2 _ _ q1).2
  rw [q2] at hra
  have hao : Cond.arrayOver (.object A) ∈ lw_tbl := by
    have hk : t = 100 ∨ t = 101 ∨ t = 102 ∨ t = 103 := by omega
    rcases hk with rfl | rfl | rfl | rfl
    · rw [← FieldType.object.inj (Option.some.inj hA)]; exact List.mem_of_getElem? (i := 78) (by decide +kernel)
    · rw [← FieldType.object.inj (Option.some.inj hA)]; exact List.mem_of_getElem? (i := 80) (by decide +kernel)
    · rw [← FieldType.object.inj (Option.some.inj hA)]; exact List.mem_of_getElem? (i := 82) (by decide +kernel)
    · rw [← FieldType.object.inj (Option.some.inj hA)]; exact List.mem_of_getElem? (i := 332) (by decide +kernel)
  obtain ⟨kA0, comp0, r1', r2', r3', r4'⟩ := hra
  refine W.anew hx hb hown (hts _ (gl_in hw rfl)) (va_AO.use (hK.2.2.2.1 A hao)) rfl hd rfl hn (by omega) (by omega) (by omega) fun cA kA comp f1 f2 f3 f4 => ?_
  have hcA : cA = q.1 := Option.some.inj (f1.symm.trans r4')
  subst hcA
  have hsz : h.1 = H.size := hR.1.symm
  rw [hsz] at kk
  refine kk _ locs _ _ (J_made (q := q) hR h1 (by omega) q1 r1 r2 (by rw [Array.getElem?_push_size, ← arrV_new]) (by rw [Array.size_push]) (fun y hy => by rw [Array.getElem?_push, if_neg (Nat.ne_of_lt hy)])) hl
theorem J_cast {h : AH} {a t w cw idx pc : Nat} {vs rest : List Value} {ls : Array Slot} (C : Cx p R s m args c D tys H0 LC LS gc cc nL own h0 dd) (hat : at_ h a t vs) (hf : cl_ok own idx t w = true) (hcw : (match vwc[t - 1]? with | some (C, _, _) => lw_is cw (.castable C C) | none => false) = true) (hd : decode cc pc = .ok (.checkcast idx, 3))
    (kk : J p l e R s m args below meth c D vwc tys H0 LC LS Q h (F0 m (pc + 3) ls (.ref a :: rest))) : J p l e R s m args below meth c D vwc tys H0 LC LS Q h (F0 m pc ls (.ref a :: rest)) := by
  obtain ⟨hx, hb, hml, hown, hts, hK, -⟩ := C
  intro H locs cells slots hR hl
  unfold cl_ok at hf
  cases hc : vwc[t - 1]? with
  | none => rw [hc] at hf; cases hf
  | some r =>
    rw [hc] at hf hcw
    obtain ⟨C, T, N⟩ := r
    simp only [Bool.and_eq_true, Nat.ble_eq, Nat.blt_eq] at hf
    obtain ⟨⟨f1, f2⟩, f3⟩ := hf
    obtain ⟨g1, g2, r', g3, g4, cell, q1, q2, q3, q4⟩ := ce_obj hR hat f1 f2
    cases hc.symm.trans g3
    exact va_castY hx hb hown (hts _ (gl_in f3 rfl)) (hK.2.2.1 _ (tb_in hcw) rfl) ⟨cell, q1, by rw [q3]; rfl, by rw [q2]; exact (hK.1.1 _ _ hc).2.1⟩ hd (kk H locs cells slots hR hl)
theorem J_gets {h : AH} {w idx pc : Nat} {rest : List Value} {ls : Array Slot} (C : Cx p R s m args c D tys H0 LC LS gc cc nL own h0 dd) (hw : lw_is w (.fieldLink own idx "java/util/ArrayList" "DEFAULTCAPACITY_EMPTY_ELEMENTDATA" "[Ljava/lang/Object;") = true) (hd : decode cc pc = .ok (.getstatic idx, 3))
    (kk : J p l e R s m args below meth c D vwc tys H0 LC LS Q h (F0 m (pc + 3) ls (.ref (gc 1) :: rest))) : J p l e R s m args below meth c D vwc tys H0 LC LS Q h (F0 m pc ls rest) := by
  obtain ⟨hx, hb, hml, hown, hts, hK, -⟩ := C
  intro H locs cells slots hR hl
  obtain ⟨-, -, -, -, -, ⟨cf, kf, fi, f, za, zc, z1, z2, z3, z4, z5, z6, z7, z8⟩, -⟩ := hK
  have e : H[za]? = some zc := (hR.2.2.2.2.1 za (Array.getElem?_eq_some_iff.mp z5).1).trans z5
  exact W.gets hx hb hown (hts _ (gl_in hw rfl)) z1 z2 z3 z4 e (fun q => by rw [q] at z6; cases z6) z7 rfl hd (kk H locs cells slots hR hl)
theorem J_ldcM {h : AH} {w idx pc : Nat} {rest : List Value} {ls : Array Slot} (C : Cx p R s m args c D tys H0 LC LS gc cc nL own h0 dd) (hw : lw_is w (.classLink own idx "[Ljava/lang/Object;") = true) (hd : decode cc pc = .ok (.ldc idx, 2))
    (kk : J p l e R s m args below meth c D vwc tys H0 LC LS Q h (F0 m (pc + 2) ls (.ref (gc 0) :: rest))) : J p l e R s m args below meth c D vwc tys H0 LC LS Q h (F0 m pc ls rest) := by
  obtain ⟨hx, hb, hml, hown, hts, hK, -⟩ := C
  intro H locs cells slots hR hl
  exact va_ldcM hx hb hown (hts _ (gl_in hw rfl)) hK.2.2.2.2.1 hd (kk H locs cells slots hR hl)
end SND4
