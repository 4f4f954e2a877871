section SND7
variable {p : Program} {l : Launch} {e : Env} {R : Room} {s : State} {m : MethodId} {args : Array Value} {below : List Frame} {meth : Method} {c : Code}
variable {D : va_G} {tys : List (ClassId × FieldType)} {H0 : Heap} {LC LS : Nat} {gc : Nat → Nat} {cc : ByteArray} {nL : Nat} {own : String} {h0 : AH} {dd : Nat} {Q : State → Prop}
theorem arrV_cg (cA : ClassId) {N : Nat} {f g : Nat → Value} (h : ∀ j, j < N → f j = g j) : arrV cA N f = arrV cA N g := by
  unfold arrV
  congr 2
  funext j
  exact h j.val j.2
theorem cpyL_len (v0 v1 : List Value) (sp dp n : Nat) : (cpyL v0 v1 sp dp n).length = v1.length := by
  unfold cpyL
  rw [List.length_map, List.length_range]
theorem cpyL_at {v0 v1 : List Value} {sp dp n j : Nat} (h : j < v1.length) : vp_V (cpyL v0 v1 sp dp n) j = va_cpy (vp_V v0) (vp_V v1) sp dp n j := by
  unfold cpyL vp_V
  rw [List.getD_eq_getElem?_getD, List.getElem?_map, List.getElem?_range h]
  rfl
theorem J_copy {h : AH} {a a0 w idx pc : Nat} {sp dp k : Int32} {v0 v1 rest : List Value} {ls : Array Slot} (C : Cx p R s m args c D tys H0 LC LS gc cc nL own h0 dd) (hw : lw_is w (.methodLink own idx arraycopyName) = true) (hls : ls.size = nL) (hb4 : rest.length ≤ 4) (ha0 : at_ h a0 103 v0) (ha : at_ h a 103 v1) (h1 : ¬ sp < 0) (h2 : ¬ dp < 0) (h3 : ¬ k < 0)
    (h4 : sp.toNatClampNeg + k.toNatClampNeg ≤ v0.length) (h5 : dp.toNatClampNeg + k.toNatClampNeg ≤ v1.length) (h6 : 1 ≤ v1.length) (hel : ∀ v ∈ v0, v = .null ∨ ∃ (y ty : Nat) (vs : List Value), v = .ref y ∧ at_ h y ty vs ∧ asg 103 ty = true) (hd : decode cc pc = .ok (.invokestatic idx, 3))
    (kk : J p l e R s m args below meth c D vwc tys H0 LC LS Q (ah_set h a (103, cpyL v0 v1 sp.toNatClampNeg dp.toNatClampNeg k.toNatClampNeg)) (F0 m (pc + 3) ls rest)) : J p l e R s m args below meth c D vwc tys H0 LC LS Q h (F0 m pc ls (.int k :: .int dp :: .ref a :: .int sp :: .ref a0 :: rest)) := by
  obtain ⟨hx, hb, hml, hown, hts, hK, r0, hF, hLo, hRc, hRs⟩ := C
  intro H locs cells slots hR hl
  have h8 := rest8 hb4
  obtain ⟨q0, p1, p2, hc0, -, -⟩ := J_arr hK hR ha0 (by decide) (by decide)
  obtain ⟨q, q1, q2, hc1, -, q5⟩ := J_arr hK hR ha (by decide) (by decide)
  obtain ⟨o1, o2, -⟩ := ce_arr hR ha (by decide) (by decide)
  have o1 := o1 (fun z => by rw [z] at h6; exact absurd h6 (by decide))
  have hq : q.2 = .object "java/lang/Object" := (Option.some.inj (show some (FieldType.object "java/lang/Object") = some q.2 from q2)).symm
  have hq0 : q0.2 = .object "java/lang/Object" := (Option.some.inj (show some (FieldType.object "java/lang/Object") = some q0.2 from p2)).symm
  obtain ⟨-, k0, hk0, cm0, hkk0⟩ := (hK.1.2 _ _ p1).1 v0.length (vp_V v0)
  obtain ⟨-, k1, hk1, cm1, hkk1⟩ := (hK.1.2 _ _ q1).1 v1.length (vp_V v1)
  rw [hq] at hkk1 q5
  rw [hq0] at hkk0
  have nn : ∀ z : Int32, ¬ z < 0 → z.toInt = (z.toNatClampNeg : Int) := by
    intro z hz
    have hz0 : (0 : Int) ≤ z.toInt := by
      have := Int32.not_lt.mp hz
      simpa using Int32.le_iff_toInt_le.mp this
    show z.toInt = ((z.toInt.toNat : Nat) : Int)
    omega
  intro T hT X
  obtain ⟨vm', X', step⟩ := X.arraycopy hx hown (hts _ (gl_in hw rfl)) (hts _ (gl_in ac1_0 rfl)) (hts _ (gl_in ac2_0 rfl)) (hts _ (gl_in si_0 rfl)) (src := a0) (dst := a) (cs := arrV q0.1 v0.length (vp_V v0)) (cd := arrV q.1 v1.length (vp_V v1)) (srcPos := sp) (destPos := dp) (n := k) (by rw [hT]; exact hc0) (by rw [hT]; exact hc1)
    (fun _ h => by cases h) (fun _ h => by cases h) (fun h => by cases h) (fun h => by cases h) hk0 hk1 hkk0 hkk1 rfl h1 h2 h3
    (by rw [nn sp h1, nn k h3, arrV_size]; omega)
    (by rw [nn dp h2, nn k h3, arrV_size]; omega)
    (fun vm₁ hal i hi => by
      have hlt : sp.toNatClampNeg + i < v0.length := by omega
      have e0 : (arrV q0.1 v0.length (vp_V v0)).slots.getD (sp.toNatClampNeg + i) .null = v0[sp.toNatClampNeg + i] := by
        rw [Array.getD_eq_getD_getElem?, arrV_read _ _ hlt]
        show vp_V v0 _ = _
        exact vp_read (List.getElem?_eq_getElem hlt)
      rw [e0]
      rcases hel _ (List.getElem_mem hlt) with hy | ⟨y, ty, vs, hy, g1, g2⟩
      · rw [hy]; exact ⟨rfl, trivial⟩
      · rw [hy]
        obtain ⟨A, a1, cellV, i1, i2, ⟨kC, hkC⟩, hasg⟩ := asg_any hK hR g1 g2
        have hA : A = "java/lang/Object" := (FieldType.object.inj (Option.some.inj (show some (FieldType.object "java/lang/Object") = some (.object A) from a1))).symm
        subst hA
        obtain ⟨kA, comp, r1, r2, r3, -⟩ := q5
        cases hk1.symm.trans r1
        cases hkk1.symm.trans r2
        obtain ⟨kE, hkE, -⟩ := Vm.findClass_spec r3
        obtain ⟨kC', hkC', -⟩ := hal.2.2 _ _ hkC
        obtain ⟨kE', hkE', -⟩ := hal.2.2 _ _ hkE
        refine ⟨rfl, cellV, (show T.heap[y]? = some cellV by rw [hT]; exact i1), (fun q h => by rw [h] at i2; cases i2), ⟨kC', hkC'⟩, ?_, ?_⟩
        · exact ⟨kE', hkE'⟩
        · show vm₁.assignable _ _ = true
          rw [hal.assignable]
          exact hasg _ r3)
    (g := F0 m pc ls (.int k :: .int dp :: .ref a :: .int sp :: .ref a0 :: rest)) rfl (by rw [hml]; exact hls) (rest := rest) rfl (by rw [hb]; exact hd) (by omega) (by show 2 * 0 + _ + _ ≤ _; have hw9 : nativeFrameWords "java/lang/System" "arraycopy" 5 = 7 := (by decide); omega)
  have e1 : copied (arrV q0.1 v0.length (vp_V v0)) (arrV q.1 v1.length (vp_V v1)) sp dp k = arrV q.1 v1.length (va_cpy (vp_V v0) (vp_V v1) sp.toNatClampNeg dp.toNatClampNeg k.toNatClampNeg) := va_copied (fun z => z) q0.1 q.1 (vp_V v0) (vp_V v1) h4
  rw [e1] at X' step
  have hlt : a < H.size := (Array.getElem?_eq_some_iff.mp hc1).1
  have hheap : ((T.setVm vm').setCell a (arrV q.1 v1.length (va_cpy (vp_V v0) (vp_V v1) sp.toNatClampNeg dp.toNatClampNeg k.toNatClampNeg))).heap = H.setIfInBounds a (arrV q.1 v1.length (va_cpy (vp_V v0) (vp_V v1) sp.toNatClampNeg dp.toNatClampNeg k.toNatClampNeg)) := by rw [← hT]; rfl
  have hself : (H.setIfInBounds a (arrV q.1 v1.length (va_cpy (vp_V v0) (vp_V v1) sp.toNatClampNeg dp.toNatClampNeg k.toNatClampNeg)))[a]? = some (arrV q.1 v1.length (va_cpy (vp_V v0) (vp_V v1) sp.toNatClampNeg dp.toNatClampNeg k.toNatClampNeg)) := by simp [Array.getElem?_setIfInBounds, hlt]
  obtain ⟨t, a1, b1⟩ := kk _ _ _ _ (hR.set (e := (103, cpyL v0 v1 sp.toNatClampNeg dp.toNatClampNeg k.toNatClampNeg)) o1 o2 (by simp) (fun x hx => by simp [Array.getElem?_setIfInBounds, Ne.symm hx]) (fun c' hc' => by
      cases hc1.symm.trans hc'
      exact ⟨_, hself, by rw [arrV_size, arrV_size]⟩) (by
      unfold ce_at
      rw [if_neg (show ¬ (103 : Nat) < 100 by decide), if_pos (show (103 : Nat) < 200 by decide)]
      refine ⟨q, q1, hself.trans ?_⟩
      show some _ = some (arrV q.1 (cpyL v0 v1 _ _ _).length _)
      rw [cpyL_len]
      exact congrArg some (arrV_cg _ (fun j hj => (cpyL_at hj).symm)))) (fun x hx => by
      rcases List.mem_append.mp hx with z | z
      · exact hl x z
      · obtain ⟨y, -, hy⟩ := List.mem_map.mp z
        rw [← hy]
        exact o1) _ hheap X'
  exact ⟨t, step t a1, b1⟩
end SND7
