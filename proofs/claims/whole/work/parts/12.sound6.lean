section SND6
variable {p : Program} {l : Launch} {e : Env} {R : Room} {s : State} {m : MethodId} {args : Array Value} {below : List Frame} {meth : Method} {c : Code}
variable {D : va_G} {tys : List (ClassId × FieldType)} {H0 : Heap} {LC LS : Nat} {gc : Nat → Nat} {cc : ByteArray} {nL : Nat} {own : String} {h0 : AH} {dd : Nat} {Q : State → Prop}
theorem oi1_0 : lw_is 75 (Cond.instanceMethod objectInit) = true := by decide +kernel
theorem oi2_0 : lw_is 76 (Cond.code objectInit ⟨#[0xb1]⟩ 1 none) = true := by decide +kernel
theorem J_objInit {h : AH} {a w idx pc : Nat} {rest : List Value} {ls : Array Slot} (C : Cx p R s m args c D tys H0 LC LS gc cc nL own h0 dd) (hw : lw_is w (.methodLink own idx objectInit) = true) (hls : ls.size = nL) (hb4 : rest.length ≤ 4) (hd : decode cc pc = .ok (.invokespecial idx, 3))
    (kk : J p l e R s m args below meth c D vwc tys H0 LC LS Q h (F0 m (pc + 3) ls rest)) : J p l e R s m args below meth c D vwc tys H0 LC LS Q h (F0 m pc ls (.ref a :: rest)) := by
  obtain ⟨hx, hb, hml, hown, hts, hK, r0, hF, hLo, hRc, hRs⟩ := C
  intro H locs cells slots hR hl
  have h8 := rest8 hb4
  exact W.objInit hx hb hown (hts _ (gl_in hw rfl)) (hts _ (gl_in oi1_0 rfl)) (hts _ (gl_in oi2_0 rfl)) rfl (by rw [hml]; exact hls) rfl hd (by omega) (by show 2 * 0 + _ + 12 ≤ _; omega) (kk H locs cells slots hR hl)
theorem mx1_0 : lw_is 304 (Cond.static Lib.Math.max.name) = true := by decide +kernel
theorem mx2_0 : lw_is 305 (Cond.code Lib.Math.max.name Lib.Math.max.code 2 (some .int)) = true := by decide +kernel
theorem mn1_0 : lw_is 335 (Cond.static Lib.Math.min.name) = true := by decide +kernel
theorem mn2_0 : lw_is 336 (Cond.code Lib.Math.min.name Lib.Math.min.code 2 (some .int)) = true := by decide +kernel
theorem mi_0 : lw_is 62 (Cond.initialized "java/lang/Math") = true := by decide +kernel
theorem si_0 : lw_is 64 (Cond.initialized "java/lang/System") = true := by decide +kernel
theorem ac1_0 : lw_is 339 (Cond.native arraycopyName) = true := by decide +kernel
theorem ac2_0 : lw_is 338 (Cond.static arraycopyName) = true := by decide +kernel
theorem J_max {h : AH} {w idx pc : Nat} {x y : Int32} {rest : List Value} {ls : Array Slot} (C : Cx p R s m args c D tys H0 LC LS gc cc nL own h0 dd) (hw : lw_is w (.methodLink own idx Lib.Math.max.name) = true) (hls : ls.size = nL) (hb4 : rest.length ≤ 4) (hd : decode cc pc = .ok (.invokestatic idx, 3))
    (kk : J p l e R s m args below meth c D vwc tys H0 LC LS Q h (F0 m (pc + 3) ls (.int (if x < y then y else x) :: rest))) : J p l e R s m args below meth c D vwc tys H0 LC LS Q h (F0 m pc ls (.int y :: .int x :: rest)) := by
  obtain ⟨hx, hb, hml, hown, hts, hK, r0, hF, hLo, hRc, hRs⟩ := C
  intro H locs cells slots hR hl
  have h8 := rest8 hb4
  refine J_tg r0 hR (fun z1 z2 => ?_)
  exact va_mmax hx hb (by rw [hml]; exact hls.symm) hown (hts _ (gl_in hw rfl)) (hts _ (gl_in mx1_0 rfl)) (hts _ (gl_in mi_0 rfl)) (hts _ (gl_in mx2_0 rfl)) (by omega) (by omega) (by omega) (by omega) hd (kk H locs _ _ hR hl)
theorem J_min {h : AH} {w idx pc : Nat} {x y : Int32} {rest : List Value} {ls : Array Slot} (C : Cx p R s m args c D tys H0 LC LS gc cc nL own h0 dd) (hw : lw_is w (.methodLink own idx Lib.Math.min.name) = true) (hls : ls.size = nL) (hb4 : rest.length ≤ 4) (hd : decode cc pc = .ok (.invokestatic idx, 3))
    (kk : J p l e R s m args below meth c D vwc tys H0 LC LS Q h (F0 m (pc + 3) ls (.int (if y < x then y else x) :: rest))) : J p l e R s m args below meth c D vwc tys H0 LC LS Q h (F0 m pc ls (.int y :: .int x :: rest)) := by
  obtain ⟨hx, hb, hml, hown, hts, hK, r0, hF, hLo, hRc, hRs⟩ := C
  intro H locs cells slots hR hl
  have h8 := rest8 hb4
  refine J_tg r0 hR (fun z1 z2 => ?_)
  exact va_mmin hx hb (by rw [hml]; exact hls.symm) hown (hts _ (gl_in hw rfl)) (hts _ (gl_in mn1_0 rfl)) (hts _ (gl_in mi_0 rfl)) (hts _ (gl_in mn2_0 rfl)) (by omega) (by omega) (by omega) (by omega) hd (kk H locs _ _ hR hl)
theorem gk1_0 : lw_is 1014 (Cond.declares ⟨"java/lang/Object", "getClass", "()Ljava/lang/Class;"⟩) = true := by decide +kernel
theorem gk2_0 : lw_is 1013 (Cond.selects "[Ljava/lang/Object;" ⟨"java/lang/Object", "getClass", "()Ljava/lang/Class;"⟩ ⟨"java/lang/Object", "getClass", "()Ljava/lang/Class;"⟩) = true := by decide +kernel
theorem gk3_0 : lw_is 314 (Cond.instanceMethod ⟨"java/lang/Object", "getClass", "()Ljava/lang/Class;"⟩) = true := by decide +kernel
theorem gk4_0 : lw_is 327 (Cond.native ⟨"java/lang/Object", "getClass", "()Ljava/lang/Class;"⟩) = true := by decide +kernel
theorem J_getC {h : AH} {a w idx pc : Nat} {vs rest : List Value} {ls : Array Slot} (C : Cx p R s m args c D tys H0 LC LS gc cc nL own h0 dd) (hw : lw_is w (.methodLink own idx ⟨"java/lang/Object", "getClass", "()Ljava/lang/Class;"⟩) = true) (hat : at_ h a 103 vs) (hls : ls.size = nL) (hb4 : rest.length ≤ 4) (hd : decode cc pc = .ok (.invokevirtual idx, 3))
    (kk : J p l e R s m args below meth c D vwc tys H0 LC LS Q h (F0 m (pc + 3) ls (.ref (gc 0) :: rest))) : J p l e R s m args below meth c D vwc tys H0 LC LS Q h (F0 m pc ls (.ref a :: rest)) := by
  obtain ⟨hx, hb, hml, hown, hts, hK, r0, hF, hLo, hRc, hRs⟩ := C
  intro H locs cells slots hR hl
  have h8 := rest8 hb4
  obtain ⟨q, q1, q2, q3, q4, q5⟩ := J_arr hK hR hat (by decide) (by decide)
  have hq : q.2 = .object "java/lang/Object" := (Option.some.inj (show some (FieldType.object "java/lang/Object") = some q.2 from q2)).symm
  rw [hq] at q5
  exact va_getC hx hb (by rw [hml]; exact hls.symm) hown (hts _ (gl_in hw rfl)) (va_Nw.use rfl (hK.2.2.1 _ (tb_in gk1_0) rfl)) (hts _ (gl_in gk2_0 rfl)) (hts _ (gl_in gk3_0 rfl)) (hts _ (gl_in gk4_0 rfl)) hK.2.2.2.2.1 ⟨_, q3, rfl, va_nmO q5 (by decide)⟩ (by omega) (by omega) hd (kk H locs cells slots hR hl)
end SND6
