section SND4
variable {p : Program} {l : Launch} {e : Env} {R : Room} {s : State} {m : MethodId} {args : Array Value} {below : List Frame} {meth : Method} {c : Code}
variable {D : va_G} {tys : List (ClassId × FieldType)} {H0 : Heap} {LC LS : Nat} {gc : Nat → Nat} {cc : ByteArray} {nL : Nat} {own : String} {h0 : AH} {dd : Nat} {Q : State → Prop}
theorem J_aastN {h : AH} {a t pc : Nat} {i : Int32} {vs rest : List Value} {ls : Array Slot} (C : Cx p R s m args c D tys H0 LC LS gc cc nL own h0 dd) (hat : at_ h a t vs) (ht : isRA t = true) (hi : ¬ i < 0) (hlt : i.toNatClampNeg < vs.length) (hd : decode cc pc = .ok (.aastore, 1))
    (kk : J p l e R s m args below meth c D vwc tys H0 LC LS Q (ah_set h a (t, vs.set i.toNatClampNeg .null)) (F0 m (pc + 1) ls rest)) : J p l e R s m args below meth c D vwc tys H0 LC LS Q h (F0 m pc ls (.null :: .int i :: .ref a :: rest)) := by
  obtain ⟨hx, hb, hml, hown, hts, hK, -⟩ := C
  intro H locs cells slots hR hl
  have htt := isRA_lt ht
  obtain ⟨q, q1, q2, q3, q4, q5⟩ := J_arr hK hR hat htt.1 (by omega)
  obtain ⟨C, hC⟩ := aks_ref htt q2
  rw [hC] at q4
  refine va_WaastN hx hb q3 q4 (fun z => by cases z) (by rw [arrV_size]; exact in_ix hi hlt) rfl rfl hd fun H1 e1 e2 e3 => ?_
  obtain ⟨w1, w2⟩ := J_wr hR hat htt.1 (by omega) hlt q1 hl e1 e2 e3
  exact kk H1 _ cells slots w1 w2
/-- an object of a class that may lie in an array of the kind -/
theorem asg_ok {t tb : Nat} (h : asg t tb = true) : 100 ≤ t ∧ t < 104 ∧ 1 ≤ tb ∧ tb ≤ 11 ∧ ∃ (A C : String) (T : u_T) (N : Nat), aks[t - 100]? = some (.object A) ∧ vwc[tb - 1]? = some (C, T, N) ∧ (A = C ∨ Cond.castable C A ∈ lw_tbl ∨ (C = "java/util/ArrayList" ∧ A = "java/lang/Object")) := by
  sorry
theorem J_aast {h : AH} {a t tb b pc : Nat} {i : Int32} {vs ws rest : List Value} {ls : Array Slot} (C : Cx p R s m args c D tys H0 LC LS gc cc nL own h0 dd) (hat : at_ h a t vs) (hab : at_ h b tb ws) (ht : asg t tb = true) (hi : ¬ i < 0) (hlt : i.toNatClampNeg < vs.length) (hd : decode cc pc = .ok (.aastore, 1))
    (kk : J p l e R s m args below meth c D vwc tys H0 LC LS Q (ah_set h a (t, vs.set i.toNatClampNeg (.ref b))) (F0 m (pc + 1) ls rest)) : J p l e R s m args below meth c D vwc tys H0 LC LS Q h (F0 m pc ls (.ref b :: .int i :: .ref a :: rest)) := by
  sorry
theorem J_newa {h : AH} {t pc : Nat} {aty : ArrayType} {x : Int32} {rest : List Value} {ls : Array Slot} (C : Cx p R s m args c D tys H0 LC LS gc cc nL own h0 dd) (hty : (aty = .int ∧ t = 104) ∨ (aty = .boolean ∧ t = 105)) (hn : ¬ x < 0) (r1 : 1 ≤ h.2.1) (r2 : x.toNatClampNeg ≤ h.2.2.1) (r3 : x.toNatClampNeg ≤ 100000) (hd : decode cc pc = .ok (.newarray aty, 2))
    (kk : J p l e R s m args below meth c D vwc tys H0 LC LS Q (ah_new h (t, List.replicate x.toNatClampNeg (.int 0))) (F0 m (pc + 2) ls (.ref h.1 :: rest))) : J p l e R s m args below meth c D vwc tys H0 LC LS Q h (F0 m pc ls (.int x :: rest)) := by
  sorry
theorem J_anew {h : AH} {t w idx pc : Nat} {A : String} {x : Int32} {rest : List Value} {ls : Array Slot} (C : Cx p R s m args c D tys H0 LC LS gc cc nL own h0 dd) (h1 : 100 ≤ t) (h2 : t < 104) (hA : aks[t - 100]? = some (.object A)) (hw : lw_is w (.classLink own idx A) = true) (hn : ¬ x < 0) (r1 : 1 ≤ h.2.1) (r2 : x.toNatClampNeg ≤ h.2.2.1) (r3 : x.toNatClampNeg ≤ 100000) (hd : decode cc pc = .ok (.anewarray idx, 3))
    (kk : J p l e R s m args below meth c D vwc tys H0 LC LS Q (ah_new h (t, List.replicate x.toNatClampNeg .null)) (F0 m (pc + 3) ls (.ref h.1 :: rest))) : J p l e R s m args below meth c D vwc tys H0 LC LS Q h (F0 m pc ls (.int x :: rest)) := by
  sorry
theorem J_cast {h : AH} {a t w cw idx pc : Nat} {vs rest : List Value} {ls : Array Slot} (C : Cx p R s m args c D tys H0 LC LS gc cc nL own h0 dd) (hat : at_ h a t vs) (hf : cl_ok own idx t w = true) (hcw : (match vwc[t - 1]? with | some (C, _, _) => lw_is cw (.castable C C) | none => false) = true) (hd : decode cc pc = .ok (.checkcast idx, 3))
    (kk : J p l e R s m args below meth c D vwc tys H0 LC LS Q h (F0 m (pc + 3) ls (.ref a :: rest))) : J p l e R s m args below meth c D vwc tys H0 LC LS Q h (F0 m pc ls (.ref a :: rest)) := by
  obtain ⟨hx, hb, hml, hown, hts, hK, -⟩ := C
  intro H locs cells slots hR hl
  unfold cl_ok at hf
  cases hc : vwc[t - 1]? with
  | none => rw [hc] at hf; cases hf
  | some r =>
    rw [hc] at hf hcw
    obtain ⟨C, T, N⟩ := r
    simp only [Bool.and_eq_true, Nat.ble_eq, Nat.blt_eq] at hf
    obtain ⟨⟨f1, f2⟩, f3⟩ := hf
    obtain ⟨g1, g2, r', g3, g4, cell, q1, q2, q3, q4⟩ := ce_obj hR hat f1 f2
    cases hc.symm.trans g3
    exact va_castY hx hb hown (hts _ (gl_in f3 rfl)) (hK.2.2.1 _ (tb_in hcw) rfl) ⟨cell, q1, by rw [q3]; rfl, by rw [q2]; exact (hK.1.1 _ _ hc).2.1⟩ hd (kk H locs cells slots hR hl)
theorem J_gets {h : AH} {w idx pc : Nat} {rest : List Value} {ls : Array Slot} (C : Cx p R s m args c D tys H0 LC LS gc cc nL own h0 dd) (hw : lw_is w (.fieldLink own idx "java/util/ArrayList" "DEFAULTCAPACITY_EMPTY_ELEMENTDATA" "[Ljava/lang/Object;") = true) (hd : decode cc pc = .ok (.getstatic idx, 3))
    (kk : J p l e R s m args below meth c D vwc tys H0 LC LS Q h (F0 m (pc + 3) ls (.ref (gc 1) :: rest))) : J p l e R s m args below meth c D vwc tys H0 LC LS Q h (F0 m pc ls rest) := by
  obtain ⟨hx, hb, hml, hown, hts, hK, -⟩ := C
  intro H locs cells slots hR hl
  obtain ⟨-, -, -, -, -, ⟨cf, kf, fi, f, za, zc, z1, z2, z3, z4, z5, z6, z7, z8⟩, -⟩ := hK
  have e : H[za]? = some zc := (hR.2.2.2.2.1 za (Array.getElem?_eq_some_iff.mp z5).1).trans z5
  exact W.gets hx hb hown (hts _ (gl_in hw rfl)) z1 z2 z3 z4 e (fun q => by rw [q] at z6; cases z6) z7 rfl hd (kk H locs cells slots hR hl)
theorem J_ldcM {h : AH} {w idx pc : Nat} {rest : List Value} {ls : Array Slot} (C : Cx p R s m args c D tys H0 LC LS gc cc nL own h0 dd) (hw : lw_is w (.classLink own idx "[Ljava/lang/Object;") = true) (hd : decode cc pc = .ok (.ldc idx, 2))
    (kk : J p l e R s m args below meth c D vwc tys H0 LC LS Q h (F0 m (pc + 2) ls (.ref (gc 0) :: rest))) : J p l e R s m args below meth c D vwc tys H0 LC LS Q h (F0 m pc ls rest) := by
  obtain ⟨hx, hb, hml, hown, hts, hK, -⟩ := C
  intro H locs cells slots hR hl
  exact va_ldcM hx hb hown (hts _ (gl_in hw rfl)) hK.2.2.2.2.1 hd (kk H locs cells slots hR hl)
end SND4
