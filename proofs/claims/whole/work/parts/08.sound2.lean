section SND
variable {p : Program} {l : Launch} {e : Env} {R : Room} {s : State} {m : MethodId} {args : Array Value} {below : List Frame} {meth : Method} {c : Code}
variable {D : va_G} {tys : List (ClassId × FieldType)} {H0 : Heap} {LC LS : Nat} {gc : Nat → Nat} {cc : ByteArray} {nL : Nat} {own : String} {h0 : AH} {dd : Nat} {Q : State → Prop}
/-- what stands while a method runs -/
def Cx (p : Program) (R : Room) (s : State) (m : MethodId) (args : Array Value) (c : Code) (D : va_G) (tys : List (ClassId × FieldType)) (H0 : Heap) (LC LS : Nat) (gc : Nat → Nat) (cc : ByteArray) (nL : Nat) (own : String) (h0 : AH) (dd : Nat) : Prop :=
  p.tables.exec = Jvm.exec ∧ c.code = cc ∧ c.maxLocals = nL ∧ s.vm.findClass own = some m.cls ∧ (∀ w ∈ GL, w.before args s = true) ∧ KX D tys gc H0 s ∧ Rl D vwc tys H0 LC LS h0 s.heap ∧ dd + 1 ≤ R.frames ∧ 31 * dd + 31 ≤ R.locals ∧ h0.2.1 ≤ R.cells ∧ h0.2.2.1 ≤ R.slots
/-- with the counters told from the picture, and what is left -/
theorem J_tg {h : AH} {H : Heap} {locs : List Loc} {cells slots : Nat} {g : JFrame} (r0 : Rl D vwc tys H0 LC LS h0 s.heap) (r : Rl D vwc tys H0 LC LS h H)
    (kk : h.2.1 ≤ h0.2.1 → h.2.2.1 ≤ h0.2.2.1 → W p l e R s m args below meth c H locs (h0.2.1 - h.2.1) (h0.2.2.1 - h.2.2.1) Q g) : W p l e R s m args below meth c H locs cells slots Q g := by
  intro T hT X
  obtain ⟨a1, a2, a3, a4, a5, a6⟩ := id r0
  obtain ⟨b1, b2, b3, b4, b5, b6⟩ := id r
  obtain ⟨x1, x2, x3, x4, x5, x6⟩ := id X.same
  have hh : (T.setVm s.vm).heap = H := hT
  rw [hh] at x2 x6
  have hsp := sl_split (B := H0.size) (H0 := s.heap) (H := H) (by omega) x2 (fun a c hc => by
    obtain ⟨c', q1, q2, q3, q4⟩ := x6 a c hc
    exact ⟨c', q1, q3⟩)
  exact J_tight r0 r (kk (by omega) (by omega)) T hT X
theorem J_get {h : AH} {a t k w idx pc : Nat} {vs rest : List Value} {v : Value} {ls : Array Slot} (C : Cx p R s m args c D tys H0 LC LS gc cc nL own h0 dd) (hat : at_ h a t vs) (hv : vs[k]? = some v) (hf : fld_ok own idx t k w = true) (hd : decode cc pc = .ok (.getfield idx, 3))
    (kk : J p l e R s m args below meth c D vwc tys H0 LC LS Q h (F0 m (pc + 3) ls (v :: rest))) : J p l e R s m args below meth c D vwc tys H0 LC LS Q h (F0 m pc ls (.ref a :: rest)) := by
  obtain ⟨hx, hb, hml, hown, hts, hK, -⟩ := C
  intro H locs cells slots hR hl
  unfold fld_ok at hf
  cases hc : vwc[t - 1]? with
  | none => rw [hc] at hf; cases hf
  | some r =>
    obtain ⟨C, T, N⟩ := r
    rw [hc] at hf
    simp only [Bool.and_eq_true, Bool.or_eq_true, Nat.ble_eq, Nat.blt_eq] at hf
    obtain ⟨⟨⟨f1, f2⟩, f3⟩, f4⟩ := hf
    obtain ⟨g1, g2, r', g3, g4, g5⟩ := ce_obj hR hat f1 f2
    cases hc.symm.trans g3
    have hin := (cls_spec hc).1
    have hP : va_P D vwc [(a, .inr (t - 1, vs))] H := fun k' q hk => by
      have hz : k' < 1 := (List.getElem?_eq_some_iff.mp hk).1
      rw [show k' = 0 by omega] at hk
      cases hk
      exact ⟨_, hc, g5⟩
    rcases f4 with f4 | ⟨f4, f5⟩
    · exact va_get (D := D) (ci := t - 1) (v := v) (C := C) (T := T) (N := N) hx hb hts hin hown hK.1 hP 0 rfl hc k f3 (hts _ (gl_in f4 rfl)) (fun _ h9 => h9) hv hd (kk H locs cells slots hR hl)
    · exact va_get (D := D) (ci := t - 1) (v := v) (C := C) (T := T) (N := N) hx hb hts hin hown hK.1 hP 0 rfl hc k f3 (hts _ (gl_in f4 rfl)) (u_same (hts _ (gl_in f5 rfl))) hv hd (kk H locs cells slots hR hl)
theorem pvk_ok {kd : Nat} {v : Value} {ty : FieldType} (h1 : pvk kd v) (h2 : kd_ok kd (some ty) = true) : narrow ty v = v ∧ fits ty v = true := by
  unfold kd_ok at h2
  split at h2 <;> first | (cases h2; done) | skip
  all_goals (rename_i e1; cases e1)
  all_goals (unfold pvk at h1; cases v <;> first | exact h1.elim | skip)
  all_goals first | exact ⟨rfl, rfl⟩ | (rcases h1 with h1 | h1 <;> subst h1 <;> exact ⟨by decide, by decide⟩)
theorem J_put {h : AH} {a t k w kd idx pc : Nat} {vs rest : List Value} {v : Value} {ls : Array Slot} {ini : Bool} (C : Cx p R s m args c D tys H0 LC LS gc cc nL own h0 dd) (hini : ini = true → meth.name = "<init>") (hat : at_ h a t vs) (hk : k < vs.length) (hpv : pvk kd v) (hf : fld_ok own idx t k w = true) (hf2 : fin_ok own ini t k kd = true) (hd : decode cc pc = .ok (.putfield idx, 3))
    (kk : J p l e R s m args below meth c D vwc tys H0 LC LS Q (ah_set h a (t, vs.set k v)) (F0 m (pc + 3) ls rest)) : J p l e R s m args below meth c D vwc tys H0 LC LS Q h (F0 m pc ls (v :: .ref a :: rest)) := by
  obtain ⟨hx, hb, hml, hown, hts, hK, -⟩ := C
  intro H locs cells slots hR hl
  unfold fld_ok at hf
  unfold fin_ok at hf2
  cases hc : vwc[t - 1]? with
  | none => rw [hc] at hf; cases hf
  | some r =>
    obtain ⟨C, T, N⟩ := r
    rw [hc] at hf hf2
    simp only [Bool.and_eq_true, Bool.or_eq_true, Nat.ble_eq, Nat.blt_eq, decide_eq_true_eq] at hf hf2
    obtain ⟨⟨⟨f1, f2⟩, f3⟩, f4⟩ := hf
    obtain ⟨k1, k2⟩ := hf2
    obtain ⟨g1, g2, r', g3, g4, g5⟩ := ce_obj hR hat f1 f2
    cases hc.symm.trans g3
    obtain ⟨hin, hty, hnm, -⟩ := cls_spec hc
    have hap := va_apart (own := own) hts hin (tyc (C, T, N)) hty hnm hK.1 hc
    obtain ⟨cell, q1, q2, q3, q4⟩ := g5
    obtain ⟨hS, hfc, kC, hkC, hkind⟩ := hK.1.1 (t - 1) _ hc
    obtain ⟨cf, kf, fi, f, hi, hsl⟩ := hS k f3
    have hdsc := hty k f3
    rw [hdsc] at k1
    obtain ⟨n1, n2⟩ := pvk_ok hpv k1
    have hlay := hts _ (hin _ (u_in_lay f3))
    have hst := (u_facts hfc hkC (u_lays hts hin f3) hi).1
    obtain ⟨ref, hlink, hsame⟩ : ∃ ref : String, (Cond.fieldLink own idx ref (T k).2.1 (T k).2.2.1).before args s = true ∧ ∀ x, s.fieldFound? (T k).1 (T k).2.1 (T k).2.2.1 = some x → s.fieldFound? ref (T k).2.1 (T k).2.2.1 = some x := by
      rcases f4 with f4 | ⟨f4, f5⟩
      · exact ⟨_, hts _ (gl_in f4 rfl), fun _ h => h⟩
      · exact ⟨_, hts _ (gl_in f4 rfl), u_same (hts _ (gl_in f5 rfl))⟩
    have fin : ∀ H' : Heap, H'[a]? = some (cell.setSlot f.slot v) → H'.size = H.size → (∀ q : Nat, q ≠ a → H'[q]? = H[q]?) → W p l e R s m args below meth c H' (locs ++ [⟨a, f.slot⟩]) cells slots Q (F0 m (pc + 3) ls rest) := by
      intro H' e1 e2 e3
      rw [hsl] at e1 ⊢
      refine kk H' _ cells slots (hR.set g1 g2 e2 e3 (fun c' hc' => ?_) ?_) (fun q hq => ?_)
      · cases q1.symm.trans hc'
        exact ⟨_, e1, k2_slotsz _ _ _⟩
      · unfold ce_at
        rw [if_pos (show t < 100 from f2)]
        exact ⟨_, hc, by show (vs.set k v).length = _; rw [List.length_set]; exact g4, t_OB.to (V := updV (vp_V vs) k v) ⟨_, e1, q2, q3, t_set q4 hap f3 v⟩ (fun j _ => vp_updV_set hk v j)⟩
      · rcases List.mem_append.mp hq with z | z
        · exact hl q z
        · rw [List.mem_singleton.mp z]
          exact g1
    by_cases hfin : (T k).2.2.2 = true
    · have k3 : ini = true ∧ (T k).1 = own := by
        rcases k2 with k2 | k2
        · rw [hfin] at k2; cases k2
        · exact k2
      unfold u_lay at hlay
      rw [if_pos hfin] at hlay
      have hcf : m.cls = cf := by
        obtain ⟨_, _, c', _, _, _, -, -, hf', -, -, -, hown2, -⟩ := Cond.laysFinal_spec hlay
        have e1 : c' = cf := by have := hi.symm.trans hf'; simp at this; exact this.1.symm
        rw [k3.2] at hown2
        rw [← e1]; exact Option.some.inj (hown.symm.trans hown2)
      have h6 := u_fits hfc hkC hkind (Or.inr hlay) hi hdsc n1 n2
      exact W.putFinK hx hb hown hlink (hsame _ hi) hst hcf (hini k3.1) (by rw [q2]; exact h6) q1 q3 (by rw [hsl]; exact k2_hasslot (q4 k f3)) rfl rfl hd fin
    · unfold u_lay at hlay
      rw [if_neg hfin] at hlay
      have h6 := u_store hfc hkC hkind hlay hi hdsc n1 n2
      exact W.putK hx hb (f := f) ⟨hown, hlink, ⟨_, _, _, hsame _ hi⟩, hst⟩ (by rw [q2]; exact h6) q1 q3 (by rw [hsl]; exact k2_hasslot (q4 k f3)) rfl rfl hd fin
theorem J_new {h : AH} {t w idx pc : Nat} {rest : List Value} {ls : Array Slot} (C : Cx p R s m args c D tys H0 LC LS gc cc nL own h0 dd) (hf : cl_ok own idx t w = true) (r1 : 1 ≤ h.2.1) (r2 : (dfl t).length ≤ h.2.2.1) (hd : decode cc pc = .ok (.new idx, 3))
    (kk : J p l e R s m args below meth c D vwc tys H0 LC LS Q (ah_new h (t, dfl t)) (F0 m (pc + 3) ls (.ref h.1 :: rest))) : J p l e R s m args below meth c D vwc tys H0 LC LS Q h (F0 m pc ls rest) := by
  obtain ⟨hx, hb, hml, hown, hts, hK, r0, -, -, hRc, hRs⟩ := C
  intro H locs cells slots hR hl
  unfold cl_ok at hf
  cases hc : vwc[t - 1]? with
  | none => rw [hc] at hf; cases hf
  | some r =>
    rw [hc] at hf
    obtain ⟨C, T, N⟩ := r
    simp only [Bool.and_eq_true, Nat.ble_eq, Nat.blt_eq] at hf
    obtain ⟨⟨f1, f2⟩, f3⟩ := hf
    obtain ⟨hin, hty, hnm, hins, hini, hlen, hdf⟩ := cls_spec hc
    rw [show t - 1 + 1 = t by omega] at hlen hdf
    have hlen' : (dfl t).length = N := hlen
    have hKn := hK.1.1 (t - 1) _ hc
    refine J_tg r0 hR (fun z1 z2 => ?_)
    refine W.newcK hx hb hown (hts _ (gl_in f3 rfl)) (hts _ hins) (hts _ hini) rfl hd (by omega) (by show _ + N ≤ _; omega) hKn.2.1 (hR.1) fun H1 kC hkC e1 s1 o1 => ?_
    have e1' : H1[H.size]? = some (blank (D.1 (t - 1)) kC) := by rw [hR.1]; exact e1
    have hkS : (blank (D.1 (t - 1)) kC).slots.size = N := by
      obtain ⟨cC', kC', i1, i2, i3, i4⟩ := Cond.instantiable_spec (hts _ hins)
      cases hKn.2.1.symm.trans i1
      cases hkC.symm.trans i2
      simp only [blank, Array.size_map]
      exact i4.2.2
    refine kk H1 locs _ _ (hR.new (by rw [hR.1]; exact s1) e1' (fun q hq => o1 q (by rw [← hR.1]; exact hq)) (by rw [hkS]; exact hlen'.symm) ?_ r1 r2) hl
    unfold ce_at
    rw [if_pos (show t < 100 from f2)]
    exact ⟨_, hc, hlen', (u_born (tyc (C, T, N)) hts hin hKn hkC e1' hty).to hdf⟩
end SND
