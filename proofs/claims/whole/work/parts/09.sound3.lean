section SND3
variable {p : Program} {l : Launch} {e : Env} {R : Room} {s : State} {m : MethodId} {args : Array Value} {below : List Frame} {meth : Method} {c : Code}
variable {D : va_G} {tys : List (ClassId × FieldType)} {H0 : Heap} {LC LS : Nat} {gc : Nat → Nat} {cc : ByteArray} {nL : Nat} {own : String} {h0 : AH} {dd : Nat} {Q : State → Prop}
theorem in_ix {i : Int32} {n : Nat} (h1 : ¬ i < 0) (h2 : i.toNatClampNeg < n) : ¬ (i < 0 ∨ n ≤ i.toNatClampNeg) := fun z => z.elim h1 (fun z => by omega)
theorem vp_read {vs : List Value} {j : Nat} {v : Value} (h : vs[j]? = some v) : vp_V vs j = v := by
  unfold vp_V
  rw [List.getD_eq_getElem?_getD, h]
  rfl
/-- an array that is read: its class, its contents -/
theorem J_arr {h : AH} {H : Heap} {a t : Nat} {vs : List Value} (hK : KX D tys gc H0 s) (hR : Rl D vwc tys H0 LC LS h H) (ha : at_ h a t vs) (h1 : 100 ≤ t) (h2 : t < 200) :
    ∃ q : ClassId × FieldType, tys[t - 100]? = some q ∧ aks[t - 100]? = some q.2 ∧ H[a]? = some (arrV q.1 vs.length (vp_V vs)) ∧ s.isArrayOf (arrV q.1 vs.length (vp_V vs)) q.2 ∧ va_RA s q.1 q.2 := by
  obtain ⟨-, -, q, g1, g2⟩ := ce_arr hR ha h1 h2
  exact ⟨q, g1, aks_at hK.2.1 g1, g2, (hK.1.2 _ _ g1).1 _ _, (hK.1.2 _ _ g1).2⟩
/-- a place of an array is written -/
theorem J_wr {h : AH} {H H1 : Heap} {a t j : Nat} {vs : List Value} {v : Value} {locs : List Loc} {q : ClassId × FieldType} (hR : Rl D vwc tys H0 LC LS h H) (ha : at_ h a t vs) (h1 : 100 ≤ t) (h2 : t < 200) (hj : j < vs.length) (hq : tys[t - 100]? = some q) (hl : ∀ x ∈ locs, H0.size ≤ x.base)
    (e1 : H1[a]? = some ((arrV q.1 vs.length (vp_V vs)).setSlot j v)) (e2 : H1.size = H.size) (e3 : ∀ x : Nat, x ≠ a → H1[x]? = H[x]?) : Rl D vwc tys H0 LC LS (ah_set h a (t, vs.set j v)) H1 ∧ ∀ x ∈ locs ++ [(⟨a, j⟩ : Loc)], H0.size ≤ x.base := by
  obtain ⟨g1, g2, q', g3, g4⟩ := ce_arr hR ha h1 h2
  cases hq.symm.trans g3
  have g1 := g1 (fun z => by rw [z] at hj; exact absurd hj (Nat.not_lt_zero _))
  rw [arrV_store] at e1
  refine ⟨hR.set g1 g2 e2 e3 (fun c' hc' => ?_) ?_, fun x hx => ?_⟩
  · cases g4.symm.trans hc'
    exact ⟨_, e1, by rw [arrV_size, arrV_size]⟩
  · unfold ce_at
    rw [if_neg (show ¬ t < 100 by omega), if_pos (show t < 200 from h2)]
    refine ⟨q, hq, e1.trans ?_⟩
    show some (arrV q.1 vs.length (updV (vp_V vs) j v)) = some (arrV q.1 (vs.set j v).length (vp_V (vs.set j v)))
    rw [List.length_set]
    congr 2
    funext z
    exact vp_updV_set hj v z
  · rcases List.mem_append.mp hx with z | z
    · exact hl x z
    · rw [List.mem_singleton.mp z]
      exact g1
/-- the script -/
theorem J_scr {h : AH} {H : Heap} {vs : List Value} (hK : KX D tys gc H0 s) (hR : Rl D vwc tys H0 LC LS h H) (ha : at_ h (gc 2) 200 vs) : ∃ scr : Cell, H[gc 2]? = some scr ∧ s.isArrayOf scr .int ∧ scr.vm ≠ .unknown ∧ scr.slots = vs.toArray := by
  obtain ⟨-, -, -, -, -, -, ⟨scr, k1, k2, k3⟩, -⟩ := hK
  obtain ⟨-, -, -, -, h5, h6⟩ := hR
  have h7 := (h6 (gc 2) (by rw [show h.2.2.2 (gc 2) = (200, vs) from ha]; show (200 : Nat) ≠ 0; decide)).2
  rw [show h.2.2.2 (gc 2) = (200, vs) from ha] at h7
  unfold ce_at at h7
  rw [if_neg (show ¬ (200 : Nat) < 100 by decide), if_neg (show ¬ (200 : Nat) < 200 by decide)] at h7
  obtain ⟨scr', g1, g2⟩ := h7
  have e : H[gc 2]? = some scr := (h5 _ (Array.getElem?_eq_some_iff.mp k1).1).trans k1
  cases e.symm.trans g1
  exact ⟨scr, e, k2, k3, g2 rfl⟩
theorem J_alen {h : AH} {a t pc : Nat} {vs rest : List Value} {ls : Array Slot} (C : Cx p R s m args c D tys H0 LC LS gc cc nL own h0 dd) (hat : at_ h a t vs) (ht : (100 ≤ t ∧ t < 200) ∨ (t = 200 ∧ a = gc 2) ∨ (t = 201 ∧ a = gc 1 ∧ vs = [])) (hd : decode cc pc = .ok (.arraylength, 1))
    (kk : J p l e R s m args below meth c D vwc tys H0 LC LS Q h (F0 m (pc + 1) ls (.int (Int32.ofNat vs.length) :: rest))) : J p l e R s m args below meth c D vwc tys H0 LC LS Q h (F0 m pc ls (.ref a :: rest)) := by
  obtain ⟨hx, hb, hml, hown, hts, hK, -⟩ := C
  intro H locs cells slots hR hl
  rcases ht with ⟨h1, h2⟩ | ⟨rfl, rfl⟩ | ⟨rfl, rfl, rfl⟩
  · obtain ⟨q, q1, q2, q3, q4, q5⟩ := J_arr hK hR hat h1 h2
    exact W.alen hx hb q3 q4 (by rw [arrV_size]) rfl rfl hd (kk H locs cells slots hR hl)
  · obtain ⟨scr, q1, q2, q3, q4⟩ := J_scr hK hR hat
    exact W.alen hx hb q1 q2 (by rw [q4]; rfl) rfl rfl hd (kk H locs cells slots hR hl)
  · obtain ⟨-, -, -, -, -, -, -, cl0, k1, k2, k3⟩ := hK
    have e : H[gc 1]? = some cl0 := (hR.2.2.2.2.1 _ (Array.getElem?_eq_some_iff.mp k1).1).trans k1
    exact W.alen hx hb e k2 k3 rfl rfl hd (kk H locs cells slots hR hl)
theorem J_iald {h : AH} {a t pc : Nat} {i x : Int32} {vs rest : List Value} {ls : Array Slot} (C : Cx p R s m args c D tys H0 LC LS gc cc nL own h0 dd) (hat : at_ h a t vs) (ht : t = 104 ∨ (t = 200 ∧ a = gc 2)) (hi : ¬ i < 0) (hv : vs[i.toNatClampNeg]? = some (.int x)) (hd : decode cc pc = .ok (.iaload, 1))
    (kk : J p l e R s m args below meth c D vwc tys H0 LC LS Q h (F0 m (pc + 1) ls (.int x :: rest))) : J p l e R s m args below meth c D vwc tys H0 LC LS Q h (F0 m pc ls (.int i :: .ref a :: rest)) := by
  obtain ⟨hx, hb, hml, hown, hts, hK, -⟩ := C
  intro H locs cells slots hR hl
  have hlt := (List.getElem?_eq_some_iff.mp hv).1
  rcases ht with rfl | ⟨rfl, rfl⟩
  · obtain ⟨q, q1, q2, q3, q4, q5⟩ := J_arr hK hR hat (by decide) (by decide)
    have hq : q.2 = .int := (Option.some.inj (show some FieldType.int = some q.2 from q2)).symm
    rw [hq] at q4
    exact W.iald (v := .int x) hx hb q3 q4 (fun z => by cases z) (by rw [arrV_size]; exact in_ix hi hlt) (by rw [arrV_read _ _ hlt, vp_read hv]) rfl rfl hd (kk H locs cells slots hR hl)
  · obtain ⟨scr, q1, q2, q3, q4⟩ := J_scr hK hR hat
    exact W.iald (v := .int x) hx hb q1 q2 q3 (by rw [q4]; exact in_ix hi (by simpa using hlt)) (by rw [q4]; simpa using hv) rfl rfl hd (kk H locs cells slots hR hl)
theorem J_zald {h : AH} {a pc : Nat} {i x : Int32} {vs rest : List Value} {ls : Array Slot} (C : Cx p R s m args c D tys H0 LC LS gc cc nL own h0 dd) (hat : at_ h a 105 vs) (hi : ¬ i < 0) (hv : vs[i.toNatClampNeg]? = some (.int x)) (hd : decode cc pc = .ok (.baload, 1))
    (kk : J p l e R s m args below meth c D vwc tys H0 LC LS Q h (F0 m (pc + 1) ls (.int x :: rest))) : J p l e R s m args below meth c D vwc tys H0 LC LS Q h (F0 m pc ls (.int i :: .ref a :: rest)) := by
  obtain ⟨hx, hb, hml, hown, hts, hK, -⟩ := C
  intro H locs cells slots hR hl
  have hlt := (List.getElem?_eq_some_iff.mp hv).1
  obtain ⟨q, q1, q2, q3, q4, q5⟩ := J_arr hK hR hat (by decide) (by decide)
  have hq : q.2 = .boolean := (Option.some.inj (show some FieldType.boolean = some q.2 from q2)).symm
  rw [hq] at q4
  exact W.zald (v := .int x) hx hb q3 q4 (fun z => by cases z) (by rw [arrV_size]; exact in_ix hi hlt) (by rw [arrV_read _ _ hlt, vp_read hv]) rfl rfl hd (kk H locs cells slots hR hl)
theorem J_iast {h : AH} {a pc : Nat} {i x : Int32} {vs rest : List Value} {ls : Array Slot} (C : Cx p R s m args c D tys H0 LC LS gc cc nL own h0 dd) (hat : at_ h a 104 vs) (hi : ¬ i < 0) (hlt : i.toNatClampNeg < vs.length) (hd : decode cc pc = .ok (.iastore, 1))
    (kk : J p l e R s m args below meth c D vwc tys H0 LC LS Q (ah_set h a (104, vs.set i.toNatClampNeg (.int x))) (F0 m (pc + 1) ls rest)) : J p l e R s m args below meth c D vwc tys H0 LC LS Q h (F0 m pc ls (.int x :: .int i :: .ref a :: rest)) := by
  obtain ⟨hx, hb, hml, hown, hts, hK, -⟩ := C
  intro H locs cells slots hR hl
  obtain ⟨q, q1, q2, q3, q4, q5⟩ := J_arr hK hR hat (by decide) (by decide)
  have hq : q.2 = .int := (Option.some.inj (show some FieldType.int = some q.2 from q2)).symm
  rw [hq] at q4
  refine W.iast hx hb q3 q4 (fun z => by cases z) (by rw [arrV_size]; exact in_ix hi hlt) rfl rfl hd fun H1 e1 e2 e3 => ?_
  obtain ⟨w1, w2⟩ := J_wr hR hat (by decide) (by decide) hlt q1 hl e1 e2 e3
  exact kk H1 _ cells slots w1 w2
theorem J_zast {h : AH} {a pc : Nat} {i x : Int32} {vs rest : List Value} {ls : Array Slot} (C : Cx p R s m args c D tys H0 LC LS gc cc nL own h0 dd) (hat : at_ h a 105 vs) (hi : ¬ i < 0) (hlt : i.toNatClampNeg < vs.length) (hx01 : x = 0 ∨ x = 1) (hd : decode cc pc = .ok (.bastore, 1))
    (kk : J p l e R s m args below meth c D vwc tys H0 LC LS Q (ah_set h a (105, vs.set i.toNatClampNeg (.int x))) (F0 m (pc + 1) ls rest)) : J p l e R s m args below meth c D vwc tys H0 LC LS Q h (F0 m pc ls (.int x :: .int i :: .ref a :: rest)) := by
  obtain ⟨hx, hb, hml, hown, hts, hK, -⟩ := C
  intro H locs cells slots hR hl
  obtain ⟨q, q1, q2, q3, q4, q5⟩ := J_arr hK hR hat (by decide) (by decide)
  have hq : q.2 = .boolean := (Option.some.inj (show some FieldType.boolean = some q.2 from q2)).symm
  rw [hq] at q4
  refine W.zast hx hb q3 q4 (fun z => by cases z) (by rw [arrV_size]; exact in_ix hi hlt) rfl rfl hd fun H1 e1 e2 e3 => ?_
  have hn : narrow .boolean (.int x) = .int x := by rcases hx01 with z | z <;> subst z <;> decide
  rw [hn] at e1
  obtain ⟨w1, w2⟩ := J_wr hR hat (by decide) (by decide) hlt q1 hl e1 e2 e3
  exact kk H1 _ cells slots w1 w2
theorem isRA_lt {t : Nat} (h : isRA t = true) : 100 ≤ t ∧ t < 104 := by
  unfold isRA at h
  split at h <;> first | omega | cases h
/-- the component of an array of references: its class -/
theorem aks_ref {t : Nat} {ty : FieldType} (ht : 100 ≤ t ∧ t < 104) (h : aks[t - 100]? = some ty) : ∃ C : String, ty = .object C := by
  obtain ⟨k, rfl⟩ : ∃ k, t = 100 + k := ⟨t - 100, by omega⟩
  rw [show 100 + k - 100 = k by omega] at h
  have hk : k = 0 ∨ k = 1 ∨ k = 2 ∨ k = 3 := by omega
  rcases hk with rfl | rfl | rfl | rfl <;> exact ⟨_, (Option.some.inj h).symm⟩
theorem J_aald {h : AH} {a t pc b : Nat} {i : Int32} {vs rest : List Value} {ls : Array Slot} (C : Cx p R s m args c D tys H0 LC LS gc cc nL own h0 dd) (hat : at_ h a t vs) (ht : isRA t = true) (hi : ¬ i < 0) (hv : vs[i.toNatClampNeg]? = some (.ref b)) (hd : decode cc pc = .ok (.aaload, 1))
    (kk : J p l e R s m args below meth c D vwc tys H0 LC LS Q h (F0 m (pc + 1) ls (.ref b :: rest))) : J p l e R s m args below meth c D vwc tys H0 LC LS Q h (F0 m pc ls (.int i :: .ref a :: rest)) := by
  obtain ⟨hx, hb, hml, hown, hts, hK, -⟩ := C
  intro H locs cells slots hR hl
  have hlt := (List.getElem?_eq_some_iff.mp hv).1
  have htt := isRA_lt ht
  obtain ⟨q, q1, q2, q3, q4, q5⟩ := J_arr hK hR hat htt.1 (by omega)
  have hty : q.2.isReference = true := by
    obtain ⟨C, hC⟩ := aks_ref htt q2
    rw [hC]
    rfl
  exact W.aald (v := .ref b) hx hb q3 q4 hty (fun z => by cases z) (by rw [arrV_size]; exact in_ix hi hlt) (by rw [arrV_read _ _ hlt, vp_read hv]) rfl rfl hd (kk H locs cells slots hR hl)
end SND3
