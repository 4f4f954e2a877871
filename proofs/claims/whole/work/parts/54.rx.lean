/-! the lists' methods, over contents -/
theorem lt_B {k : Nat} (h : isB k) : k < 22 := by unfold isB at h; omega
theorem lt_C {k : Nat} (h : isC k) : k < 22 := by unfold isC at h; omega
theorem lt_R {k : Nat} (h : isR k) : k < 22 := by unfold isR at h; omega
theorem lt_D {k : Nat} (h : isD k) : k < 22 := by unfold isD at h; omega
theorem RX.xB {gc : Nat → Nat} {h : AH} {A : Nat → Nat} {I : Nat → Int32} {xs ys : Nat → List Nat} {v : Mu} {F : Nat} {k : Nat} (hR : RX gc h A I xs ys v F) (hk : isB k) : ys k = xs k := hR.2.2.2 k (by unfold isB at hk; omega)
theorem RX.xR {gc : Nat → Nat} {h : AH} {A : Nat → Nat} {I : Nat → Int32} {xs ys : Nat → List Nat} {v : Mu} {F : Nat} {k : Nat} (hR : RX gc h A I xs ys v F) (hk : isR k) : ys k = xs k := hR.2.2.2 k (by unfold isR at hk; omega)
theorem RX.xD {gc : Nat → Nat} {h : AH} {A : Nat → Nat} {I : Nat → Int32} {xs ys : Nat → List Nat} {v : Mu} {F : Nat} {k : Nat} (hR : RX gc h A I xs ys v F) (hk : isD k) : ys k = xs k := hR.2.2.2 k (by unfold isD at hk; omega)
theorem RX.xL {gc : Nat → Nat} {h : AH} {A : Nat → Nat} {I : Nat → Int32} {xs ys : Nat → List Nat} {v : Mu} {F : Nat} {k : Nat} (hR : RX gc h A I xs ys v F) (hk : k < 8) : ys k = xs k := hR.2.2.2 k (by omega)
theorem nodup_er {l : List Nat} (h : l.Nodup) (j : Nat) : (l.eraseIdx j).Nodup := List.Pairwise.sublist (List.eraseIdx_sublist l j) h
theorem er_not {a : Nat} : ∀ {l : List Nat} {j : Nat}, l.Nodup → l[j]? = some a → a ∉ l.eraseIdx j := by
  intro l
  induction l with
  | nil => intro j _ h; cases h
  | cons b l ih =>
    intro j hn h
    rw [List.nodup_cons] at hn
    cases j with
    | zero =>
      have : b = a := Option.some.inj h
      subst this
      exact hn.1
    | succ j =>
      have h : l[j]? = some a := h
      show a ∉ b :: l.eraseIdx j
      intro hm
      rcases List.mem_cons.mp hm with rfl | hm
      · exact hn.1 (List.mem_of_getElem? h)
      · exact ih hn.2 h hm
theorem nodup_app {l : List Nat} {a : Nat} (h : l.Nodup) (ha : a ∉ l) : (l ++ [a]).Nodup := by
  refine List.pairwise_append.mpr ⟨h, List.pairwise_singleton _ _, fun x hx y hy => ?_⟩
  rw [List.mem_singleton.mp hy]
  intro z
  exact ha (z ▸ hx)
theorem nodup_ins {l : List Nat} {a i : Nat} (h : l.Nodup) (ha : a ∉ l) : (ins l i a).Nodup := by
  unfold ins
  have h2 : (l.take i ++ l.drop i).Nodup := by rw [List.take_append_drop]; exact h
  obtain ⟨g1, g2, g3⟩ := List.pairwise_append.mp h2
  refine List.pairwise_append.mpr ⟨g1, List.pairwise_cons.mpr ⟨fun y hy z => ?_, g2⟩, fun x hx y hy => ?_⟩
  · exact ha (z ▸ List.mem_of_mem_drop hy)
  · rcases List.mem_cons.mp hy with rfl | hy
    · intro z
      exact ha (z ▸ List.mem_of_mem_take hx)
    · exact g3 x hx y hy
theorem RX.agr {xs ys : Nat → List Nat} {k : Nat} {as : List Nat} (h : ∀ j, ¬ (14 ≤ j ∧ j < 18) → ys j = xs j) : ∀ j, ¬ (14 ≤ j ∧ j < 18) → va_up ys k as j = va_up xs k as j := fun j hj => by
  by_cases hz : j = k
  · subst hz; rw [va_up_self, va_up_self]
  · rw [va_up_ne _ _ hz, va_up_ne _ _ hz, h j hj]
/-- nobody has it -/
def free (ys : Nat → List Nat) (a : Nat) : Prop := ∀ l, isC l → a ∉ ys l
theorem ND.frm {ys : Nat → List Nat} {k a : Nat} {as : List Nat} (hf : free ys a) (ha : a ∉ as) : free (va_up ys k as) a := fun l hl => by
  by_cases hz : l = k
  · subst hz; rw [va_up_self]; exact ha
  · rw [va_up_ne _ _ hz]; exact hf l hl
theorem ND.nC {ys : Nat → List Nat} (hn : ND ys) {k : Nat} {as : List Nat} (hk : ¬ isC k) : ND (va_up ys k as) := hn.up (fun z => absurd z hk) (fun z => absurd z hk)
theorem ND.er {ys : Nat → List Nat} (hn : ND ys) {k j a : Nat} (hk : isC k) (ha : (ys k)[j]? = some a) : ND (va_up ys k ((ys k).eraseIdx j)) ∧ free (va_up ys k ((ys k).eraseIdx j)) a := by
  refine ⟨hn.up (fun z => nodup_er (hn.1 k hk) j) (fun _ b l hb hl hz hm => hz (hn.2 l k b hl hk hm (List.mem_of_mem_eraseIdx hb))), fun l hl => ?_⟩
  by_cases hz : l = k
  · subst hz; rw [va_up_self]; exact er_not (hn.1 l hl) ha
  · rw [va_up_ne _ _ hz]
    intro hm
    exact hz (hn.2 l k a hl hk hm (List.mem_of_getElem? ha))
theorem ND.app {ys : Nat → List Nat} (hn : ND ys) {k a : Nat} (hk : isC k) (hf : free ys a) : ND (va_up ys k (ys k ++ [a])) := by
  refine hn.up (fun z => nodup_app (hn.1 k hk) (hf k hk)) (fun _ b l hb hl hz hm => ?_)
  rcases List.mem_append.mp hb with hb | hb
  · exact hz (hn.2 l k b hl hk hm hb)
  · rw [List.mem_singleton.mp hb] at hm
    exact hf l hl hm
theorem ND.ins {ys : Nat → List Nat} (hn : ND ys) {k a i : Nat} (hk : isC k) (hf : free ys a) : ND (va_up ys k (ins (ys k) i a)) := by
  refine hn.up (fun z => nodup_ins (hn.1 k hk) (hf k hk)) (fun _ b l hb hl hz hm => ?_)
  rcases mem_ins hb with rfl | hb
  · exact hf l hl hm
  · exact hz (hn.2 l k b hl hk hm hb)
theorem ND.clr {ys : Nat → List Nat} (hn : ND ys) {k : Nat} : ND (va_up ys k []) := hn.up (fun _ => List.nodup_nil) (fun _ a l ha => by cases ha)
theorem RX.lenB {gc : Nat → Nat} {h : AH} {A : Nat → Nat} {I : Nat → Int32} {xs ys : Nat → List Nat} {v : Mu} {F : Nat} {k : Nat} (hR : RX gc h A I xs ys v F) (hk : isB k) (hx : ys k = xs k) : (xs k).length = (uB v k).length := by
  rw [← hx]
  exact (hR.2.1.B hk).len
theorem rx_sizeB {gc : Nat → Nat} {d : Nat} {h : AH} {A : Nat → Nat} {I : Nat → Int32} {xs ys : Nat → List Nat} {v : Mu} {F : Nat} {k : Nat} (hR : RX gc h A I xs ys v F) (hk : isB k) (hx : ys k = xs k) : WP gc (d + 1) 17 [.ref (A (40 + k))] h (fun r h' => r = some (.int (nI (uB v k).length)) ∧ h' = h) := by
  rw [← hR.lenB hk hx]
  exact rs_size hR.1 (lt_B hk)
theorem rx_getB {gc : Nat → Nat} {d : Nat} {h : AH} {A : Nat → Nat} {I : Nat → Int32} {xs ys : Nat → List Nat} {v : Mu} {F : Nat} {k j : Nat} (hR : RX gc h A I xs ys v F) (hk : isB k) (hx : ys k = xs k) (hj : j < (uB v k).length) : WP gc (d + 3) 18 [.ref (A (40 + k)), .int (nI j)] h (fun r h' => ∃ a, r = some (.ref a) ∧ h' = h ∧ (ys k)[j]? = some a ∧ ((BdAt h) a (uB v k)[j])) := by
  have ha := hR.2.1.B hk
  have hl := ha.len
  have hj' : j < (xs k).length := by rw [← hx, hl]; exact hj
  have hj2 : j < (ys k).length := by rw [hl]; exact hj
  refine WP_post (rs_get hR.1 (lt_B hk) hj') ?_
  rintro r h' ⟨rfl, rfl⟩
  have e : (ys k)[j] = (xs k)[j] := by simp only [hx]
  refine ⟨_, rfl, rfl, ?_, ?_⟩
  · rw [← e, List.getElem?_eq_getElem hj2]
  · rw [← e]
    exact ha.get j hj2 hj
theorem rx_clrB {gc : Nat → Nat} {d : Nat} {h : AH} {A : Nat → Nat} {I : Nat → Int32} {xs ys : Nat → List Nat} {v : Mu} {F : Nat} {k : Nat} (hR : RX gc h A I xs ys v F) (hk : isB k) : WP gc (d + 1) 38 [.ref (A (40 + k))] h (fun r h' => r = none ∧ RX gc h' A I (va_up xs k []) (va_up ys k []) (upB v k []) F ∧ KL h h') := by
  refine WP_post (rs_clear hR.1 (lt_B hk)) ?_
  rintro r h' ⟨rfl, g1, g2, -⟩
  exact ⟨rfl, ⟨g1, (hR.2.1.ko g2.ko).upB hk trivial, hR.2.2.1.clr, RX.agr hR.2.2.2⟩, g2⟩
theorem rx_rmB {gc : Nat → Nat} {d : Nat} {h : AH} {A : Nat → Nat} {I : Nat → Int32} {xs ys : Nat → List Nat} {v : Mu} {F : Nat} {k j : Nat} (hR : RX gc h A I xs ys v F) (hk : isB k) (hx : ys k = xs k) (hj : j < (uB v k).length) : WP gc (d + 3) 32 [.ref (A (40 + k)), .int (nI j)] h (fun r h' => ∃ a, r = some (.ref a) ∧ RX gc h' A I (va_up xs k ((xs k).eraseIdx j)) (va_up ys k ((ys k).eraseIdx j)) (upB v k ((uB v k).eraseIdx j)) F ∧ KL h h' ∧ (ys k)[j]? = some a ∧ ((BdAt h') a (uB v k)[j])) := by
  have ha := hR.2.1.B hk
  have hl := ha.len
  have hj' : j < (xs k).length := by rw [← hx, hl]; exact hj
  have hj2 : j < (ys k).length := by rw [hl]; exact hj
  refine WP_post (rs_remove hR.1 (lt_B hk) hj') ?_
  rintro r h' ⟨rfl, g1, g2, -⟩
  have e : (ys k)[j] = (xs k)[j] := by simp only [hx]
  have e2 : (ys k)[j]? = some (xs k)[j] := by rw [← e, List.getElem?_eq_getElem hj2]
  have hc := hR.2.1.ko g2.ko
  refine ⟨_, rfl, ⟨g1, hc.upB hk ((hc.B hk).erase j), ?_, ?_⟩, g2, e2, ?_⟩
  · by_cases hz : isC k
    · exact (hR.2.2.1.er hz e2).1
    · exact hR.2.2.1.nC hz
  · rw [hx]; exact RX.agr hR.2.2.2
  · rw [← e]
    exact (hc.B hk).get j hj2 hj
theorem rx_addB {gc : Nat → Nat} {d : Nat} {h : AH} {A : Nat → Nat} {I : Nat → Int32} {xs ys : Nat → List Nat} {v : Mu} {F : Nat} {k a : Nat} {x : Bnd} (hR : RX gc h A I xs ys v F) (hk : isB k) (hx : ys k = xs k) (hl : (uB v k).length ≤ (if k = 1 then 449 else 65)) (ha : (BdAt h) a x) (hf : isC k → free ys a) : WP gc (d + 6) 23 [.ref (A (40 + k)), .ref a] h (fun r h' => r = some (.int 1) ∧ RX gc h' A I (va_up xs k (xs k ++ [a])) (va_up ys k (ys k ++ [a])) (upB v k (uB v k ++ [x])) F ∧ KL h h') := by
  obtain ⟨ws, hw⟩ := ha.tag
  refine WP_post (rs_add hR.1 (lt_B hk) (by rw [hR.lenB hk hx]; exact hl) (by omega) (by omega) hw rfl) ?_
  rintro r h' ⟨rfl, g1, g2, -⟩
  have hc := hR.2.1.ko g2.ko
  refine ⟨rfl, ⟨g1, hc.upB hk ((hc.B hk).one (ha.ko g2.ko)), ?_, ?_⟩, g2⟩
  · by_cases hz : isC k
    · exact hR.2.2.1.app hz (hf hz)
    · exact hR.2.2.1.nC hz
  · rw [hx]; exact RX.agr hR.2.2.2
theorem RX.lenC {gc : Nat → Nat} {h : AH} {A : Nat → Nat} {I : Nat → Int32} {xs ys : Nat → List Nat} {v : Mu} {F : Nat} {k : Nat} (hR : RX gc h A I xs ys v F) (hk : isC k) (hx : ys k = xs k) : (xs k).length = (uC v k).length := by
  rw [← hx]
  exact (hR.2.1.C hk).len
theorem rx_sizeC {gc : Nat → Nat} {d : Nat} {h : AH} {A : Nat → Nat} {I : Nat → Int32} {xs ys : Nat → List Nat} {v : Mu} {F : Nat} {k : Nat} (hR : RX gc h A I xs ys v F) (hk : isC k) (hx : ys k = xs k) : WP gc (d + 1) 17 [.ref (A (40 + k))] h (fun r h' => r = some (.int (nI (uC v k).length)) ∧ h' = h) := by
  rw [← hR.lenC hk hx]
  exact rs_size hR.1 (lt_C hk)
theorem rx_getC {gc : Nat → Nat} {d : Nat} {h : AH} {A : Nat → Nat} {I : Nat → Int32} {xs ys : Nat → List Nat} {v : Mu} {F : Nat} {k j : Nat} (hR : RX gc h A I xs ys v F) (hk : isC k) (hx : ys k = xs k) (hj : j < (uC v k).length) : WP gc (d + 3) 18 [.ref (A (40 + k)), .int (nI j)] h (fun r h' => ∃ a, r = some (.ref a) ∧ h' = h ∧ (ys k)[j]? = some a ∧ ((CpAt k h) a (uC v k)[j])) := by
  have ha := hR.2.1.C hk
  have hl := ha.len
  have hj' : j < (xs k).length := by rw [← hx, hl]; exact hj
  have hj2 : j < (ys k).length := by rw [hl]; exact hj
  refine WP_post (rs_get hR.1 (lt_C hk) hj') ?_
  rintro r h' ⟨rfl, rfl⟩
  have e : (ys k)[j] = (xs k)[j] := by simp only [hx]
  refine ⟨_, rfl, rfl, ?_, ?_⟩
  · rw [← e, List.getElem?_eq_getElem hj2]
  · rw [← e]
    exact ha.get j hj2 hj
theorem rx_clrC {gc : Nat → Nat} {d : Nat} {h : AH} {A : Nat → Nat} {I : Nat → Int32} {xs ys : Nat → List Nat} {v : Mu} {F : Nat} {k : Nat} (hR : RX gc h A I xs ys v F) (hk : isC k) : WP gc (d + 1) 38 [.ref (A (40 + k))] h (fun r h' => r = none ∧ RX gc h' A I (va_up xs k []) (va_up ys k []) (upC v k []) F ∧ KL h h') := by
  refine WP_post (rs_clear hR.1 (lt_C hk)) ?_
  rintro r h' ⟨rfl, g1, g2, -⟩
  exact ⟨rfl, ⟨g1, (hR.2.1.ko g2.ko).upC hk trivial, hR.2.2.1.clr, RX.agr hR.2.2.2⟩, g2⟩
theorem rx_rmC {gc : Nat → Nat} {d : Nat} {h : AH} {A : Nat → Nat} {I : Nat → Int32} {xs ys : Nat → List Nat} {v : Mu} {F : Nat} {k j : Nat} (hR : RX gc h A I xs ys v F) (hk : isC k) (hx : ys k = xs k) (hj : j < (uC v k).length) : WP gc (d + 3) 32 [.ref (A (40 + k)), .int (nI j)] h (fun r h' => ∃ a, r = some (.ref a) ∧ RX gc h' A I (va_up xs k ((xs k).eraseIdx j)) (va_up ys k ((ys k).eraseIdx j)) (upC v k ((uC v k).eraseIdx j)) F ∧ KL h h' ∧ (ys k)[j]? = some a ∧ ((CpAt k h') a (uC v k)[j])) := by
  have ha := hR.2.1.C hk
  have hl := ha.len
  have hj' : j < (xs k).length := by rw [← hx, hl]; exact hj
  have hj2 : j < (ys k).length := by rw [hl]; exact hj
  refine WP_post (rs_remove hR.1 (lt_C hk) hj') ?_
  rintro r h' ⟨rfl, g1, g2, -⟩
  have e : (ys k)[j] = (xs k)[j] := by simp only [hx]
  have e2 : (ys k)[j]? = some (xs k)[j] := by rw [← e, List.getElem?_eq_getElem hj2]
  have hc := hR.2.1.ko g2.ko
  refine ⟨_, rfl, ⟨g1, hc.upC hk ((hc.C hk).erase j), ?_, ?_⟩, g2, e2, ?_⟩
  · by_cases hz : isC k
    · exact (hR.2.2.1.er hz e2).1
    · exact hR.2.2.1.nC hz
  · rw [hx]; exact RX.agr hR.2.2.2
  · rw [← e]
    exact (hc.C hk).get j hj2 hj
theorem rx_addC {gc : Nat → Nat} {d : Nat} {h : AH} {A : Nat → Nat} {I : Nat → Int32} {xs ys : Nat → List Nat} {v : Mu} {F : Nat} {k a : Nat} {x : Rec} (hR : RX gc h A I xs ys v F) (hk : isC k) (hx : ys k = xs k) (hl : (uC v k).length ≤ (if k = 1 then 449 else 65)) (ha : (CpAt k h) a x) (hf : isC k → free ys a) : WP gc (d + 6) 23 [.ref (A (40 + k)), .ref a] h (fun r h' => r = some (.int 1) ∧ RX gc h' A I (va_up xs k (xs k ++ [a])) (va_up ys k (ys k ++ [a])) (upC v k (uC v k ++ [x])) F ∧ KL h h') := by
  obtain ⟨ws, hw⟩ := ha.tag
  refine WP_post (rs_add hR.1 (lt_C hk) (by rw [hR.lenC hk hx]; exact hl) (by omega) (by omega) hw rfl) ?_
  rintro r h' ⟨rfl, g1, g2, -⟩
  have hc := hR.2.1.ko g2.ko
  refine ⟨rfl, ⟨g1, hc.upC hk ((hc.C hk).one (ha.ko g2.ko)), ?_, ?_⟩, g2⟩
  · by_cases hz : isC k
    · exact hR.2.2.1.app hz (hf hz)
    · exact hR.2.2.1.nC hz
  · rw [hx]; exact RX.agr hR.2.2.2
theorem RX.lenR {gc : Nat → Nat} {h : AH} {A : Nat → Nat} {I : Nat → Int32} {xs ys : Nat → List Nat} {v : Mu} {F : Nat} {k : Nat} (hR : RX gc h A I xs ys v F) (hk : isR k) (hx : ys k = xs k) : (xs k).length = (uR v k).length := by
  rw [← hx]
  exact (hR.2.1.R hk).len
theorem rx_sizeR {gc : Nat → Nat} {d : Nat} {h : AH} {A : Nat → Nat} {I : Nat → Int32} {xs ys : Nat → List Nat} {v : Mu} {F : Nat} {k : Nat} (hR : RX gc h A I xs ys v F) (hk : isR k) (hx : ys k = xs k) : WP gc (d + 1) 17 [.ref (A (40 + k))] h (fun r h' => r = some (.int (nI (uR v k).length)) ∧ h' = h) := by
  rw [← hR.lenR hk hx]
  exact rs_size hR.1 (lt_R hk)
theorem rx_getR {gc : Nat → Nat} {d : Nat} {h : AH} {A : Nat → Nat} {I : Nat → Int32} {xs ys : Nat → List Nat} {v : Mu} {F : Nat} {k j : Nat} (hR : RX gc h A I xs ys v F) (hk : isR k) (hx : ys k = xs k) (hj : j < (uR v k).length) : WP gc (d + 3) 18 [.ref (A (40 + k)), .int (nI j)] h (fun r h' => ∃ a, r = some (.ref a) ∧ h' = h ∧ (ys k)[j]? = some a ∧ ((CnAt h) a (uR v k)[j])) := by
  have ha := hR.2.1.R hk
  have hl := ha.len
  have hj' : j < (xs k).length := by rw [← hx, hl]; exact hj
  have hj2 : j < (ys k).length := by rw [hl]; exact hj
  refine WP_post (rs_get hR.1 (lt_R hk) hj') ?_
  rintro r h' ⟨rfl, rfl⟩
  have e : (ys k)[j] = (xs k)[j] := by simp only [hx]
  refine ⟨_, rfl, rfl, ?_, ?_⟩
  · rw [← e, List.getElem?_eq_getElem hj2]
  · rw [← e]
    exact ha.get j hj2 hj
theorem rx_clrR {gc : Nat → Nat} {d : Nat} {h : AH} {A : Nat → Nat} {I : Nat → Int32} {xs ys : Nat → List Nat} {v : Mu} {F : Nat} {k : Nat} (hR : RX gc h A I xs ys v F) (hk : isR k) : WP gc (d + 1) 38 [.ref (A (40 + k))] h (fun r h' => r = none ∧ RX gc h' A I (va_up xs k []) (va_up ys k []) (upR v k []) F ∧ KL h h') := by
  refine WP_post (rs_clear hR.1 (lt_R hk)) ?_
  rintro r h' ⟨rfl, g1, g2, -⟩
  exact ⟨rfl, ⟨g1, (hR.2.1.ko g2.ko).upR hk trivial, hR.2.2.1.clr, RX.agr hR.2.2.2⟩, g2⟩
theorem rx_rmR {gc : Nat → Nat} {d : Nat} {h : AH} {A : Nat → Nat} {I : Nat → Int32} {xs ys : Nat → List Nat} {v : Mu} {F : Nat} {k j : Nat} (hR : RX gc h A I xs ys v F) (hk : isR k) (hx : ys k = xs k) (hj : j < (uR v k).length) : WP gc (d + 3) 32 [.ref (A (40 + k)), .int (nI j)] h (fun r h' => ∃ a, r = some (.ref a) ∧ RX gc h' A I (va_up xs k ((xs k).eraseIdx j)) (va_up ys k ((ys k).eraseIdx j)) (upR v k ((uR v k).eraseIdx j)) F ∧ KL h h' ∧ (ys k)[j]? = some a ∧ ((CnAt h') a (uR v k)[j])) := by
  have ha := hR.2.1.R hk
  have hl := ha.len
  have hj' : j < (xs k).length := by rw [← hx, hl]; exact hj
  have hj2 : j < (ys k).length := by rw [hl]; exact hj
  refine WP_post (rs_remove hR.1 (lt_R hk) hj') ?_
  rintro r h' ⟨rfl, g1, g2, -⟩
  have e : (ys k)[j] = (xs k)[j] := by simp only [hx]
  have e2 : (ys k)[j]? = some (xs k)[j] := by rw [← e, List.getElem?_eq_getElem hj2]
  have hc := hR.2.1.ko g2.ko
  refine ⟨_, rfl, ⟨g1, hc.upR hk ((hc.R hk).erase j), ?_, ?_⟩, g2, e2, ?_⟩
  · by_cases hz : isC k
    · exact (hR.2.2.1.er hz e2).1
    · exact hR.2.2.1.nC hz
  · rw [hx]; exact RX.agr hR.2.2.2
  · rw [← e]
    exact (hc.R hk).get j hj2 hj
theorem rx_addR {gc : Nat → Nat} {d : Nat} {h : AH} {A : Nat → Nat} {I : Nat → Int32} {xs ys : Nat → List Nat} {v : Mu} {F : Nat} {k a : Nat} {x : Con} (hR : RX gc h A I xs ys v F) (hk : isR k) (hx : ys k = xs k) (hl : (uR v k).length ≤ (if k = 1 then 449 else 65)) (ha : (CnAt h) a x) (hf : isC k → free ys a) : WP gc (d + 6) 23 [.ref (A (40 + k)), .ref a] h (fun r h' => r = some (.int 1) ∧ RX gc h' A I (va_up xs k (xs k ++ [a])) (va_up ys k (ys k ++ [a])) (upR v k (uR v k ++ [x])) F ∧ KL h h') := by
  obtain ⟨ws, hw⟩ := ha.tag
  refine WP_post (rs_add hR.1 (lt_R hk) (by rw [hR.lenR hk hx]; exact hl) (by omega) (by omega) hw rfl) ?_
  rintro r h' ⟨rfl, g1, g2, -⟩
  have hc := hR.2.1.ko g2.ko
  refine ⟨rfl, ⟨g1, hc.upR hk ((hc.R hk).one (ha.ko g2.ko)), ?_, ?_⟩, g2⟩
  · by_cases hz : isC k
    · exact hR.2.2.1.app hz (hf hz)
    · exact hR.2.2.1.nC hz
  · rw [hx]; exact RX.agr hR.2.2.2
theorem RX.lenD {gc : Nat → Nat} {h : AH} {A : Nat → Nat} {I : Nat → Int32} {xs ys : Nat → List Nat} {v : Mu} {F : Nat} {k : Nat} (hR : RX gc h A I xs ys v F) (hk : isD k) (hx : ys k = xs k) : (xs k).length = (uD v k).length := by
  rw [← hx]
  exact (hR.2.1.D hk).len
theorem rx_sizeD {gc : Nat → Nat} {d : Nat} {h : AH} {A : Nat → Nat} {I : Nat → Int32} {xs ys : Nat → List Nat} {v : Mu} {F : Nat} {k : Nat} (hR : RX gc h A I xs ys v F) (hk : isD k) (hx : ys k = xs k) : WP gc (d + 1) 17 [.ref (A (40 + k))] h (fun r h' => r = some (.int (nI (uD v k).length)) ∧ h' = h) := by
  rw [← hR.lenD hk hx]
  exact rs_size hR.1 (lt_D hk)
theorem rx_getD {gc : Nat → Nat} {d : Nat} {h : AH} {A : Nat → Nat} {I : Nat → Int32} {xs ys : Nat → List Nat} {v : Mu} {F : Nat} {k j : Nat} (hR : RX gc h A I xs ys v F) (hk : isD k) (hx : ys k = xs k) (hj : j < (uD v k).length) : WP gc (d + 3) 18 [.ref (A (40 + k)), .int (nI j)] h (fun r h' => ∃ a, r = some (.ref a) ∧ h' = h ∧ (ys k)[j]? = some a ∧ ((DdAt h) a (uD v k)[j])) := by
  have ha := hR.2.1.D hk
  have hl := ha.len
  have hj' : j < (xs k).length := by rw [← hx, hl]; exact hj
  have hj2 : j < (ys k).length := by rw [hl]; exact hj
  refine WP_post (rs_get hR.1 (lt_D hk) hj') ?_
  rintro r h' ⟨rfl, rfl⟩
  have e : (ys k)[j] = (xs k)[j] := by simp only [hx]
  refine ⟨_, rfl, rfl, ?_, ?_⟩
  · rw [← e, List.getElem?_eq_getElem hj2]
  · rw [← e]
    exact ha.get j hj2 hj
theorem rx_clrD {gc : Nat → Nat} {d : Nat} {h : AH} {A : Nat → Nat} {I : Nat → Int32} {xs ys : Nat → List Nat} {v : Mu} {F : Nat} {k : Nat} (hR : RX gc h A I xs ys v F) (hk : isD k) : WP gc (d + 1) 38 [.ref (A (40 + k))] h (fun r h' => r = none ∧ RX gc h' A I (va_up xs k []) (va_up ys k []) (upD v k []) F ∧ KL h h') := by
  refine WP_post (rs_clear hR.1 (lt_D hk)) ?_
  rintro r h' ⟨rfl, g1, g2, -⟩
  exact ⟨rfl, ⟨g1, (hR.2.1.ko g2.ko).upD hk trivial, hR.2.2.1.clr, RX.agr hR.2.2.2⟩, g2⟩
theorem rx_rmD {gc : Nat → Nat} {d : Nat} {h : AH} {A : Nat → Nat} {I : Nat → Int32} {xs ys : Nat → List Nat} {v : Mu} {F : Nat} {k j : Nat} (hR : RX gc h A I xs ys v F) (hk : isD k) (hx : ys k = xs k) (hj : j < (uD v k).length) : WP gc (d + 3) 32 [.ref (A (40 + k)), .int (nI j)] h (fun r h' => ∃ a, r = some (.ref a) ∧ RX gc h' A I (va_up xs k ((xs k).eraseIdx j)) (va_up ys k ((ys k).eraseIdx j)) (upD v k ((uD v k).eraseIdx j)) F ∧ KL h h' ∧ (ys k)[j]? = some a ∧ ((DdAt h') a (uD v k)[j])) := by
  have ha := hR.2.1.D hk
  have hl := ha.len
  have hj' : j < (xs k).length := by rw [← hx, hl]; exact hj
  have hj2 : j < (ys k).length := by rw [hl]; exact hj
  refine WP_post (rs_remove hR.1 (lt_D hk) hj') ?_
  rintro r h' ⟨rfl, g1, g2, -⟩
  have e : (ys k)[j] = (xs k)[j] := by simp only [hx]
  have e2 : (ys k)[j]? = some (xs k)[j] := by rw [← e, List.getElem?_eq_getElem hj2]
  have hc := hR.2.1.ko g2.ko
  refine ⟨_, rfl, ⟨g1, hc.upD hk ((hc.D hk).erase j), ?_, ?_⟩, g2, e2, ?_⟩
  · by_cases hz : isC k
    · exact (hR.2.2.1.er hz e2).1
    · exact hR.2.2.1.nC hz
  · rw [hx]; exact RX.agr hR.2.2.2
  · rw [← e]
    exact (hc.D hk).get j hj2 hj
theorem rx_addD {gc : Nat → Nat} {d : Nat} {h : AH} {A : Nat → Nat} {I : Nat → Int32} {xs ys : Nat → List Nat} {v : Mu} {F : Nat} {k a : Nat} {x : Ded} (hR : RX gc h A I xs ys v F) (hk : isD k) (hx : ys k = xs k) (hl : (uD v k).length ≤ (if k = 1 then 449 else 65)) (ha : (DdAt h) a x) (hf : isC k → free ys a) : WP gc (d + 6) 23 [.ref (A (40 + k)), .ref a] h (fun r h' => r = some (.int 1) ∧ RX gc h' A I (va_up xs k (xs k ++ [a])) (va_up ys k (ys k ++ [a])) (upD v k (uD v k ++ [x])) F ∧ KL h h') := by
  obtain ⟨ws, hw⟩ := ha.tag
  refine WP_post (rs_add hR.1 (lt_D hk) (by rw [hR.lenD hk hx]; exact hl) (by omega) (by omega) hw rfl) ?_
  rintro r h' ⟨rfl, g1, g2, -⟩
  have hc := hR.2.1.ko g2.ko
  refine ⟨rfl, ⟨g1, hc.upD hk ((hc.D hk).one (ha.ko g2.ko)), ?_, ?_⟩, g2⟩
  · by_cases hz : isC k
    · exact hR.2.2.1.app hz (hf hz)
    · exact hR.2.2.1.nC hz
  · rw [hx]; exact RX.agr hR.2.2.2
theorem rx_insC {gc : Nat → Nat} {d : Nat} {h : AH} {A : Nat → Nat} {I : Nat → Int32} {xs ys : Nat → List Nat} {v : Mu} {F : Nat} {k a j : Nat} {x : Rec} (hR : RX gc h A I xs ys v F) (hk : isC k) (hx : ys k = xs k) (hj : j ≤ (uC v k).length) (hl : (uC v k).length ≤ (if k = 1 then 449 else 65)) (ha : CpAt k h a x) (hf : free ys a) : WP gc (d + 5) 52 [.ref (A (40 + k)), .int (nI j), .ref a] h (fun r h' => r = none ∧ RX gc h' A I (va_up xs k (ins (xs k) j a)) (va_up ys k (ins (ys k) j a)) (upC v k (insG (uC v k) j x)) F ∧ KL h h') := by
  obtain ⟨ws, hw⟩ := ha.tag
  refine WP_post (rs_insert hR.1 (lt_C hk) (by rw [hR.lenC hk hx]; exact hl) (by rw [hR.lenC hk hx]; exact hj) (by omega) (by omega) hw rfl) ?_
  rintro r h' ⟨rfl, g1, g2, -⟩
  have hc := hR.2.1.ko g2.ko
  refine ⟨rfl, ⟨g1, hc.upC hk ((hc.C hk).ins (ha.ko g2.ko)), hR.2.2.1.ins hk hf, ?_⟩, g2⟩
  rw [hx]; exact RX.agr hR.2.2.2
theorem RX.lst {gc : Nat → Nat} {h : AH} {A : Nat → Nat} {I : Nat → Int32} {xs ys : Nat → List Nat} {v : Mu} {F : Nat} {k : Nat} (hR : RX gc h A I xs ys v F) (hk : k < 22) : ∃ vs, at_ h (A (40 + k)) 10 vs := by
  obtain ⟨e, cap, ⟨m, h1⟩, -⟩ := hR.1.lst hk
  exact ⟨_, h1⟩
/-- a copy's numbers are written -/
theorem RS.wr4 {gc : Nat → Nat} {h : AH} {A : Nat → Nat} {I : Nat → Int32} {xs : Nat → List Nat} {nc ns a : Nat} {vs vs' : List Value} (hR : RS gc h A I xs nc ns) (ha : at_ h a 4 vs) : RS gc (ah_set h a (4, vs')) A I xs nc ns := by
  obtain ⟨hA, hf, hF, le, lc, hL, b1, b2⟩ := hR
  have k : ∀ b t ws, t ≠ 4 → at_ h b t ws → at_ (ah_set h a (4, vs')) b t ws := fun b t ws z hb => at_n hb (at_ne hb ha z)
  refine ⟨hA, hf.set ha (by decide), ?_, le, lc, ⟨fun i hi => ?_, hL.2⟩, b1, b2⟩
  · obtain ⟨h1, h2, h3, h4, h5, h6, h7, h8⟩ := hF
    exact ⟨k _ _ _ (by decide) h1, k _ _ _ (by decide) h2, k _ _ _ (by decide) h3, k _ _ _ (by decide) h4, k _ _ _ (by decide) h5, fun e he => k _ _ _ (by decide) (h6 e he), fun q hq => k _ _ _ (by decide) (h7 q hq), fun c hc => k _ _ _ (by decide) (h8 c hc)⟩
  · obtain ⟨⟨⟨m, g1⟩, g2, g3, g4, g5⟩, g6⟩ := hL.1 i hi
    refine ⟨⟨⟨m, k _ _ _ (by decide) g1⟩, g2, g3, ?_, fun x hx => ?_⟩, g6⟩
    · rcases g4 with ⟨z1, z2, z3⟩ | ⟨z1, z3⟩
      · exact Or.inl ⟨z1, z2, k _ _ _ (by decide) z3⟩
      · exact Or.inr ⟨z1, k _ _ _ (by decide) z3⟩
    · obtain ⟨t, ws, w1, w2⟩ := g5 x hx
      by_cases hz : x = a
      · subst hz
        exact ⟨4, vs', at_s, rfl⟩
      · exact ⟨t, ws, at_n w1 hz, w2⟩
theorem CpAt.oth {h : AH} {a b k : Nat} {vs vs' : List Value} {r : Rec} (ha : at_ h a 4 vs) (hb : b ≠ a) (hc : CpAt k h b r) : CpAt k (ah_set h a (4, vs')) b r := by
  obtain ⟨m, D, h1, h2, h3⟩ := hc
  exact ⟨m, D, at_n h1 hb, h2, at_n h3 (at_ne h3 ha (by decide))⟩
theorem DdAt.wr4 {h : AH} {a b : Nat} {vs vs' : List Value} {r : Ded} (ha : at_ h a 4 vs) (hc : DdAt h b r) : DdAt (ah_set h a (4, vs')) b r := by
  unfold DdAt at *
  split at hc
  · exact at_n hc (at_ne hc ha (by decide))
  · obtain ⟨m, h1, h2⟩ := hc
    exact ⟨m, at_n h1 (at_ne h1 ha (by decide)), at_n h2 (at_ne h2 ha (by decide))⟩
theorem RX.wrH {gc : Nat → Nat} {h : AH} {A : Nat → Nat} {I : Nat → Int32} {xs ys : Nat → List Nat} {v : Mu} {F : Nat} {k j a : Nat} {x : Rec} {vs vs' : List Value} (hR : RX gc h A I xs ys v F) (hk : isC k) (hj : (ys k)[j]? = some a) (ha : at_ h a 4 vs) (hx : CpAt k (ah_set h a (4, vs')) a x) : RX gc (ah_set h a (4, vs')) A I xs ys (upC v k ((uC v k).set j x)) F ∧ KC h (ah_set h a (4, vs')) := by
  obtain ⟨h1, ⟨c1, c2, c3, c4⟩, h3, h4⟩ := hR
  refine ⟨⟨h1.wr4 ha, ⟨fun l hl => (c1 l hl).mono (fun b r _ z => at_n z (at_ne z ha (by decide))), fun l hl => ?_, fun l hl => (c3 l hl).mono (fun b r _ z => at_n z (at_ne z ha (by decide))), fun l hl => (c4 l hl).mono (fun b r _ z => z.wr4 ha)⟩, h3, h4⟩, KC.set ha (by decide)⟩
  show All2 _ (ys l) (va_up v.2.1 k ((uC v k).set j x) l)
  by_cases hz : l = k
  · subst hz
    rw [va_up_self]
    refine (c2 l hl).set j x (fun i b r hb hi hr => hr.oth ha ?_) (fun b hb => ?_)
    rotate_left
    · rintro rfl
      have hn := h3.1 l hl
      have q1 := List.getElem?_eq_some_iff.mp hj
      have q2 := List.getElem?_eq_some_iff.mp hb
      obtain ⟨w1, w2⟩ := q1
      obtain ⟨w3, w4⟩ := q2
      exact hi ((List.getElem_inj hn).mp (w4.trans w2.symm))
    · rw [hj] at hb
      rw [← Option.some.inj hb]
      exact hx
  · rw [va_up_ne _ _ hz]
    refine (c2 l hl).mono (fun b r hb hr => hr.oth ha ?_)
    rintro rfl
    exact hz (h3.2 l k b hl hk hb (List.mem_of_getElem? hj))
theorem RX.wrF {gc : Nat → Nat} {h : AH} {A : Nat → Nat} {I : Nat → Int32} {xs ys : Nat → List Nat} {v : Mu} {F : Nat} {a : Nat} {vs vs' : List Value} (hR : RX gc h A I xs ys v F) (hf : free ys a) (ha : at_ h a 4 vs) : RX gc (ah_set h a (4, vs')) A I xs ys v F ∧ KC h (ah_set h a (4, vs')) := by
  obtain ⟨h1, ⟨c1, c2, c3, c4⟩, h3, h4⟩ := hR
  refine ⟨⟨h1.wr4 ha, ⟨fun l hl => (c1 l hl).mono (fun b r _ z => at_n z (at_ne z ha (by decide))), fun l hl => ?_, fun l hl => (c3 l hl).mono (fun b r _ z => at_n z (at_ne z ha (by decide))), fun l hl => (c4 l hl).mono (fun b r _ z => z.wr4 ha)⟩, h3, h4⟩, KC.set ha (by decide)⟩
  refine (c2 l hl).mono (fun b r hb hr => hr.oth ha ?_)
  rintro rfl
  exact hf l hl hb
/-- an object of the lists is never one of the top's -/
theorem RX.freeN {gc : Nat → Nat} {h : AH} {A : Nat → Nat} {I : Nat → Int32} {xs ys : Nat → List Nat} {v : Mu} {F : Nat} (hR : RX gc h A I xs ys v F) : free ys h.1 := fun l hl hm => by
  obtain ⟨j, hj⟩ := List.getElem?_of_mem hm
  have ha := hR.2.1.C hl
  obtain ⟨w1, w2⟩ := List.getElem?_eq_some_iff.mp hj
  have := ha.get j w1 (by rw [← ha.len]; exact w1)
  rw [w2] at this
  obtain ⟨ws, hw⟩ := this.tag
  exact absurd (hR.1.2.1.lt hw (by decide)) (Nat.lt_irrefl _)
