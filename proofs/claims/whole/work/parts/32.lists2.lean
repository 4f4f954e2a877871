theorem cpy_pl {n k : Nat} {xs : List Nat} (hn : xs.length = n) (hk : n ≤ k) : cpyL (pl n xs) (List.replicate k .null) 0 0 n = pl k xs := by
  apply List.ext_getElem?
  intro j
  unfold cpyL
  rw [List.getElem?_map, List.length_replicate]
  by_cases hj : j < k
  · rw [List.getElem?_range hj]
    show some (va_cpy _ _ 0 0 n j) = _
    by_cases hjn : j < n
    · rw [pk_cpy_in (Nat.zero_le _) (by omega), Nat.zero_add, Nat.sub_zero, vp_read (pl_at (by omega)), pl_at (by omega)]
    · rw [pk_cpy_out (Or.inr (by omega))]
      unfold pl vp_V
      rw [List.getD_eq_getElem?_getD, List.getElem?_replicate, if_pos hj, List.getElem?_append_right (by rw [List.length_map]; omega), List.getElem?_replicate, if_pos (by rw [List.length_map]; omega)]
      rfl
  · rw [List.getElem?_eq_none (by rw [List.length_range]; omega), List.getElem?_eq_none (by rw [pl_len (by omega)]; omega)]
    rfl
theorem pl_el {h : AH} {cap : Nat} {xs : List Nat} (he : El h xs) : ∀ v ∈ pl cap xs, v = .null ∨ ∃ (y ty : Nat) (vs : List Value), v = .ref y ∧ at_ h y ty vs ∧ asg 103 ty = true := by
  intro v hv
  unfold pl at hv
  rcases List.mem_append.mp hv with g | g
  · obtain ⟨y, hy, rfl⟩ := List.mem_map.mp g
    obtain ⟨t, ws, h1, h2⟩ := he y hy
    exact Or.inr ⟨y, t, ws, rfl, h1, h2⟩
  · exact Or.inl (List.mem_replicate.mp g).2
theorem asg_n0 {t : Nat} (h : asg 103 t = true) : t ≠ 0 ∧ t ≠ 10 ∧ t ≠ 103 ∧ t ≠ 201 := by
  rcases asg_t h with h | h | h | h <;> omega
theorem El.chg {h h' : AH} {xs : List Nat} {S : Nat → Prop} (hf : Fr h) (hc : Chg h h' S) (hS : ∀ b t ws, S b → at_ h b t ws → asg 103 t = false) (he : El h xs) : El h' xs := fun x hx => by
  obtain ⟨t, ws, h1, h2⟩ := he x hx
  refine ⟨t, ws, hc.at hf h1 (asg_n0 h2).1 (fun z => ?_), h2⟩
  rw [hS x t ws z h1] at h2
  cases h2
theorem k_copyOf {gc : Nat → Nat} {d n k : Nat} {h : AH} {a : Nat} {xs : List Nat} (hf : Fr h) (ha : at_ h a 103 (pl n xs)) (he : El h xs) (hn : xs.length = n) (h0 : 0 < n) (hk : n < k) (hk2 : k ≤ 100000) (r1 : 1 ≤ h.2.1) (r2 : k ≤ h.2.2.1) :
    WP gc (d + 2) 29 [.ref a, .int (nI k)] h (fun r h' => r = some (.ref h.1) ∧ at_ h' h.1 103 (pl k xs) ∧ Chg h h' (fun _ => False) ∧ h'.1 = h.1 + 1 ∧ h'.2.1 = h.2.1 - 1 ∧ h'.2.2.1 = h.2.2.1 - k) := by
  have ek : (nI k).toNatClampNeg = k := nI_clamp (by omega)
  have hlen : (pl n xs).length = n := pl_len (by omega)
  have emin : (if nI k < Int32.ofNat (pl n xs).length then nI k else Int32.ofNat (pl n xs).length) = nI n := by
    rw [hlen]
    exact if_neg (nI_nlt (by omega) (by omega))
  have en : (nI n).toNatClampNeg = n := nI_clamp (by omega)
  have e0 : (0 : Int32).toNatClampNeg = 0 := by decide
  refine M29 ⟨⟨_, ha⟩, fun r h' => r = some (.ref h.1) ∧ at_ h' h.1 103 (pl k xs) ∧ Chg h h' (fun _ => False) ∧ h'.1 = h.1 + 1 ∧ h'.2.1 = h.2.1 - 1 ∧ h'.2.2.1 = h.2.2.1 - k, M30 ⟨fun z => absurd rfl z, fun _ => ⟨nI_pos (by omega), r1, by rw [ek]; exact r2, by rw [ek]; exact hk2, ?_⟩⟩, ?_⟩
  · rintro b1 h2 rfl rfl
    rw [ek]
    have ha2 : at_ (ah_new h (103, List.replicate k .null)) a 103 (pl n xs) := at_old hf ha (by decide)
    refine B30_24 ⟨103, _, ha2, Or.inl ⟨by decide, by decide⟩, _, _, ha2, at_new, by decide, by decide, ?_⟩
    rw [emin, e0, en]
    refine ⟨nI_pos (by omega), by omega, by rw [List.length_replicate]; omega, by rw [List.length_replicate]; omega, pl_el (fun x hx => ?_), ?_⟩
    · obtain ⟨t, ws, g1, g2⟩ := he x hx
      exact ⟨t, ws, at_old hf g1 (asg_n0 g2).1, g2⟩
    · rintro h5 rfl
      refine ⟨rfl, ?_, ?_, rfl, rfl, ?_⟩
      · rw [cpy_pl hn (by omega)]
        exact at_s
      · refine ⟨Nat.le_succ _, (hf.new).set at_new (by decide), fun b hb _ => ?_⟩
        show ah_up (ah_up h.2.2.2 h.1 _) h.1 _ b = _
        unfold ah_up
        rw [if_neg (Nat.ne_of_lt hb), if_neg (Nat.ne_of_lt hb)]
      · show h.2.2.1 - (List.replicate k Value.null).length = _
        rw [List.length_replicate]
  · rintro r h' ⟨rfl, hq⟩
    exact ⟨_, rfl, rfl, hq⟩
/-- grow(): a full list gets gr cap places -/
theorem k_grow {gc : Nat → Nat} {d cap : Nat} {h : AH} {a e : Nat} {m : Int32} {xs : List Nat} (hf : Fr h) (ha : at_ h a 10 [.int m, .ref e, .int (nI cap)]) (hn : xs.length = cap) (hc : cap ≤ 4000) (h4 : (cap = 0 ∧ e = gc 1 ∧ at_ h e 201 []) ∨ (0 < cap ∧ at_ h e 103 (pl cap xs))) (he : El h xs) (r1 : 1 ≤ h.2.1) (r2 : 10000 ≤ h.2.2.1) :
    WP gc (d + 4) 25 [.ref a] h (fun r h' => r = some (.ref h.1) ∧ at_ h' a 10 [.int m, .ref h.1, .int (nI cap)] ∧ at_ h' h.1 103 (pl (gr cap) xs) ∧ Chg h h' (fun b => b = a) ∧ h'.1 = h.1 + 1 ∧ h'.2.1 = h.2.1 - 1 ∧ h'.2.2.1 = h.2.2.1 - gr cap) := by
  have hg : cap < gr cap ∧ gr cap ≤ 6001 ∧ 10 ≤ gr cap + 9 := by
    unfold gr
    split <;> (try split) <;> omega
  refine M25 ⟨_, _, ha, rfl, ⟨_, ha⟩, fun r h' => r = some (.ref h.1) ∧ at_ h' a 10 [.int m, .ref h.1, .int (nI cap)] ∧ at_ h' h.1 103 (pl (gr cap) xs) ∧ Chg h h' (fun b => b = a) ∧ h'.1 = h.1 + 1 ∧ h'.2.1 = h.2.1 - 1 ∧ h'.2.2.1 = h.2.2.1 - gr cap, ?_, ?_⟩
  · rcases h4 with ⟨h0, he1, h4⟩ | ⟨h0, h4⟩
    · subst h0
      have hx : xs = [] := List.eq_nil_of_length_eq_zero hn
      subst hx
      refine M26 ⟨_, _, ha, rfl, 201, _, h4, Or.inr (Or.inr ⟨rfl, he1, rfl⟩), fun z => absurd z (by decide), fun _ => ⟨_, _, ha, rfl, fun _ => ?_, fun z => absurd he1 z⟩⟩
      refine B26_45 ⟨by decide, r1, ?_, ?_, ?_⟩
      · show (10 : Nat) ≤ h.2.2.1
        omega
      · show (10 : Nat) ≤ 100000
        decide
      · rintro b1 h2 rfl rfl
        refine ⟨_, at_old hf ha (by decide), Nat.le_of_ble_eq_true rfl, trivial, ?_⟩
        rintro h4' rfl
        have hne : a ≠ h.1 := Nat.ne_of_lt (hf.lt ha (by decide))
        refine ⟨rfl, at_s, at_n at_new (Ne.symm hne), ?_, rfl, rfl, rfl⟩
        refine ⟨Nat.le_succ _, (hf.new).set (at_old hf ha (by decide)) (by decide), fun b hb hs => ?_⟩
        show ah_up (ah_up h.2.2.2 h.1 _) a _ b = _
        unfold ah_up
        rw [if_neg hs, if_neg (Nat.ne_of_lt hb)]
    · have hlen : (pl cap xs).length = cap := pl_len (by omega)
      have e1 : nI cap + 1 = nI (cap + 1) := nI_1 cap
      rw [e1]
      refine M26 ⟨_, _, ha, rfl, 103, _, h4, Or.inl ⟨by decide, by decide⟩, fun _ => ?_, fun z => absurd (show (0 : Int32) < Int32.ofNat (pl cap xs).length by rw [hlen]; exact nI_lt (a := 0) h0 (by omega)) z⟩
      rw [hlen]
      refine B26_20 ⟨_, k_newLen h0 hc, ?_⟩
      rintro r h' ⟨rfl, rfl⟩
      refine ⟨_, rfl, _, _, ha, rfl, _, k_copyOf hf h4 he hn h0 hg.1 (by omega) r1 (by omega), ?_⟩
      rintro r h'' ⟨rfl, g1, g2, g3, g4, g5⟩
      have ha2 := g2.at hf ha (by decide) (fun z => z)
      have hne : a ≠ h'.1 := Nat.ne_of_lt (hf.lt ha (by decide))
      refine ⟨_, rfl, _, ha2, Nat.le_of_ble_eq_true rfl, trivial, ?_⟩
      rintro h5 rfl
      refine ⟨rfl, at_s, at_n g1 (Ne.symm hne), ?_, g3, g4, g5⟩
      exact (g2.mono (fun _ _ z => z.elim)).trans (Chg.set g2.2.1 ha2 (by decide) rfl)
  · rintro r h' ⟨rfl, hq⟩
    exact ⟨_, rfl, rfl, hq⟩
