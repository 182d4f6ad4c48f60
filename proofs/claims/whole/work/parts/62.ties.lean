/-! ties, on both sides -/
def tiesF (so : Nat → Int) (sl : Nat → List Int) (t : Tn) (s l : Int) : Int := if 0 ≤ s ∧ s < 4 then (if 0 ≤ l ∧ l < (tMany t : Int) then (if hearc (so s.toNat) (sl s.toNat) = 0 then numl (tiel (tKind t l.toNat) (sl s.toNat)) else hearc (so s.toNat) (sl s.toNat)) else -2) else -2
theorem ties_c {sc : dS} {d : Nat} {M : dM} (hs : Sk M) {t : Tn} (ht : cT M 1 t) (hok : okT t) {so : Nat → Int} {sl : Nat → List Int} (hc : ∀ n, n < 4 → cS M n (so n) (sl n)) (s x : Int) : ∃ M' : dM, vc sc (d + 4) 71 [(2, 0), (0, s), (0, x)] (K0, M) = some ([(0, tiesF so sl t s x)], (K0, M')) ∧ Fr M M' := by
  rw [vc_s (md := m_X6_ties) (L := [(2, 0), (0, s), (0, x), (3, 0)]) rfl (Nat.le_of_ble_eq_true rfl) rfl]
  show ∃ M', vr sc (d + 3) c_X6_ties (0, [(2, 0), (0, s), (0, x), (3, 0)], [], (K0, M)) = _ ∧ _
  rw [e_X6_ties_0, isSheet_ok, Option.bind_some]
  show ∃ M', vr sc (d + 3) c_X6_ties (4, [(2, 0), (0, s), (0, x), (3, 0)], [(0, _)], (K0, M)) = _ ∧ _
  rw [e_X6_ties_4]
  unfold tiesF
  by_cases p : ¬ (0 ≤ s ∧ s < 4)
  · rw [bi_f p, if_pos rfl, if_neg p]
    exact ⟨M, rfl, Fr.rf _⟩
  have p := Classical.not_not.mp p
  rw [bi_t p, if_neg (by decide), if_pos p, if_pos (show og K0 6 0 0 = true from rfl), (Sk_00 hs).1, if_pos (rg_tn isT_1), hasLad_ok isT_1, Option.bind_some, ht.1.2.2.2]
  show ∃ M', vr sc (d + 3) c_X6_ties (15, [(2, 0), (0, s), (0, x), (3, 0)], [(0, _)], (K0, M)) = _ ∧ _
  rw [e_X6_ties_15]
  by_cases q : ¬ (0 ≤ x ∧ x < (tMany t : Int))
  · rw [bi_f q, if_neg (fun z => z rfl), if_neg q]
    exact ⟨M, rfl, Fr.rf _⟩
  have q := Classical.not_not.mp q
  obtain ⟨n, rfl⟩ : ∃ n : Nat, s = n := ⟨s.toNat, by omega⟩
  obtain ⟨k, rfl⟩ : ∃ n : Nat, x = n := ⟨x.toNat, by omega⟩
  have hn : n < 4 := by omega
  have hk5 : k < 5 := by have := hok.1.2.2.2.2.2; omega
  have hcn := hc n hn
  rw [show ((n : Nat) : Int).toNat = n from rfl, show ((k : Nat) : Int).toNat = k from rfl]
  generalize so n = o at hcn ⊢
  generalize sl n = l at hcn ⊢
  obtain ⟨M1, a1, a2, a3⟩ := hear_ok (sc := sc) (d := d + 1) hs hn hcn
  rw [bi_t q, if_pos (by decide), if_pos (show rg K0 6 0 = true from rfl), a1, Option.bind_some, if_pos q]
  show ∃ M', vr sc (d + 3) c_X6_ties (26, [(2, 0), (0, (n : Int)), (0, (k : Int)), (3, 0)], [(0, _)], (K0, M1)) = _ ∧ _
  rw [e_X6_ties_26]
  by_cases hh : ¬ hearc o l = 0
  · rw [if_neg hh, if_neg hh]
    exact ⟨M1, rfl, a2.s91⟩
  have hh := Classical.not_not.mp hh
  have hl := (hearc_0 hh).2.1
  have hk := a3 hh
  have hs1 := a2.s91.sk hs
  have ht1 := ht.fr (Or.inl rfl) a2.s91
  obtain ⟨M2, b1, b2, b3⟩ := becomeTied_ok (sc := sc) (d := d) isK_93 isK_91 (tKind t k) hs1 hl hk
  have hs2 := b2.s93.sk hs1
  rw [if_pos hh, if_pos hh, hh, if_pos (show og K0 6 0 8 = true from rfl), if_pos (show og K0 6 0 0 = true from rfl), (Sk_00 hs1).1, (Sk_00 hs1).2.2.2, Sk_07 hs1, if_pos (og_tn isT_1 (by decide)), (Sk_T hs1 isT_1).1, if_pos (ag_t1 isT_1 (by omega) (by omega)), if_pos (show og K0 6 0 7 = true from rfl), if_pos (rg_kn isK_93), (ht1.2.1 k hk5).1, b1, Option.bind_some]
  show ∃ M', vr sc (d + 3) c_X6_ties (53, [(2, 0), (0, (n : Int)), (0, (k : Int)), (0, 0)], [], (K0, M2)) = _ ∧ _
  rw [e_X6_ties_53, if_pos (show og K0 6 0 8 = true from rfl), (Sk_00 hs2).2.2.2, if_pos (rg_kn isK_93), number_ok isK_93 hs2 (tiel_len hl) b3, Option.bind_some]
  show ∃ M', vr sc (d + 3) c_X6_ties (60, [(2, 0), (0, (n : Int)), (0, (k : Int)), (0, 0)], [(0, _)], (K0, M2)) = _ ∧ _
  rw [e_X6_ties_60]
  exact ⟨M2, rfl, a2.s91.tr b2.s93⟩
theorem ties_r {sc : dS} {d : Nat} {M : dM} (hs : Sk M) {t : Tn} (ht : rT M t) (hok : okT t) {so : Nat → Int} {sl : Nat → List Int} (hc : ∀ n, n < 4 → -1 ≤ so n ∧ rS M n (so n) (sl n)) (s x : Int) : ∃ M' : dM, vc sc (d + 4) 158 [(2, 107), (0, s), (0, x)] (K0, M) = some ([(0, tiesF so sl t s x)], (K0, M')) ∧ Fr M M' := by
  rw [vc_s (md := m_X7_ties) (L := [(2, 107), (0, s), (0, x), (3, 0)]) rfl (Nat.le_of_ble_eq_true rfl) rfl]
  show ∃ M', vr sc (d + 3) c_X7_ties (0, [(2, 107), (0, s), (0, x), (3, 0)], [], (K0, M)) = _ ∧ _
  rw [e_X7_ties_0, isSheet7_ok, Option.bind_some]
  show ∃ M', vr sc (d + 3) c_X7_ties (4, [(2, 107), (0, s), (0, x), (3, 0)], [(0, _)], (K0, M)) = _ ∧ _
  rw [e_X7_ties_4]
  unfold tiesF
  by_cases p : ¬ (0 ≤ s ∧ s < 4)
  · rw [bi_f p, if_pos rfl, if_neg p]
    exact ⟨M, rfl, Fr.rf _⟩
  have p := Classical.not_not.mp p
  rw [bi_t p, if_neg (by decide), if_pos p, if_pos (show rg K0 7 107 = true from rfl), isLad_ok hok.1.2.2.2.2.2 ht.1.2.2.2, Option.bind_some]
  show ∃ M', vr sc (d + 3) c_X7_ties (12, [(2, 107), (0, s), (0, x), (3, 0)], [(0, _)], (K0, M)) = _ ∧ _
  rw [e_X7_ties_12]
  by_cases q : ¬ (0 ≤ x ∧ x < (tMany t : Int))
  · rw [bi_f q, if_neg (fun z => z rfl), if_neg q]
    exact ⟨M, rfl, Fr.rf _⟩
  have q := Classical.not_not.mp q
  obtain ⟨n, rfl⟩ : ∃ n : Nat, s = n := ⟨s.toNat, by omega⟩
  obtain ⟨k, rfl⟩ : ∃ n : Nat, x = n := ⟨x.toNat, by omega⟩
  have hn : n < 4 := by omega
  have hk5 : k < 5 := by have := hok.1.2.2.2.2.2; omega
  have hcn := hc n hn
  rw [show ((n : Nat) : Int).toNat = n from rfl, show ((k : Nat) : Int).toNat = k from rfl]
  generalize so n = o at hcn ⊢
  generalize sl n = l at hcn ⊢
  rw [bi_t q, if_pos (by decide), if_pos (show rg K0 7 107 = true from rfl), wordBad_ok hs hn hcn.1 hcn.2, Option.bind_some, if_pos q]
  show ∃ M', vr sc (d + 3) c_X7_ties (23, [(2, 107), (0, (n : Int)), (0, (k : Int)), (3, 0)], [(0, _)], (K0, M)) = _ ∧ _
  rw [e_X7_ties_23]
  by_cases hh : ¬ hearc o l = 0
  · rw [if_neg hh, if_neg hh]
    exact ⟨M, rfl, Fr.rf _⟩
  have hh := Classical.not_not.mp hh
  have h0 := hearc_0 hh
  have hl := h0.2.1
  have ho : 0 ≤ o := by have := hcn.1; have := h0.1; omega
  obtain ⟨M1, a1, a2, a3⟩ := takesSheet_ok (sc := sc) (d := d + 2) hs hn ho hl hcn.2
  have hs1 := a2.s107.sk hs
  have ht1 := ht.fr a2.s107
  obtain ⟨M2, b1, b2, b3⟩ := ties1_ok (sc := sc) (d := d) hk5 hs1 hl a3
  have hs2 := b2.s107.sk hs1
  rw [(ht1.2.1 k hk5).2.2] at b3
  rw [if_pos hh, if_pos hh, hh, if_pos (show rg K0 7 107 = true from rfl), a1, Option.bind_some]
  show ∃ M', vr sc (d + 3) c_X7_ties (35, [(2, 107), (0, (n : Int)), (0, (k : Int)), (0, 0)], [], (K0, M1)) = _ ∧ _
  rw [e_X7_ties_35, if_pos (show rg K0 7 107 = true from rfl), b1, Option.bind_some]
  show ∃ M', vr sc (d + 3) c_X7_ties (40, [(2, 107), (0, (n : Int)), (0, (k : Int)), (0, 0)], [], (K0, M2)) = _ ∧ _
  rw [e_X7_ties_40, if_pos (show rg K0 7 107 = true from rfl), wordNumber_ok hs2 (tiel_len hl) b3, Option.bind_some]
  show ∃ M', vr sc (d + 3) c_X7_ties (44, [(2, 107), (0, (n : Int)), (0, (k : Int)), (0, 0)], [(0, _)], (K0, M2)) = _ ∧ _
  rw [e_X7_ties_44]
  exact ⟨M2, rfl, a2.s107.tr b2.s107⟩
