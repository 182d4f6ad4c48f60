theorem tie_r {sc : dS} {d : Nat} {M : dM} (hs : Sk M) {t : Tn} (ht : rT M t) (hok : okT t) {so : Nat → Int} {sl : Nat → List Int} (hc : ∀ n, n < 4 → -1 ≤ so n ∧ rS M n (so n) (sl n)) (s x y : Int) : ∃ M' : dM, vc sc (d + 5) 157 [(2, 107), (0, s), (0, x), (0, y)] (K0, M) = some ([(0, tieF so sl t s x y)], (K0, M')) ∧ Sk M' ∧ rT M' (tieS so sl t s x y) ∧ FrM M M' := by
  rw [vc_s (md := m_X7_tie) (L := [(2, 107), (0, s), (0, x), (0, y), (3, 0), (3, 0)]) rfl (Nat.le_of_ble_eq_true rfl) rfl]
  show ∃ M', vr sc (d + 4) c_X7_tie (0, [(2, 107), (0, s), (0, x), (0, y), (3, 0), (3, 0)], [], (K0, M)) = _ ∧ _
  rw [e_X7_tie_0, isSheet7_ok, Option.bind_some]
  show ∃ M', vr sc (d + 4) c_X7_tie (4, [(2, 107), (0, s), (0, x), (0, y), (3, 0), (3, 0)], [(0, _)], (K0, M)) = _ ∧ _
  rw [e_X7_tie_4]
  unfold tieF tieS
  by_cases p : ¬ (0 ≤ s ∧ s < 4)
  · rw [bi_f p, if_pos rfl, if_neg p, if_neg p]
    exact ⟨M, rfl, hs, ht, (Fr.rf _).m⟩
  have p := Classical.not_not.mp p
  rw [bi_t p, if_neg (by decide), if_pos p, if_pos p, if_pos (show rg K0 7 107 = true from rfl), isLad_ok hok.1.2.2.2.2.2 ht.1.2.2.2, Option.bind_some]
  show ∃ M', vr sc (d + 4) c_X7_tie (12, [(2, 107), (0, s), (0, x), (0, y), (3, 0), (3, 0)], [(0, _)], (K0, M)) = _ ∧ _
  rw [e_X7_tie_12]
  by_cases q : ¬ (0 ≤ x ∧ x < (tMany t : Int))
  · rw [bi_f q, if_pos rfl, if_neg q, if_neg q]
    exact ⟨M, rfl, hs, ht, (Fr.rf _).m⟩
  have q := Classical.not_not.mp q
  rw [bi_t q, if_neg (by decide), if_pos q, if_pos q, isFoot7_ok, Option.bind_some]
  show ∃ M', vr sc (d + 4) c_X7_tie (19, [(2, 107), (0, s), (0, x), (0, y), (3, 0), (3, 0)], [(0, _)], (K0, M)) = _ ∧ _
  rw [e_X7_tie_19]
  by_cases r : ¬ (0 ≤ y ∧ y < 6)
  · rw [bi_f r, if_neg (fun z => z rfl), if_neg r, if_neg r]
    exact ⟨M, rfl, hs, ht, (Fr.rf _).m⟩
  have r := Classical.not_not.mp r
  obtain ⟨n, rfl⟩ : ∃ n : Nat, s = n := ⟨s.toNat, by omega⟩
  obtain ⟨k, rfl⟩ : ∃ n : Nat, x = n := ⟨x.toNat, by omega⟩
  obtain ⟨f, rfl⟩ : ∃ n : Nat, y = n := ⟨y.toNat, by omega⟩
  have hn : n < 4 := by omega
  have hf : f < 6 := by omega
  have hk5 : k < 5 := by have := hok.1.2.2.2.2.2; omega
  have hcn := hc n hn
  unfold tieW
  rw [show ((n : Nat) : Int).toNat = n from rfl, show ((k : Nat) : Int).toNat = k from rfl, show ((f : Nat) : Int).toNat = f from rfl]
  generalize so n = o at hcn ⊢
  generalize sl n = l at hcn ⊢
  rw [bi_t r, if_pos (by decide), if_pos (show rg K0 7 107 = true from rfl), wordBad_ok hs hn hcn.1 hcn.2, Option.bind_some, if_pos r, if_pos r]
  show ∃ M', vr sc (d + 4) c_X7_tie (30, [(2, 107), (0, (n : Int)), (0, (k : Int)), (0, (f : Int)), (3, 0), (3, 0)], [(0, _)], (K0, M)) = _ ∧ _
  rw [e_X7_tie_30]
  by_cases hh : ¬ hearc o l = 0
  · rw [if_neg hh, if_neg hh, if_neg hh]
    exact ⟨M, rfl, hs, ht, (Fr.rf _).m⟩
  have hh := Classical.not_not.mp hh
  have h0 := hearc_0 hh
  have hl := h0.2.1
  have ho : 0 ≤ o := by have := hcn.1; have := h0.1; omega
  obtain ⟨M1, a1, a2, a3⟩ := takesSheet_ok (sc := sc) (d := d + 3) hs hn ho hl hcn.2
  have hs1 := a2.s107.sk hs
  have ht1 := ht.fr a2.s107
  obtain ⟨M2, b1, b2, b3⟩ := ties1_ok (sc := sc) (d := d + 1) hk5 hs1 hl a3
  have hs2 := b2.s107.sk hs1
  have ht2 := ht1.fr b2.s107
  rw [(ht1.2.1 k hk5).2.2] at b3
  have hw := tiel_len (k := tKind t k) hl
  have w1 := w_t3 f 1 (by omega) (by omega)
  have w2 := w_t3 f 2 (by omega) (by omega)
  rw [if_pos hh, if_pos hh, if_pos hh, hh, if_pos (show rg K0 7 107 = true from rfl), a1, Option.bind_some]
  show ∃ M', vr sc (d + 4) c_X7_tie (45, [(2, 107), (0, (n : Int)), (0, (k : Int)), (0, (f : Int)), (0, 0), (3, 0)], [], (K0, M1)) = _ ∧ _
  rw [e_X7_tie_45, if_pos (show rg K0 7 107 = true from rfl), b1, Option.bind_some]
  show ∃ M', vr sc (d + 4) c_X7_tie (50, [(2, 107), (0, (n : Int)), (0, (k : Int)), (0, (f : Int)), (0, 0), (3, 0)], [], (K0, M2)) = _ ∧ _
  rw [e_X7_tie_50, if_pos (show og K0 7 107 10 = true from rfl), (Sk_m10 hs2).1, show w32 (w32 (3 * (f : Int)) + 1) = ((3 * f + 1 : Nat) : Int) from w1, show w32 (w32 (3 * (f : Int)) + 2) = ((3 * f + 2 : Nat) : Int) from w2]
  clear w1 w2
  generalize tiel (tKind t k) l = w at b3 hw ⊢
  have hsA := Sk_m hs2 (a := 112) (j := ((3 * f + 1 : Nat) : Int)) (v := (k : Int)) (Or.inr (Or.inl rfl))
  have hsB := Sk_m hsA (a := 112) (j := ((3 * f + 2 : Nat) : Int)) (v := ((w.length : Nat) : Int)) (Or.inr (Or.inl rfl))
  have kB : KV 107 29 114 (d_up (d_up M2 112 ((3 * f + 1 : Nat) : Int) (k : Int)) 112 ((3 * f + 2 : Nat) : Int) ((w.length : Nat) : Int)) w := b3.up (by rw [d_up_n1 _ (by decide), d_up_n1 _ (by decide)]) (fun j _ _ => by rw [d_up_n1 _ (by decide), d_up_n1 _ (by decide)])
  obtain ⟨M3, c1, c2, c3, c4, c5⟩ := lay_loop (sc := sc) (d := d + 4) (v1 := (n : Int)) (v2 := (k : Int)) (v4 := 0) hf hw w.length 0 _ rfl (by omega) hsB kB (fun j hj hji => absurd hji (by omega))
  have k3 : KV 107 29 114 M3 w := kB.up (c3 _ _ (by decide)) fun j _ _ => c3 _ _ (by decide)
  obtain ⟨M4, g1, g2, g3⟩ := pulledSize_ok (sc := sc) (d := d) c2 hw k3
  have ht3 := rT_tie (M := M2) ht2 hf (w := w) (l := (k : Int)) c3 (fun j hj => by rw [c4 j hj, d_up_n1 _ (by decide), d_up_n1 _ (by decide)]) c5 hok
  have f3 : FrM M2 M3 := fun a j _ h => by rw [c3 a j (by omega), d_up_n1 _ (by omega), d_up_n1 _ (by omega)]
  rw [if_pos (ag_112 (by omega) (by omega)), if_pos (show og K0 7 107 10 = true from rfl), if_pos (show og K0 7 107 29 = true from rfl), d_up_n1 _ (show (107 : Int) ≠ 112 by decide), d_up_n1 _ (show (107 : Int) ≠ 112 by decide), (Sk_m10 hs2).1, if_pos (ag_112 (by omega) (by omega)), b3.1]
  refine ⟨M4, c1.trans ?_, g2.s107.sk c2, ht3.fr g2.s107, (((a2.s107.tr b2.s107).m.tr f3).tr g2.s107.m)⟩
  rw [e_X7_tie_78, if_pos (show og K0 7 107 29 = true from rfl), k3.1, if_pos (Int.le_refl _), if_pos (show rg K0 7 107 = true from rfl), g1, Option.bind_some]
  show vr sc (d + 4) c_X7_tie (116, [(2, 107), (0, (n : Int)), (0, (k : Int)), (0, (f : Int)), (0, 0), (0, ((w.length : Nat) : Int))], [(0, _)], (K0, M4)) = _
  rw [e_X7_tie_116]
