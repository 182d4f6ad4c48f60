/-! best, reference side: all ways -/
def FG (M M' : dM) : Prop := ∀ x j : Int, ¬ (x = 107 ∧ (j = 33 ∨ j = 34)) → M' x j = M x j
theorem FG.tr {M M1 M2 : dM} (h1 : FG M M1) (h2 : FG M1 M2) : FG M M2 := fun x j g => (h2 x j g).trans (h1 x j g)
theorem FG.up {M : dM} {j : Int} (h : j = 33 ∨ j = 34) (v : Int) : FG M (d_up M 107 j v) := fun x y g => by
  unfold d_up
  rw [if_neg]
  rintro ⟨rfl, rfl⟩
  exact g ⟨rfl, h⟩
theorem FG.fr {M M' : dM} (h : FG M M') : Fr M M' := fun x k g => h x k fun z => by
  obtain ⟨rfl, rfl | rfl⟩ := z
  · rw [show scr 107 33 = true by decide +kernel] at g; cases g
  · rw [show scr 107 34 = true by decide +kernel] at g; cases g
theorem gives_ok {sc : dS} {d : Nat} {t : Tn} (hok : okT t) {xs : List (List Int)} {w : List Int} : ∀ (k l u a p : Nat) (b : Nat × Int) (M : dM), Sk M → rT M t → tpS xs t w (6 * tMany t) M → M 107 33 = (b.1 : Int) → M 107 34 = b.2 → u < 64 → popc u = l → l + k = tMany t → a < 10 ^ l → p ≤ l →
    ∃ M' : dM, vc sc (d + k + 1) 179 [(2, 107), (0, (l : Int)), (0, (u : Int)), (0, (a : Int)), (0, (p : Int))] (K0, M) = some ([], (K0, M')) ∧ FG M M' ∧ M' 107 33 = ((gv (gdN xs t w) (tMany t) k u a p b).1 : Int) ∧ M' 107 34 = (gv (gdN xs t w) (tMany t) k u a p b).2 := by
  have o5 := hok.1.2.2.2.2.2
  intro k
  induction k with
  | zero =>
    intro l u a p b M hs ht hp h1 h2 hu hpc hl ha hpl
    have pl := p10 (l := l) (by omega)
    rw [vc_s (md := m_X7_gives) (L := [(2, 107), (0, (l : Int)), (0, (u : Int)), (0, (a : Int)), (0, (p : Int)), (3, 0)]) rfl (Nat.le_of_ble_eq_true rfl) rfl]
    show ∃ M', vr sc (d + 0) c_X7_gives (0, [(2, 107), (0, (l : Int)), (0, (u : Int)), (0, (a : Int)), (0, (p : Int)), (3, 0)], [], (K0, M)) = _ ∧ _
    rw [e_X7_gives_0, if_pos (show og K0 7 107 12 = true from rfl), ht.1.2.2.2, if_neg (fun y => y (by omega)), if_pos (show og K0 7 107 34 = true from rfl), h2]
    show ∃ M', _ ∧ FG M M' ∧ M' 107 33 = ((if b.2 < (p : Int) then (a, (p : Int)) else b).1 : Int) ∧ M' 107 34 = (if b.2 < (p : Int) then (a, (p : Int)) else b).2
    by_cases q : b.2 < (p : Int)
    · rw [if_neg (by omega), if_pos q, if_pos (show og K0 7 107 33 = true from rfl), if_pos ⟨by omega, by omega⟩, if_pos (show og K0 7 107 34 = true from rfl), if_pos ⟨by omega, by omega⟩]
      exact ⟨_, rfl, (FG.up (Or.inl rfl) _).tr (FG.up (Or.inr rfl) _), (d_up_n2 _ (by decide)).trans (d_up_at _ _ _ _), d_up_at _ _ _ _⟩
    · rw [if_pos (by omega), if_neg q]
      exact ⟨M, rfl, fun _ _ _ => rfl, h1, h2⟩
  | succ k ih =>
    intro l u a p b M hs ht hp h1 h2 hu hpc hl ha hpl
    have pl := p10 (l := l) (by omega)
    have pl2 := p10 (l := l + 1) (by omega)
    have ps : 10 ^ (l + 1) = 10 ^ l * 10 := Nat.pow_succ _ _
    have em : tMany t - (k + 1) = l := by omega
    rw [vc_s (md := m_X7_gives) (L := [(2, 107), (0, (l : Int)), (0, (u : Int)), (0, (a : Int)), (0, (p : Int)), (3, 0)]) rfl (Nat.le_of_ble_eq_true rfl) rfl]
    show ∃ M', vr sc (d + (k + 1)) c_X7_gives (0, [(2, 107), (0, (l : Int)), (0, (u : Int)), (0, (a : Int)), (0, (p : Int)), (3, 0)], [], (K0, M)) = _ ∧ _
    rw [e_X7_gives_0, if_pos (show og K0 7 107 12 = true from rfl), ht.1.2.2.2, if_pos (show ¬ (l : Int) = (tMany t : Int) by omega)]
    have key : ∀ (j i : Nat) (N : dM), 6 - i = j → i ≤ 6 → FG M N → N 107 33 = ((gfd (fun u f b => gv (gdN xs t w) (tMany t) k (u + 2 ^ f) (10 * a + f + 1) (p + gdN xs t w (tMany t - (k + 1)) f) b) u i b).1 : Int) → N 107 34 = (gfd (fun u f b => gv (gdN xs t w) (tMany t) k (u + 2 ^ f) (10 * a + f + 1) (p + gdN xs t w (tMany t - (k + 1)) f) b) u i b).2 → ∃ N' : dM, vr sc (d + (k + 1)) c_X7_gives (32, [(2, 107), (0, (l : Int)), (0, (u : Int)), (0, (a : Int)), (0, (p : Int)), (0, (i : Int))], [], (K0, N)) = some ([], (K0, N')) ∧ FG M N' ∧ N' 107 33 = ((gv (gdN xs t w) (tMany t) (k + 1) u a p b).1 : Int) ∧ N' 107 34 = (gv (gdN xs t w) (tMany t) (k + 1) u a p b).2 := by
      intro j
      induction j with
      | zero =>
        intro i N hj hi hf g1 g2
        have e : i = 6 := by omega
        subst e
        rw [e_X7_gives_32, if_pos (by decide)]
        exact ⟨N, rfl, hf, g1, g2⟩
      | succ j ihj =>
        intro i N hj hi hf g1 g2
        have hi6 : i < 6 := by omega
        have hsN := hf.fr.sk hs
        have htN := ht.fr hf.fr
        have hpN : tpS xs t w (6 * tMany t) N := fun y hy => (hf 117 _ (fun z => absurd z.1 (by decide))).trans (hp y hy)
        rw [e_X7_gives_32, if_neg (by omega)]
        by_cases z : frB u i = true
        · have nx := fr_nx hu hi6 z
          have gl := gdN_le xs t w l i
          have hg : N 117 ((6 * l + i : Nat) : Int) = ((gdN xs t w l i : Nat) : Int) := by
            have := hpN (6 * l + i) (by omega)
            rw [show (6 * l + i) / 6 = l by omega, show (6 * l + i) % 6 = i by omega] at this
            exact this
          obtain ⟨N1, a1, a2, a3, a4⟩ := ih (l + 1) (u + 2 ^ i) (10 * a + i + 1) (p + gdN xs t w l i) (gfd (fun u f b => gv (gdN xs t w) (tMany t) k (u + 2 ^ f) (10 * a + f + 1) (p + gdN xs t w (tMany t - (k + 1)) f) b) u i b) N hsN htN hpN g1 g2 nx.1 (by omega) (by omega) (by omega) (by omega)
          have stp : gfd (fun u f b => gv (gdN xs t w) (tMany t) k (u + 2 ^ f) (10 * a + f + 1) (p + gdN xs t w (tMany t - (k + 1)) f) b) u (i + 1) b = gv (gdN xs t w) (tMany t) k (u + 2 ^ i) (10 * a + i + 1) (p + gdN xs t w l i) (gfd (fun u f b => gv (gdN xs t w) (tMany t) k (u + 2 ^ f) (10 * a + f + 1) (p + gdN xs t w (tMany t - (k + 1)) f) b) u i b) := by
            show (if frB u i = true then gv (gdN xs t w) (tMany t) k (u + 2 ^ i) (10 * a + i + 1) (p + gdN xs t w (tMany t - (k + 1)) i) _ else _) = _
            rw [if_pos z, em]
          have w6 : w32 (w32 (6 * (l : Int)) + (i : Int)) = ((6 * l + i : Nat) : Int) := by
            rw [show w32 (6 * (l : Int)) = ((6 * l : Nat) : Int) from w32_e (by omega) (by omega) (by omega)]
            exact w32_e (by omega) (by omega) (by omega)
          have wd : w32 (w32 (w32 (10 * (a : Int)) + (i : Int)) + 1) = ((10 * a + i + 1 : Nat) : Int) := by
            clear w6
            rw [show w32 (10 * (a : Int)) = ((10 * a : Nat) : Int) from w32_e (by omega) (by omega) (by omega), show w32 (((10 * a : Nat) : Int) + (i : Int)) = ((10 * a + i : Nat) : Int) from w32_e (by omega) (by omega) (by omega)]
            exact w_s _ (by omega)
          have wp : w32 ((p : Int) + ((gdN xs t w l i : Nat) : Int)) = ((p + gdN xs t w l i : Nat) : Int) := by
            clear w6 wd
            exact w32_e (by omega) (by omega) (by omega)
          rw [if_neg (fun y => y ((shr_u hu hi6).mpr z)), if_pos (show og K0 7 107 32 = true from rfl), Sk_m32 hsN, w6, wd, or_u hu hi6 z]
          clear w6 wd
          rw [hg, wp]
          clear wp
          rw [if_pos (ag_117 (by omega) (by omega)), if_pos (show rg K0 7 107 = true from rfl), w_s l (by omega), show vc sc (d + (k + 1)) 179 [(2, 107), (0, ((l + 1 : Nat) : Int)), (0, ((u + 2 ^ i : Nat) : Int)), (0, ((10 * a + i + 1 : Nat) : Int)), (0, ((p + gdN xs t w l i : Nat) : Int))] (K0, N) = _ from a1, Option.bind_some]
          show ∃ N', vr sc (d + (k + 1)) c_X7_gives (85, [(2, 107), (0, (l : Int)), (0, (u : Int)), (0, (a : Int)), (0, (p : Int)), (0, (i : Int))], [], (K0, N1)) = _ ∧ _
          rw [e_X7_gives_85, w_s i (by omega)]
          exact ihj (i + 1) N1 (by omega) (by omega) (hf.tr a2) (by rw [stp]; exact a3) (by rw [stp]; exact a4)
        · have stp : gfd (fun u f b => gv (gdN xs t w) (tMany t) k (u + 2 ^ f) (10 * a + f + 1) (p + gdN xs t w (tMany t - (k + 1)) f) b) u (i + 1) b = gfd (fun u f b => gv (gdN xs t w) (tMany t) k (u + 2 ^ f) (10 * a + f + 1) (p + gdN xs t w (tMany t - (k + 1)) f) b) u i b := if_neg z
          rw [if_pos (fun y => z ((shr_u hu hi6).mp y)), e_X7_gives_85, w_s i (by omega)]
          exact ihj (i + 1) N (by omega) (by omega) hf (by rw [stp]; exact g1) (by rw [stp]; exact g2)
    exact key 6 0 M rfl (by omega) (fun _ _ _ => rfl) h1 h2
theorem best_r {sc : dS} {d : Nat} {M : dM} (hs : Sk M) {t : Tn} (ht : rT M t) (hok : okT t) {xs : List (List Int)} (hx : rXs M xs) (hxs : okXs xs) (hr : (tRule t).toNat < xs.length) {so : Nat → Int} {sl : Nat → List Int} (hos : okS so sl) (hc : ∀ n : Nat, n < 4 → rS M n (so n) (sl n)) (s v : Int) : ∃ M' : dM, vc sc (d + 50) 180 [(2, 107), (0, s), (0, v)] (K0, M) = some ([(0, bestF xs t so sl s v)], (K0, M')) ∧ Fr M M' := by
  have o5 := hok.1.2.2.2.2.2
  rw [vc_s (md := m_X7_best) (L := [(2, 107), (0, s), (0, v), (3, 0)]) rfl (Nat.le_of_ble_eq_true rfl) rfl]
  show ∃ M', vr sc (d + 49) c_X7_best (0, [(2, 107), (0, s), (0, v), (3, 0)], [], (K0, M)) = _ ∧ _
  rw [e_X7_best_0, isSheet7_ok, Option.bind_some]
  show ∃ M', vr sc (d + 49) c_X7_best (4, [(2, 107), (0, s), (0, v), (3, 0)], [(0, _)], (K0, M)) = _ ∧ _
  rw [e_X7_best_4]
  unfold bestF
  by_cases p : ¬ (0 ≤ s ∧ s < 4)
  · rw [bi_f p, if_pos rfl, if_neg p]
    exact ⟨M, rfl, Fr.rf _⟩
  have p := Classical.not_not.mp p
  rw [bi_t p, if_neg (by decide), if_pos p, in_ok, Option.bind_some]
  show ∃ M', vr sc (d + 49) c_X7_best (14, [(2, 107), (0, s), (0, v), (3, 0)], [(0, _)], (K0, M)) = _ ∧ _
  rw [e_X7_best_14]
  by_cases q : ¬ (0 ≤ v ∧ v ≤ 1)
  · rw [bi_f q, if_neg (fun z => z rfl), if_neg q]
    exact ⟨M, rfl, Fr.rf _⟩
  have q := Classical.not_not.mp q
  obtain ⟨n, rfl⟩ : ∃ j : Nat, s = j := ⟨s.toNat, by omega⟩
  have hn : n < 4 := by omega
  have cn := hc n hn
  have on := hos n hn
  rw [bi_t q, if_pos (by decide), if_pos q, if_pos (show rg K0 7 107 = true from rfl), wordBad_ok (d := d + 47) hs hn on.1 cn, Option.bind_some, Int.toNat_natCast]
  show ∃ M', vr sc (d + 49) c_X7_best (25, [(2, 107), (0, (n : Int)), (0, v), (3, 0)], [(0, hearc (so n) (sl n))], (K0, M)) = _ ∧ _
  rw [e_X7_best_25]
  by_cases hh : ¬ hearc (so n) (sl n) = 0
  · rw [if_neg hh, if_neg hh]
    exact ⟨M, rfl, Fr.rf _⟩
  have hh := Classical.not_not.mp hh
  have h0 := hearc_0 hh
  have hl := h0.2.1
  have ho : 0 ≤ so n := by have := on.1; have := h0.1; omega
  obtain ⟨M1, a1, a2, a3⟩ := tellsPass_ok (sc := sc) (d := d) hs ht hok hx hxs hr hn ho hl cn
  have hs1 := a2.sk hs
  have ht1 := ht.fr a2
  rw [if_pos hh, if_pos hh, if_pos (show rg K0 7 107 = true from rfl), a1, Option.bind_some, hh]
  show ∃ M', vr sc (d + 49) c_X7_best (37, [(2, 107), (0, (n : Int)), (0, v), (0, 0)], [], (K0, M1)) = _ ∧ _
  have f2 : FG M1 (d_up (d_up M1 107 33 0) 107 34 (-1)) := (FG.up (Or.inl rfl) _).tr (FG.up (Or.inr rfl) _)
  obtain ⟨M3, b1, b2, b3, b4⟩ := gives_ok (sc := sc) (d := d + (48 - tMany t)) hok (xs := xs) (w := sl n) (tMany t) 0 0 0 0 (0, -1) (d_up (d_up M1 107 33 0) 107 34 (-1)) (f2.fr.sk hs1) (ht1.fr f2.fr) (fun y hy => (f2 117 _ (fun z => absurd z.1 (by decide))).trans (a3 y hy)) ((d_up_n2 _ (by decide)).trans (d_up_at _ _ _ _)) (d_up_at _ _ _ _) (by decide) (by decide) (by omega) (by decide) (by decide)
  rw [show d + (48 - tMany t) + tMany t + 1 = d + 49 by omega] at b1
  rw [gv_ok _ _ _ _ _ _ _ (by decide) (by show 0 + tMany t ≤ 5; omega), Nat.zero_add, if_pos (show (-1 : Int) < ((wv (gdN xs t (sl n)) (tMany t) (tMany t) 0 : Nat) : Int) by omega)] at b3 b4
  rw [e_X7_best_37, if_pos (show og K0 7 107 33 = true from rfl), if_pos (by decide), if_pos (show og K0 7 107 34 = true from rfl), if_pos (by decide), if_pos (show rg K0 7 107 = true from rfl), show vc sc (d + 49) 179 [(2, 107), (0, 0), (0, 0), (0, 0), (0, 0)] (K0, d_up (d_up M1 107 33 0) 107 34 (-1)) = _ from b1, Option.bind_some]
  show ∃ M', vr sc (d + 49) c_X7_best (55, [(2, 107), (0, (n : Int)), (0, v), (0, 0)], [], (K0, M3)) = _ ∧ _
  rw [e_X7_best_55]
  refine ⟨M3, ?_, a2.tr (f2.fr.tr b2.fr)⟩
  by_cases v0 : v = 0
  · rw [if_neg (fun y => y v0), if_pos v0, if_pos (show og K0 7 107 33 = true from rfl), b3]
  · rw [if_pos v0, if_neg v0, if_pos (show og K0 7 107 34 = true from rfl), b4]
