/-! best, class side: whole -/
def bestF (xs : List (List Int)) (t : Tn) (so : Nat → Int) (sl : Nat → List Int) (s v : Int) : Int := if 0 ≤ s ∧ s < 4 then (if 0 ≤ v ∧ v ≤ 1 then (if hearc (so s.toNat) (sl s.toNat) = 0 then (if v = 0 then ((dgt (gdN xs t (sl s.toNat)) (tMany t) (tMany t) 0 0 : Nat) : Int) else ((wv (gdN xs t (sl s.toNat)) (tMany t) (tMany t) 0 : Nat) : Int)) else hearc (so s.toNat) (sl s.toNat)) else -2) else -2
theorem p10 {l : Nat} (h : l ≤ 5) : 10 ^ l ≤ 100000 := (by decide : ∀ l ∈ List.range 6, 10 ^ l ≤ 100000) l (List.mem_range.mpr (by omega))
theorem digits_ok {sc : dS} {d : Nat} {M : dM} (hs : Sk M) {t : Tn} (ht : cT M 1 t) (hok : okT t) {xs : List (List Int)} {w : List Int} (hg : gpS xs t w M) (hm : mpS (gdN xs t w) (tMany t) 0 M) : vc sc (d + 4) 82 [(2, 0)] (K0, M) = some ([(0, ((dgt (gdN xs t w) (tMany t) (tMany t) 0 0 : Nat) : Int))], (K0, M)) := by
  have o5 := hok.1.2.2.2.2.2
  rw [vc_s (md := m_X6_bestDigits) (L := [(2, 0), (3, 0), (3, 0), (3, 0), (3, 0)]) rfl (Nat.le_of_ble_eq_true rfl) rfl]
  show vr sc (d + 3) c_X6_bestDigits (0, [(2, 0), (3, 0), (3, 0), (3, 0), (3, 0)], [], (K0, M)) = _
  rw [e_X6_bestDigits_0]
  have key : ∀ (k l u a : Nat) (q : dV), l + k = tMany t → u < 64 → popc u = l → a < 10 ^ l → vr sc (d + 3) c_X6_bestDigits (6, [(2, 0), (0, (a : Int)), (0, (u : Int)), (0, (l : Int)), q], [], (K0, M)) = some ([(0, ((dgt (gdN xs t w) (tMany t) k u a : Nat) : Int))], (K0, M)) := by
    intro k
    induction k with
    | zero =>
      intro l u a q hl hu hp ha
      rw [e_X6_bestDigits_6, if_pos (show og K0 6 0 0 = true from rfl), (Sk_00 hs).1, if_pos (og_tn isT_1 (by decide)), ht.1.2.2.2, if_pos (by omega)]
      rfl
    | succ k ih =>
      intro l u a q hl hu hp ha
      have ex := fr_ex hu (by omega) (Wf (gdN xs t w) (tMany t) k u)
      have nx := fr_nx hu ex.1 ex.2
      have hb := fbf_ok (sc := sc) (d := d) hs ht hok hg hu hm (by omega)
      rw [if_pos (by omega), show tMany t - popc u - 1 = k by omega] at hb
      have pl := p10 (l := l) (by omega)
      have pl2 := p10 (l := l + 1) (by omega)
      have ps : 10 ^ (l + 1) = 10 ^ l * 10 := Nat.pow_succ _ _
      have stp : dgt (gdN xs t w) (tMany t) (k + 1) u a = dgt (gdN xs t w) (tMany t) k (u + 2 ^ bf (Wf (gdN xs t w) (tMany t) k u) u 6) (10 * a + bf (Wf (gdN xs t w) (tMany t) k u) u 6 + 1) := rfl
      rw [stp]
      generalize bf (Wf (gdN xs t w) (tMany t) k u) u 6 = f at *
      rw [e_X6_bestDigits_6, if_pos (show og K0 6 0 0 = true from rfl), (Sk_00 hs).1, if_pos (og_tn isT_1 (by decide)), ht.1.2.2.2, if_neg (by omega), if_pos (show rg K0 6 0 = true from rfl), hb, Option.bind_some]
      show vr sc (d + 3) c_X6_bestDigits (22, [(2, 0), (0, (a : Int)), (0, (u : Int)), (0, (l : Int)), q], [(0, (f : Int))], (K0, M)) = _
      have w1 : w32 (10 * (a : Int)) = ((10 * a : Nat) : Int) := w32_e (by omega) (by omega) (by omega)
      have w2 : w32 (((10 * a : Nat) : Int) + (f : Int)) = ((10 * a + f : Nat) : Int) := w32_e (by omega) (by clear w1; omega) (by clear w1; omega)
      have w3 := w_s (10 * a + f) (by clear w1 w2; omega)
      rw [e_X6_bestDigits_22, w1, w2, w3, or_u hu ex.1 ex.2, w_s l (by clear w1 w2 w3; omega)]
      clear w1 w2 w3
      exact ih (l + 1) (u + 2 ^ f) (10 * a + f + 1) (0, (f : Int)) (by omega) nx.1 (by omega) (by omega)
  exact key (tMany t) 0 0 0 (3, 0) (by omega) (by decide) (by decide) (by decide)
theorem best_c {sc : dS} {d : Nat} {M : dM} (hs : Sk M) {t : Tn} (ht : cT M 1 t) (hok : okT t) {xs : List (List Int)} (hx : cXs M xs) (hxs : okXs xs) (hr : (tRule t).toNat < xs.length) {so : Nat → Int} {sl : Nat → List Int} (hc : ∀ n : Nat, n < 4 → cS M n (so n) (sl n)) (s v : Int) : ∃ M' : dM, vc sc (d + 8) 78 [(2, 0), (0, s), (0, v)] (K0, M) = some ([(0, bestF xs t so sl s v)], (K0, M')) ∧ Fr M M' := by
  have o5 := hok.1.2.2.2.2.2
  rw [vc_s (md := m_X6_best) (L := [(2, 0), (0, s), (0, v), (3, 0), (3, 0), (3, 0)]) rfl (Nat.le_of_ble_eq_true rfl) rfl]
  show ∃ M', vr sc (d + 7) c_X6_best (0, [(2, 0), (0, s), (0, v), (3, 0), (3, 0), (3, 0)], [], (K0, M)) = _ ∧ _
  rw [e_X6_best_0, isSheet_ok, Option.bind_some]
  show ∃ M', vr sc (d + 7) c_X6_best (4, [(2, 0), (0, s), (0, v), (3, 0), (3, 0), (3, 0)], [(0, _)], (K0, M)) = _ ∧ _
  rw [e_X6_best_4]
  unfold bestF
  by_cases p : ¬ (0 ≤ s ∧ s < 4)
  · rw [bi_f p, if_pos rfl, if_neg p]
    exact ⟨M, rfl, Fr.rf _⟩
  have p := Classical.not_not.mp p
  rw [bi_t p, if_neg (by decide), if_pos p, isWithin_ok, Option.bind_some]
  show ∃ M', vr sc (d + 7) c_X6_best (12, [(2, 0), (0, s), (0, v), (3, 0), (3, 0), (3, 0)], [(0, _)], (K0, M)) = _ ∧ _
  rw [e_X6_best_12]
  by_cases q : ¬ (0 ≤ v ∧ v ≤ 1)
  · rw [bi_f q, if_neg (fun z => z rfl), if_neg q]
    exact ⟨M, rfl, Fr.rf _⟩
  have q := Classical.not_not.mp q
  obtain ⟨n, rfl⟩ : ∃ j : Nat, s = j := ⟨s.toNat, by omega⟩
  have hn : n < 4 := by omega
  have cn := hc n hn
  obtain ⟨M1, a1, a2, a3⟩ := hear_ok (sc := sc) (d := d + 5) hs hn cn
  rw [bi_t q, if_pos (by decide), if_pos q, if_pos (show rg K0 6 0 = true from rfl), a1, Option.bind_some, Int.toNat_natCast]
  show ∃ M', vr sc (d + 7) c_X6_best (23, [(2, 0), (0, (n : Int)), (0, v), (3, 0), (3, 0), (3, 0)], [(0, hearc (so n) (sl n))], (K0, M1)) = _ ∧ _
  rw [e_X6_best_23]
  by_cases hh : ¬ hearc (so n) (sl n) = 0
  · rw [if_neg hh, if_neg hh]
    exact ⟨M1, rfl, a2.s91⟩
  have hh := Classical.not_not.mp hh
  have hl := (hearc_0 hh).2.1
  have hk := a3 hh
  have hs1 := a2.s91.sk hs
  have ht1 := ht.fr (Or.inl rfl) a2.s91
  have hx1 := hx.fr hxs.1 a2.s91
  obtain ⟨M2, b1, b2, b3⟩ := good_ok (sc := sc) (d := d) hs1 ht1 hok hx1 hxs hr hl hk
  have f2 := a2.s91.tr b2
  have hs2 := f2.sk hs
  rw [if_pos hh, if_pos hh, if_pos (show rg K0 6 0 = true from rfl), b1, Option.bind_some, hh]
  show ∃ M', vr sc (d + 7) c_X6_best (34, [(2, 0), (0, (n : Int)), (0, v), (0, 0), (3, 0), (3, 0)], [], (K0, M2)) = _ ∧ _
  rw [e_X6_best_34, if_pos (show og K0 6 0 11 = true from rfl), (Sk_10 hs2).2, if_pos kn_98.1, kn_98.2]
  have key : ∀ (m : Nat) (q5 : dV) (N : dM), m ≤ 64 → Fr M N → gpS xs t (sl n) N → mpS (gdN xs t (sl n)) (tMany t) m N → ∃ N' : dM, vr sc (d + 7) c_X6_best (43, [(2, 0), (0, (n : Int)), (0, v), (0, 0), (0, (m : Int) - 1), q5], [], (K0, N)) = some ([(0, if v = 0 then ((dgt (gdN xs t (sl n)) (tMany t) (tMany t) 0 0 : Nat) : Int) else ((wv (gdN xs t (sl n)) (tMany t) (tMany t) 0 : Nat) : Int))], (K0, N')) ∧ Fr M N' := by
    intro m
    induction m with
    | zero =>
      intro q5 N hm hf hg hmp
      have hsN := hf.sk hs
      have htN := ht.fr (Or.inl rfl) hf
      rw [e_X6_best_43, if_pos (by omega)]
      by_cases v0 : v = 0
      · rw [if_neg (fun y => y v0), if_pos v0, if_pos (show rg K0 6 0 = true from rfl), digits_ok (d := d + 3) hsN htN hok hg hmp, Option.bind_some]
        show ∃ N', vr sc (d + 7) c_X6_best (95, [(2, 0), (0, (n : Int)), (0, v), (0, 0), (0, _), q5], [(0, _)], (K0, N)) = _ ∧ _
        rw [e_X6_best_95]
        exact ⟨N, rfl, hf⟩
      · have e0 := hmp 0 (by omega) (by decide)
        rw [if_pos v0, if_neg v0, if_pos (show og K0 6 0 11 = true from rfl), (Sk_10 hsN).2, if_pos (ag_98 (by decide) (by decide))]
        refine ⟨N, ?_, hf⟩
        rw [show N 98 0 = N 98 ((0 : Nat) : Int) from rfl, e0]
        rfl
    | succ m ih =>
      intro q5 N hm hf hg hmp
      have hsN := hf.sk hs
      have htN := ht.fr (Or.inl rfl) hf
      have hm64 : m < 64 := by omega
      have hb := fbf_ok (sc := sc) (d := d + 4) hsN htN hok hg hm64 hmp (by omega)
      have fin : ∀ (q5 : dV) (val : Int), val = ((wv (gdN xs t (sl n)) (tMany t) (tMany t - popc m) m : Nat) : Int) → ∃ N' : dM, vr sc (d + 7) c_X6_best (43, [(2, 0), (0, (n : Int)), (0, v), (0, 0), (0, (m : Int) - 1), q5], [], (K0, d_up N 98 (m : Int) val)) = some ([(0, if v = 0 then ((dgt (gdN xs t (sl n)) (tMany t) (tMany t) 0 0 : Nat) : Int) else ((wv (gdN xs t (sl n)) (tMany t) (tMany t) 0 : Nat) : Int))], (K0, N')) ∧ Fr M N' := fun q5 val hv => by
        refine ih q5 (d_up N 98 (m : Int) val) (by omega) (hf.tr (Fr.up (by decide +kernel) _ _)) (fun l hl => (d_up_n1 _ (by decide)).trans (hg l hl)) (fun u h1 h2 => ?_)
        by_cases z : u = m
        · rw [z, d_up_at, hv]
        · rw [d_up_n2 _ (by omega)]
          exact hmp u (by omega) h2
      have wm : w32 ((m : Int) + (-1)) = (m : Int) - 1 := w32_e (by omega) (by omega) (by omega)
      rw [e_X6_best_43, if_neg (by clear wm; omega), show ((m + 1 : Nat) : Int) - 1 = (m : Int) by clear wm; omega, if_pos (show rg K0 6 0 = true from rfl), hb, Option.bind_some]
      show ∃ N', vr sc (d + 7) c_X6_best (54, [(2, 0), (0, (n : Int)), (0, v), (0, 0), (0, (m : Int)), q5], [(0, if popc m < tMany t then ((bf (Wf (gdN xs t (sl n)) (tMany t) (tMany t - popc m - 1) m) m 6 : Nat) : Int) else -1)], (K0, N)) = _ ∧ _
      rw [e_X6_best_54, if_pos (show og K0 6 0 11 = true from rfl), (Sk_10 hsN).2]
      by_cases c : popc m < tMany t
      · obtain ⟨k, hk⟩ : ∃ k : Nat, popc m + (k + 1) = tMany t := ⟨tMany t - popc m - 1, by omega⟩
        have ex := fr_ex hm64 (by omega) (Wf (gdN xs t (sl n)) (tMany t) k m)
        have ev : wv (gdN xs t (sl n)) (tMany t) (tMany t - popc m) m = Wf (gdN xs t (sl n)) (tMany t) k m (bf (Wf (gdN xs t (sl n)) (tMany t) k m) m 6) := by
          rw [show tMany t - popc m = k + 1 by omega, wv_s]
        have ps := pass_ok (sc := sc) (d := d + 5) hsN hok hg hm64 ex.1 ex.2 hk hmp (by omega)
        rw [if_pos c, show tMany t - popc m - 1 = k by omega]
        generalize bf (Wf (gdN xs t (sl n)) (tMany t) k m) m 6 = f at *
        rw [if_pos (show ¬ (f : Int) = -1 by omega), if_pos (show rg K0 6 0 = true from rfl), ps, Option.bind_some]
        show ∃ N', vr sc (d + 7) c_X6_best (80, [(2, 0), (0, (n : Int)), (0, v), (0, 0), (0, (m : Int)), (0, (f : Int))], [(0, _), (0, (m : Int)), (2, 98)], (K0, N)) = _ ∧ _
        rw [e_X6_best_80, if_pos (ag_98 (by omega) (by omega)), wm]
        exact fin _ _ (by rw [ev])
      · rw [if_neg c, if_neg (by decide), e_X6_best_80, if_pos (ag_98 (by omega) (by omega)), wm]
        exact fin _ _ (by rw [show tMany t - popc m = 0 by omega]; rfl)
  exact key 64 (3, 0) M2 (by omega) f2 b3 (fun u h1 h2 => absurd h1 (by omega))
