/-! copy, reference side -/
theorem w_40ik (s i k : Nat) (hs : s < 100) (hi : i < 1000) (hk : k < 1000) : w32 (w32 (w32 (40 * (s : Int)) + (i : Int)) + (k : Int)) = ((40 * s + i + k : Nat) : Int) := by
  rw [w_t40 s i (by omega) (by omega)]
  exact w32_e (by omega) (by omega) (by omega)
def MV (A B k0 k1 : Nat) (M N : dM) : Prop := (∀ x j : Int, x ≠ 124 → N x j = M x j) ∧ ∀ a : Int, N 124 a = if (B : Int) + k0 ≤ a ∧ a < (B : Int) + k1 then M 124 ((A : Int) + (a - B)) else M 124 a
theorem copy_up0 {sc : dS} {d : Nat} {M : dM} (hs : Sk M) {s i y j n : Nat} (h1 : s < 4) (h2 : y < 4) (h3 : i + n ≤ 40) (h4 : j + n ≤ 40) (hd : s ≠ y ∨ j ≤ i) : ∀ (m k : Nat) (N : dM) (q8 : dV), n - k = m → k ≤ n → MV (40 * s + i) (40 * y + j) 0 k M N →
    ∃ N' : dM, vr sc d c_X7_copy (121, [(2, 107), (0, (s : Int)), (0, (i : Int)), (0, (y : Int)), (0, (j : Int)), (0, (n : Int)), (0, 0), (0, (k : Int)), q8], [], (K0, N)) = some ([(0, (n : Int))], (K0, N')) ∧ MV (40 * s + i) (40 * y + j) 0 n M N' := by
  intro m
  induction m with
  | zero =>
    intro k N q8 hm hk h
    have e : k = n := by omega
    subst e
    rw [e_X7_copy_121, if_pos (by omega)]
    exact ⟨N, rfl, h⟩
  | succ m ih =>
    intro k N q8 hm hk h
    have hsN : Sk N := Sk_of hs fun x jj hq => h.1 x jj (fun z => by rw [z, isRf_cell (a := 124) (by decide +kernel)] at hq; cases hq)
    have w1 := w_40ik s i k (by omega) (by omega) (by omega)
    have w2 := w_40ik y j k (by omega) (by omega) (by omega)
    have er : N 124 ((40 * s + i + k : Nat) : Int) = M 124 ((40 * s + i + k : Nat) : Int) := by
      clear w1 w2
      rw [h.2, if_neg (by omega)]
    rw [e_X7_copy_121, if_neg (by clear w1 w2; omega), if_pos rfl, if_pos (show og K0 7 107 45 = true from rfl), if_pos (show og K0 7 107 45 = true from rfl), (Sk_m42 hsN).2.2.2, w1, w2]
    clear w1 w2
    rw [if_pos (ag_124 (by omega) (by omega)), if_pos (ag_124 (by omega) (by omega)), er, w_s k (by omega)]
    exact ih (k + 1) _ _ (by omega) (by omega) ⟨fun x jj hx => (d_up_n1 _ hx).trans (h.1 x jj hx), fun a => by
      by_cases z : a = ((40 * y + j + k : Nat) : Int)
      · rw [z, d_up_at, if_pos (by omega)]
        exact congrArg (M 124) (by omega)
      · rw [d_up_n2 _ z, h.2]
        by_cases u : ((40 * y + j : Nat) : Int) + ((0 : Nat) : Int) ≤ a ∧ a < ((40 * y + j : Nat) : Int) + (k : Int)
        · rw [if_pos u, if_pos (by omega)]
        · rw [if_neg u, if_neg (by omega)]⟩
theorem copy_up1 {sc : dS} {d : Nat} {M : dM} (hs : Sk M) {s i y j n : Nat} (h1 : s < 4) (h2 : y < 4) (h3 : i + n ≤ 40) (h4 : j + n ≤ 40) (hd : s = y ∧ i < j) : ∀ (m k : Nat) (N : dM) (q8 : dV), n - k = m → k ≤ n → MV (40 * s + i) (40 * y + j) (n - k) n M N →
    ∃ N' : dM, vr sc d c_X7_copy (121, [(2, 107), (0, (s : Int)), (0, (i : Int)), (0, (y : Int)), (0, (j : Int)), (0, (n : Int)), (0, 1), (0, (k : Int)), q8], [], (K0, N)) = some ([(0, (n : Int))], (K0, N')) ∧ MV (40 * s + i) (40 * y + j) 0 n M N' := by
  intro m
  induction m with
  | zero =>
    intro k N q8 hm hk h
    have e : k = n := by omega
    subst e
    rw [Nat.sub_self] at h
    rw [e_X7_copy_121, if_pos (by omega)]
    exact ⟨N, rfl, h⟩
  | succ m ih =>
    intro k N q8 hm hk h
    have hsN : Sk N := Sk_of hs fun x jj hq => h.1 x jj (fun z => by rw [z, isRf_cell (a := 124) (by decide +kernel)] at hq; cases hq)
    have wq := w_q n k (by omega) (by omega)
    have w1 := w_40ik s i (n - 1 - k) (by omega) (by omega) (by omega)
    have w2 := w_40ik y j (n - 1 - k) (by omega) (by omega) (by omega)
    have er : N 124 ((40 * s + i + (n - 1 - k) : Nat) : Int) = M 124 ((40 * s + i + (n - 1 - k) : Nat) : Int) := by
      clear w1 w2 wq
      rw [h.2, if_neg (by omega)]
    rw [e_X7_copy_121, if_neg (by clear w1 w2 wq; omega), if_neg (by decide), if_pos (show og K0 7 107 45 = true from rfl), if_pos (show og K0 7 107 45 = true from rfl), (Sk_m42 hsN).2.2.2, wq, w1, w2]
    clear w1 w2 wq
    rw [if_pos (ag_124 (by omega) (by omega)), if_pos (ag_124 (by omega) (by omega)), er, w_s k (by omega)]
    exact ih (k + 1) _ _ (by omega) (by omega) ⟨fun x jj hx => (d_up_n1 _ hx).trans (h.1 x jj hx), fun a => by
      by_cases z : a = ((40 * y + j + (n - 1 - k) : Nat) : Int)
      · rw [z, d_up_at, if_pos (by omega)]
        exact congrArg (M 124) (by omega)
      · rw [d_up_n2 _ z, h.2]
        by_cases u : ((40 * y + j : Nat) : Int) + ((n - k : Nat) : Int) ≤ a ∧ a < ((40 * y + j : Nat) : Int) + (n : Int)
        · rw [if_pos u, if_pos (by omega)]
        · rw [if_neg u, if_neg (by omega)]⟩
theorem copy_r {sc : dS} {d : Nat} {M : dM} (hs : Sk M) {so : Nat → Int} {sl : Nat → List Int} (hok : okS so sl) (hc : ∀ n : Nat, n < 4 → rS M n (so n) (sl n)) (s i y j n : Int) (hn : -2147483648 ≤ n ∧ n < 2147483648) : ∃ M' : dM, vc sc (d + 3) 199 [(2, 107), (0, s), (0, i), (0, y), (0, j), (0, n)] (K0, M) = some ([(0, copyF so sl s i y j n)], (K0, M')) ∧ Sk M' ∧ FSR M M' ∧ ∀ a : Nat, a < 4 → rS M' a (so a) (copyL so sl s i y j n a) := by
  rw [vc_s (md := m_X7_copy) (L := [(2, 107), (0, s), (0, i), (0, y), (0, j), (0, n), (3, 0), (3, 0), (3, 0)]) rfl (Nat.le_of_ble_eq_true rfl) rfl]
  show ∃ M', vr sc (d + 2) c_X7_copy (0, [(2, 107), (0, s), (0, i), (0, y), (0, j), (0, n), (3, 0), (3, 0), (3, 0)], [], (K0, M)) = _ ∧ _
  rw [e_X7_copy_0, isSheet7_ok, Option.bind_some]
  show ∃ M', vr sc (d + 2) c_X7_copy (4, [(2, 107), (0, s), (0, i), (0, y), (0, j), (0, n), (3, 0), (3, 0), (3, 0)], [(0, _)], (K0, M)) = _ ∧ _
  rw [e_X7_copy_4]
  have same : FSR M M := fun _ _ _ => rfl
  unfold copyF copyL
  have no : ¬ (((0 ≤ s ∧ s < 4) ∧ 0 ≤ y ∧ y < 4) ∧ (¬ so s.toNat = -1 ∧ ¬ so y.toNat = -1) ∧ so s.toNat = so y.toNat ∧ (0 ≤ n ∧ 0 ≤ i ∧ 0 ≤ j) ∧ i ≤ ((sl s.toNat).length : Int) - n ∧ j ≤ ((sl y.toNat).length : Int) - n) → ¬ copyB so sl s i y j n = true := fun z w => z (of_decide_eq_true w)
  by_cases p : ¬ (0 ≤ s ∧ s < 4)
  · rw [bi_f p, if_pos rfl, if_neg p, if_neg (no (fun z => p z.1.1))]
    exact ⟨M, rfl, hs, same, hc⟩
  have p := Classical.not_not.mp p
  rw [bi_t p, if_neg (by decide), if_pos p, isSheet7_ok, Option.bind_some]
  show ∃ M', vr sc (d + 2) c_X7_copy (11, [(2, 107), (0, s), (0, i), (0, y), (0, j), (0, n), (3, 0), (3, 0), (3, 0)], [(0, _)], (K0, M)) = _ ∧ _
  rw [e_X7_copy_11]
  by_cases q : ¬ (0 ≤ y ∧ y < 4)
  · rw [bi_f q, if_neg (fun z => z rfl), if_neg q, if_neg (no (fun z => q z.1.2))]
    exact ⟨M, rfl, hs, same, hc⟩
  have q := Classical.not_not.mp q
  obtain ⟨a, rfl⟩ : ∃ k : Nat, s = k := ⟨s.toNat, by omega⟩
  obtain ⟨b, rfl⟩ : ∃ k : Nat, y = k := ⟨y.toNat, by omega⟩
  rw [Int.toNat_natCast, Int.toNat_natCast] at no
  have ha : a < 4 := by omega
  have hb : b < 4 := by omega
  have ca := hc a ha
  have cb := hc b hb
  have oa := hok a ha
  have ob := hok b hb
  have sm := Sk_m42 hs
  have g42 : og K0 7 107 42 = true := rfl
  have g43 : og K0 7 107 43 = true := rfl
  have g44 : og K0 7 107 44 = true := rfl
  rw [bi_t q, if_pos (by decide), if_pos q, Int.toNat_natCast, Int.toNat_natCast, if_pos g42, sm.1, if_pos (ag_121 (by omega) (by omega)), ca.1]
  by_cases o1 : so a = -1
  · rw [bi_f (by omega), if_pos rfl, if_pos o1, if_neg (no (fun z => z.2.1.1 o1))]
    exact ⟨M, rfl, hs, same, hc⟩
  have ra := ca.2 (by omega)
  rw [bi_t (show 0 ≤ so a by omega), if_neg (by decide), if_neg o1, if_pos g42, if_pos (ag_121 (by omega) (by omega)), cb.1]
  by_cases o2 : so b = -1
  · rw [bi_f (by omega), if_neg (fun z => z rfl), if_pos o2, if_neg (no (fun z => z.2.1.2 o2))]
    exact ⟨M, rfl, hs, same, hc⟩
  have rb := cb.2 (by omega)
  rw [bi_t (show 0 ≤ so b by omega), if_pos (by decide), if_neg o2, if_pos g43, sm.2.1, if_pos (ag_122 (by omega) (by omega)), if_pos g43, if_pos (ag_122 (by omega) (by omega)), ra.1, rb.1]
  by_cases o3 : ¬ so a = so b
  · rw [if_neg o3, if_neg o3, if_neg (no (fun z => o3 z.2.2.1))]
    exact ⟨M, rfl, hs, same, hc⟩
  have o3 := Classical.not_not.mp o3
  have nC : ¬ ((0 ≤ n ∧ 0 ≤ i ∧ 0 ≤ j) ∧ i ≤ ((sl a).length : Int) - n ∧ j ≤ ((sl b).length : Int) - n) → ¬ copyB so sl (a : Int) i (b : Int) j n = true := fun z => no (fun w => z w.2.2.2)
  rw [if_pos o3, if_pos o3]
  by_cases n0 : n < 0
  · rw [if_pos n0, if_neg (show ¬ ((0 ≤ n ∧ 0 ≤ i ∧ 0 ≤ j) ∧ i ≤ ((sl a).length : Int) - n ∧ j ≤ ((sl b).length : Int) - n) by omega), if_neg (nC (by omega))]
    exact ⟨M, rfl, hs, same, hc⟩
  rw [if_neg n0]
  by_cases i0 : i < 0
  · rw [if_pos i0, if_neg (show ¬ ((0 ≤ n ∧ 0 ≤ i ∧ 0 ≤ j) ∧ i ≤ ((sl a).length : Int) - n ∧ j ≤ ((sl b).length : Int) - n) by omega), if_neg (nC (by omega))]
    exact ⟨M, rfl, hs, same, hc⟩
  rw [if_neg i0]
  by_cases j0 : j < 0
  · rw [if_pos j0, if_neg (show ¬ ((0 ≤ n ∧ 0 ≤ i ∧ 0 ≤ j) ∧ i ≤ ((sl a).length : Int) - n ∧ j ≤ ((sl b).length : Int) - n) by omega), if_neg (nC (by omega))]
    exact ⟨M, rfl, hs, same, hc⟩
  have wa : w32 (((sl a).length : Int) - n) = ((sl a).length : Int) - n := w32_i (by omega) (by omega)
  have wb : w32 (((sl b).length : Int) - n) = ((sl b).length : Int) - n := w32_i (by omega) (by omega)
  rw [if_neg j0, if_pos g44, sm.2.2.1, if_pos (ag_123 (by clear wa wb; omega) (by clear wa wb; omega)), ra.2.1, wa]
  by_cases u : ((sl a).length : Int) - n < i
  · clear wa wb
    rw [if_pos u, if_neg (show ¬ ((0 ≤ n ∧ 0 ≤ i ∧ 0 ≤ j) ∧ i ≤ ((sl a).length : Int) - n ∧ j ≤ ((sl b).length : Int) - n) by omega), if_neg (nC (by omega))]
    exact ⟨M, rfl, hs, same, hc⟩
  rw [if_neg u, if_pos g44, if_pos (ag_123 (by clear wa wb; omega) (by clear wa wb; omega)), rb.2.1, wb]
  clear wa wb
  by_cases v : ¬ j ≤ ((sl b).length : Int) - n
  · rw [if_neg v, if_neg (show ¬ ((0 ≤ n ∧ 0 ≤ i ∧ 0 ≤ j) ∧ i ≤ ((sl a).length : Int) - n ∧ j ≤ ((sl b).length : Int) - n) by omega), if_neg (nC (by omega))]
    exact ⟨M, rfl, hs, same, hc⟩
  have v := Classical.not_not.mp v
  obtain ⟨I, rfl⟩ : ∃ k : Nat, i = k := ⟨i.toNat, by omega⟩
  obtain ⟨J, rfl⟩ : ∃ k : Nat, j = k := ⟨j.toNat, by omega⟩
  obtain ⟨N, rfl⟩ : ∃ k : Nat, n = k := ⟨n.toNat, by omega⟩
  have yB : copyB so sl (a : Int) (I : Int) (b : Int) (J : Int) (N : Int) = true := decide_eq_true ⟨⟨p, q⟩, ⟨by rw [Int.toNat_natCast]; exact o1, by rw [Int.toNat_natCast]; exact o2⟩, by rw [Int.toNat_natCast, Int.toNat_natCast]; exact o3, ⟨by omega, by omega, by omega⟩, by rw [Int.toNat_natCast]; omega, by rw [Int.toNat_natCast]; omega⟩
  rw [if_pos v, if_pos (show ((0 ≤ (N : Int) ∧ 0 ≤ (I : Int) ∧ 0 ≤ (J : Int)) ∧ (I : Int) ≤ ((sl a).length : Int) - N ∧ (J : Int) ≤ ((sl b).length : Int) - N) by omega), if_pos yB, Int.toNat_natCast, Int.toNat_natCast, Int.toNat_natCast]
  have fin : ∀ N' : dM, MV (40 * a + I) (40 * b + J) 0 N M N' → Sk N' ∧ FSR M N' ∧ ∀ k : Nat, k < 4 → rS N' k (so k) (upf sl b (cpl (sl a) (sl b) I J N) k) := by
    intro N' h
    have fr : FRs b M N' := fun x k g0 g1 => by
      by_cases z : x = 124
      · subst z
        have := g1 rfl
        rw [h.2, if_neg (by omega)]
      · exact h.1 x k z
    have hnew : rS N' b (so b) (cpl (sl a) (sl b) I J N) := by
      refine ⟨(h.1 _ _ (by decide)).trans cb.1, fun _ => ⟨(h.1 _ _ (by decide)).trans rb.1, (h.1 _ _ (by decide)).trans (by rw [cpl_len]; exact rb.2.1), fun k hk => ?_⟩⟩
      rw [cpl_get hk]
      rw [cpl_len] at hk
      rw [h.2]
      by_cases z : J ≤ k ∧ k < J + N
      · rw [if_pos (by omega), if_pos z, show ((40 * a + I : Nat) : Int) + (((40 * b + k : Nat) : Int) - ((40 * b + J : Nat) : Int)) = ((40 * a + (I + (k - J)) : Nat) : Int) by omega, ra.2.2 (I + (k - J)) (by omega), gdx_0]
      · rw [if_neg (by omega), if_neg z, rb.2.2 k hk, gdx_0]
    have hall := rS_upd hok hc hb fr hnew
    rw [upf_self] at hall
    exact ⟨fr.sk hs, fr.fr, hall⟩
  have mv0 : ∀ k : Nat, MV (40 * a + I) (40 * b + J) k k M M := fun k => ⟨fun _ _ _ => rfl, fun x => by rw [if_neg (by omega)]⟩
  by_cases ab : (a : Int) = b
  · rw [if_neg (fun z => z ab)]
    by_cases ij : (J : Int) ≤ I
    · rw [if_pos ij]
      obtain ⟨N', b1, b2⟩ := copy_up0 (sc := sc) (d := d + 2) hs (s := a) (i := I) (y := b) (j := J) (n := N) ha hb (by omega) (by omega) (Or.inr (by omega)) N 0 M (3, 0) rfl (by omega) (mv0 0)
      exact ⟨N', b1, fin N' b2⟩
    · rw [if_neg ij]
      obtain ⟨N', b1, b2⟩ := copy_up1 (sc := sc) (d := d + 2) hs (s := a) (i := I) (y := b) (j := J) (n := N) ha hb (by omega) (by omega) ⟨by omega, by omega⟩ N 0 M (3, 0) rfl (by omega) (mv0 N)
      exact ⟨N', b1, fin N' b2⟩
  · rw [if_pos ab]
    obtain ⟨N', b1, b2⟩ := copy_up0 (sc := sc) (d := d + 2) hs (s := a) (i := I) (y := b) (j := J) (n := N) ha hb (by omega) (by omega) (Or.inl (by omega)) N 0 M (3, 0) rfl (by omega) (mv0 0)
    exact ⟨N', b1, fin N' b2⟩
