/-! film, reference side -/
theorem film_r {sc : dS} {d : Nat} {M : dM} (hs : Sk M) {t : Tn} (ht : rT M t) (hok : okT t) {xs : List (List Int)} (hx : rXs M xs) (hxs : okXs xs) (hr : (tRule t).toNat < xs.length) {so : Nat → Int} {sl : Nat → List Int} (hoS : okS so sl) (hc : ∀ n : Nat, n < 4 → rS M n (so n) (sl n)) (s x : Int) : ∃ M' : dM, vc sc (d + 49) 189 [(2, 107), (0, s), (0, x)] (K0, M) = some ([(0, filmF xs t s x)], (K0, M')) ∧ Sk M' ∧ FSRs M M' ∧ ∀ j : Nat, j < 4 → rS M' j (filmO t so s x j) (filmL xs t sl s x j) := by
  rw [vc_s (md := m_X7_film) (L := [(2, 107), (0, s), (0, x), (3, 0), (3, 0)]) rfl (Nat.le_of_ble_eq_true rfl) rfl]
  show ∃ M', vr sc (d + 48) c_X7_film (0, [(2, 107), (0, s), (0, x), (3, 0), (3, 0)], [], (K0, M)) = _ ∧ _
  have rg1 : rg K0 7 107 = true := rfl
  rw [e_X7_film_0, isSheet7_ok (d := d + 46), Option.bind_some]
  show ∃ M', vr sc (d + 48) c_X7_film (4, [(2, 107), (0, s), (0, x), (3, 0), (3, 0)], [(0, _)], (K0, M)) = _ ∧ _
  rw [e_X7_film_4]
  have same : FSRs M M := fun _ _ _ _ _ => rfl
  have no : ¬ ((0 ≤ s ∧ s < 4) ∧ 0 ≤ x ∧ x < (tMany t : Int)) → ¬ filmB t s x = true := fun z y => z (of_decide_eq_true y)
  unfold filmF filmO filmL
  by_cases p : ¬ (0 ≤ s ∧ s < 4)
  · rw [bi_f p, if_pos rfl, if_neg p, if_neg (no (fun z => p z.1)), if_neg (no (fun z => p z.1))]
    exact ⟨M, rfl, hs, same, hc⟩
  have p := Classical.not_not.mp p
  obtain ⟨n, rfl⟩ : ∃ j : Nat, s = j := ⟨s.toNat, by omega⟩
  have hn : n < 4 := by omega
  rw [bi_t p, if_neg (by decide), if_pos p, if_pos rg1, isLad_ok (d := d + 46) hok.1.2.2.2.2.2 ht.1.2.2.2, Option.bind_some]
  show ∃ M', vr sc (d + 48) c_X7_film (12, [(2, 107), (0, (n : Int)), (0, x), (3, 0), (3, 0)], [(0, _)], (K0, M)) = _ ∧ _
  rw [e_X7_film_12]
  by_cases q : ¬ (0 ≤ x ∧ x < (tMany t : Int))
  · rw [bi_f q, if_neg (fun z => z rfl), if_neg q, if_neg (no (fun z => q z.2)), if_neg (no (fun z => q z.2))]
    exact ⟨M, rfl, hs, same, hc⟩
  have q := Classical.not_not.mp q
  obtain ⟨l, rfl⟩ : ∃ j : Nat, x = j := ⟨x.toNat, by omega⟩
  have yB : filmB t (n : Int) (l : Int) = true := decide_eq_true ⟨p, q⟩
  have sB : sheetB (n : Int) 0 13 = true := decide_eq_true ⟨p, Or.inr (by decide)⟩
  obtain ⟨M1, a1, a2, a3, a4⟩ := sheet_r (sc := sc) (d := d + 45) hs hoS hc (n : Int) 0 13 (by decide)
  have esF : sheetF (n : Int) 0 13 = 1 := by
    unfold sheetF
    rw [if_pos p]
    rfl
  have e5 : ∀ j : Nat, j < 4 → rS M1 j (upf so n 0 j) (upf sl n (List.replicate 13 0) j) := fun j hj => by
    have := a4 j hj
    unfold sheetO sheetL at this
    rw [if_pos sB, if_pos sB, Int.toNat_natCast] at this
    exact this
  have en := e5 n hn
  rw [upd_at, upd_at] at en
  have en2 := en.2 (by decide)
  rw [bi_t q, if_pos (by decide), if_pos q, if_pos yB, if_pos yB, if_pos rg1, a1, Option.bind_some, Int.toNat_natCast, Int.toNat_natCast]
  show ∃ M', vr sc (d + 48) c_X7_film (26, [(2, 107), (0, (n : Int)), (0, (l : Int)), (3, 0), (3, 0)], [(0, _)], (K0, M1)) = _ ∧ _
  have key : ∀ (m i : Nat) (N : dM), 13 - i = m → i ≤ 13 → Sk N → rT N t → rXs N xs → (∀ j : Nat, j < i → N 124 ((40 * n + j : Nat) : Int) = flS xs t l j) → ∃ N' : dM, vr sc (d + 48) c_X7_film (32, [(2, 107), (0, (n : Int)), (0, (l : Int)), (0, ((flN xs t l i : Nat) : Int)), (0, (i : Int))], [], (K0, N)) = some ([(0, ((flN xs t l 13 : Nat) : Int))], (K0, N')) ∧ Sk N' ∧ (∀ a k : Int, (a = 107 → k < 13 ∨ 27 < k) → (a = 124 → k < 40 * (n : Int) ∨ 40 * (n : Int) + 40 ≤ k) → N' a k = N a k) ∧ ∀ j : Nat, j < 13 → N' 124 ((40 * n + j : Nat) : Int) = flS xs t l j := by
    intro m
    induction m with
    | zero =>
      intro i N hm hi hs ht hx hj
      have e : i = 13 := by omega
      subst e
      rw [e_X7_film_32, if_pos (by decide)]
      exact ⟨N, rfl, hs, fun _ _ _ _ => rfl, hj⟩
    | succ m ih =>
      intro i N hm hi hs ht hx hj
      have r := strF_r (xs := xs) (t := t) (l := l) (f := 0) (n := i)
      have fl := flN_le xs t l i
      obtain ⟨N1, b1, b2⟩ := holdsOf_ok (sc := sc) (d := d) hs ht hok hx hxs hr (l := l) (f := 0) (n := i) (by omega) (by omega) (by omega)
      have hs1 := b2.fr.sk hs
      have f2 : FRs n N1 (d_up N1 124 ((40 * n + i : Nat) : Int) (strF xs t l 0 i)) := FRs.i (by omega) _
      have hs2 := f2.sk hs1
      have ht2 := rT_fr f2.fr (ht.rz b2)
      have hx2 := rXs_fr f2.fr (hx.rz b2)
      obtain ⟨N3, c1, c2⟩ := holdsOf_ok (sc := sc) (d := d) hs2 ht2 hok hx2 hxs hr (l := l) (f := 0) (n := i) (by omega) (by omega) (by omega)
      have w := w_t40 n i (by omega) (by omega)
      rw [e_X7_film_32, if_neg (by clear w; omega), if_pos (show og K0 7 107 45 = true from rfl), if_pos rg1, show vc sc (d + 48) 164 [(2, 107), (0, (l : Int)), (0, 0), (0, (i : Int))] (K0, N) = _ from b1, Option.bind_some, (Sk_m42 hs).2.2.2, w]
      clear w
      show ∃ N', vr sc (d + 48) c_X7_film (58, [(2, 107), (0, (n : Int)), (0, (l : Int)), (0, ((flN xs t l i : Nat) : Int)), (0, (i : Int))], [(0, strF xs t l 0 i), (0, ((40 * n + i : Nat) : Int)), (2, 124)], (K0, N1)) = _ ∧ _
      rw [e_X7_film_58, if_pos (ag_124 (by omega) (by omega)), if_pos rg1, show vc sc (d + 48) 164 [(2, 107), (0, (l : Int)), (0, 0), (0, (i : Int))] (K0, d_up N1 124 ((40 * n + i : Nat) : Int) (strF xs t l 0 i)) = _ from c1, Option.bind_some]
      show ∃ N', vr sc (d + 48) c_X7_film (68, [(2, 107), (0, (n : Int)), (0, (l : Int)), (0, ((flN xs t l i : Nat) : Int)), (0, (i : Int))], [(0, strF xs t l 0 i), (0, ((flN xs t l i : Nat) : Int))], (K0, N3)) = _ ∧ _
      have ew : w32 (((flN xs t l i : Nat) : Int) + strF xs t l 0 i) = ((flN xs t l (i + 1) : Nat) : Int) := by
        show w32 _ = ((flN xs t l i + (strF xs t l 0 i).toNat : Nat) : Int)
        exact w32_e (by omega) (by omega) (by omega)
      rw [e_X7_film_68, ew, w_s i (by clear ew; omega)]
      clear ew
      have e3 : ∀ k : Int, N3 124 k = (d_up N1 124 ((40 * n + i : Nat) : Int) (strF xs t l 0 i)) 124 k := fun k => c2 _ _ (fun z => absurd z (by decide))
      have e1 : ∀ k : Int, N1 124 k = N 124 k := fun k => b2 _ _ (fun z => absurd z (by decide))
      obtain ⟨N', g1, g2, g3, g4⟩ := ih (i + 1) N3 (by omega) (by omega) (c2.fr.sk hs2) (ht2.rz c2) (hx2.rz c2) (fun j hj2 => by
        rw [e3]
        by_cases z : j = i
        · subst z; rw [d_up_at]; rfl
        · rw [d_up_n2 _ (by omega), e1]
          exact hj j (by omega))
      exact ⟨N', g1, g2, fun a k h0 h1 => (g3 a k h0 h1).trans ((c2 a k h0).trans (Eq.trans (if_neg (by rintro ⟨rfl, rfl⟩; have := h1 rfl; omega)) (b2 a k h0))), g4⟩
  obtain ⟨M2, b1, b2, b3, b4⟩ := key 13 0 M1 rfl (by omega) a2 (rT_fr a3 ht) (rXs_fr a3 hx) (fun j hj => absurd hj (Nat.not_lt_zero j))
  rw [e_X7_film_26, show vr sc (d + 48) c_X7_film (32, [(2, 107), (0, (n : Int)), (0, (l : Int)), (0, 0), (0, 0)], [], (K0, M1)) = _ from b1]
  refine ⟨M2, rfl, b2, fun a k g0 g1 g2 => (b3 a k (fun z => (g2 z).1) (fun z => by omega)).trans (a3 a k g0), fun j hj => ?_⟩
  by_cases z : j = n
  · subst z
    rw [upd_at, upd_at]
    refine ⟨(b3 _ _ (fun y => absurd y (by decide)) (fun y => absurd y (by decide))).trans en.1, fun _ => ⟨(b3 _ _ (fun y => absurd y (by decide)) (fun y => absurd y (by decide))).trans en2.1, (b3 _ _ (fun y => absurd y (by decide)) (fun y => absurd y (by decide))).trans (en2.2.1.trans (by rw [flL_len]; rfl)), fun i hi => ?_⟩⟩
    rw [flL_get hi]
    exact b4 i (by rw [flL_len] at hi; exact hi)
  · have cj := e5 j hj
    rw [upd_n z, upd_n z] at cj
    rw [upd_n z, upd_n z]
    have l40 := (hoS j hj).2.2
    exact ⟨(b3 _ _ (fun y => absurd y (by decide)) (fun y => absurd y (by decide))).trans cj.1, fun ho => ⟨(b3 _ _ (fun y => absurd y (by decide)) (fun y => absurd y (by decide))).trans (cj.2 ho).1, (b3 _ _ (fun y => absurd y (by decide)) (fun y => absurd y (by decide))).trans (cj.2 ho).2.1, fun i hi => (b3 _ _ (fun y => absurd y (by decide)) (fun _ => by omega)).trans ((cj.2 ho).2.2 i hi)⟩⟩
