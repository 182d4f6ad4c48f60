/-! lad and taken, both sides -/
def tAdd (t : Tn) (k n : Int) : Tn := ((tDay t, tWet t, tRule t, tMany t + 1), fun i => if i = tMany t then k else tKind t i, fun i => if i = tMany t then n else tNum t i, fun i => if i = tMany t then 10 else tSkl t i, tWlk t, tBy t, tKn t)
def ladF (t : Tn) (k n : Int) : Int := if 0 ≤ k ∧ k < 6 then (if 0 ≤ n ∧ n ≤ 9 then (if tMany t < 5 then (tMany t : Int) else -4) else -2) else -2
def ladS (t : Tn) (k n : Int) : Tn := if 0 ≤ k ∧ k < 6 then (if 0 ≤ n ∧ n ≤ 9 then (if tMany t < 5 then tAdd t k n else t) else t) else t
theorem okT_lad {t : Tn} (h : okT t) (k n : Int) : okT (ladS t k n) := by
  unfold ladS
  by_cases p : 0 ≤ k ∧ k < 6
  · rw [if_pos p]
    by_cases q : 0 ≤ n ∧ n ≤ 9
    · rw [if_pos q]
      by_cases r : tMany t < 5
      · rw [if_pos r]
        refine ⟨⟨h.1.1, h.1.2.1, h.1.2.2.1, h.1.2.2.2.1, h.1.2.2.2.2.1, by show tMany t + 1 ≤ 5; omega⟩, fun j hj => ?_, fun j hj => ?_⟩
        · have o := h.2.1 j hj
          show 0 ≤ (if j = tMany t then k else tKind t j) ∧ (if j = tMany t then k else tKind t j) < 6 ∧ 0 ≤ (if j = tMany t then n else tNum t j) ∧ (if j = tMany t then n else tNum t j) ≤ 9 ∧ 0 ≤ (if j = tMany t then 10 else tSkl t j) ∧ (if j = tMany t then 10 else tSkl t j) ≤ 99
          by_cases z : j = tMany t
          · rw [if_pos z, if_pos z, if_pos z]; omega
          · rw [if_neg z, if_neg z, if_neg z]; exact o
        · have o := h.2.2 j hj
          exact ⟨o.1, o.2.1, o.2.2.1, by show tBy t j < ((tMany t + 1 : Nat) : Int); omega, o.2.2.2.2⟩
      · rw [if_neg r]; exact h
    · rw [if_neg q]; exact h
  · rw [if_neg p]; exact h
theorem lad_c {sc : dS} {d : Nat} {M : dM} (hs : Sk M) {t : Tn} (ht : cT M 1 t) (hok : okT t) (k n : Int) : ∃ M' : dM, vc sc (d + 2) 62 [(2, 0), (0, k), (0, n)] (K0, M) = some ([(0, ladF t k n)], (K0, M')) ∧ FT 1 M M' ∧ cT M' 1 (ladS t k n) := by
  rw [vc_s (md := m_X6_lad) (L := [(2, 0), (0, k), (0, n)]) rfl (Nat.le_of_ble_eq_true rfl) rfl]
  show ∃ M', vr sc (d + 1) c_X6_lad (0, [(2, 0), (0, k), (0, n)], [], (K0, M)) = _ ∧ _
  rw [e_X6_lad_0, isKind_ok, Option.bind_some]
  show ∃ M', vr sc (d + 1) c_X6_lad (4, [(2, 0), (0, k), (0, n)], [(0, _)], (K0, M)) = _ ∧ _
  rw [e_X6_lad_4]
  unfold ladF ladS
  by_cases p : ¬ (0 ≤ k ∧ k < 6)
  · rw [bi_f p, if_pos rfl, if_neg p, if_neg p]
    exact ⟨M, rfl, FT.rf _ _, ht⟩
  have p := Classical.not_not.mp p
  rw [bi_t p, if_neg (by decide), isWithin_ok, Option.bind_some, if_pos p, if_pos p]
  show ∃ M', vr sc (d + 1) c_X6_lad (13, [(2, 0), (0, k), (0, n)], [(0, _)], (K0, M)) = _ ∧ _
  rw [e_X6_lad_13]
  by_cases q : ¬ (0 ≤ n ∧ n ≤ 9)
  · rw [bi_f q, if_neg (fun z => z rfl), if_neg q, if_neg q]
    exact ⟨M, rfl, FT.rf _ _, ht⟩
  have q := Classical.not_not.mp q
  rw [bi_t q, if_pos (by decide), if_pos q, if_pos q, if_pos (show og K0 6 0 0 = true from rfl), (Sk_00 hs).1, if_pos (rg_tn isT_1), vc_s (md := m_X5_add) (L := [(2, 1), (0, k), (0, n)]) rfl (Nat.le_of_ble_eq_true rfl) rfl]
  show ∃ M', (vr sc d c_X5_add (0, [(2, 1), (0, k), (0, n)], [], (K0, M))).bind _ = _ ∧ _
  have e28 : ∀ (N : dM) (v : Int), ((some ([((0 : Nat), v)], (K0, N)) : Option (List dV × dH)).bind fun r => vr sc (d + 1) c_X6_lad (28, [(2, 0), (0, k), (0, n)], r.1 ++ [], r.2)) = some ([(0, v)], (K0, N)) := fun N v => by
    rw [Option.bind_some]
    show vr sc (d + 1) c_X6_lad (28, [(2, 0), (0, k), (0, n)], [(0, v)], (K0, N)) = _
    rw [e_X6_lad_28]
  have hT := isT_1
  have g : ∀ b : Nat, b < 10 → og K0 5 1 b = true := fun b hb => og_tn hT hb
  rw [e_X5_add_0, if_pos (g 3 (by decide)), ht.1.2.2.2, if_neg (by omega), if_pos (g 3 (by decide))]
  by_cases r : ¬ tMany t < 5
  · rw [if_neg (by omega), e28, if_neg r, if_neg r]
    exact ⟨M, rfl, FT.rf _ _, ht⟩
  have r := Classical.not_not.mp r
  have f1 : FT 1 M (d_up M 2 (tMany t : Int) k) := FT.up (Or.inr (Or.inl (by decide))) _
  have m1 : (d_up M 2 (tMany t : Int) k) 1 3 = (tMany t : Int) := (d_up_n1 _ (by decide)).trans ht.1.2.2.2
  have f2 : FT 1 (d_up M 2 (tMany t : Int) k) (d_up (d_up M 2 (tMany t : Int) k) 3 (tMany t : Int) n) := FT.up (Or.inr (Or.inl (by decide))) _
  have m2 : (d_up (d_up M 2 (tMany t : Int) k) 3 (tMany t : Int) n) 1 3 = (tMany t : Int) := (d_up_n1 _ (by decide)).trans m1
  have f3 : FT 1 (d_up (d_up M 2 (tMany t : Int) k) 3 (tMany t : Int) n) (d_up (d_up (d_up M 2 (tMany t : Int) k) 3 (tMany t : Int) n) 4 (tMany t : Int) 10) := FT.up (Or.inr (Or.inl (by decide))) _
  have m3 : (d_up (d_up (d_up M 2 (tMany t : Int) k) 3 (tMany t : Int) n) 4 (tMany t : Int) 10) 1 3 = (tMany t : Int) := (d_up_n1 _ (by decide)).trans m2
  have s1 := f1.sk hT hs
  have s2 := f2.sk hT s1
  have q1 := Sk_T hs hT
  have q2 := Sk_T s1 hT
  have q3 := Sk_T s2 hT
  rw [if_pos (by omega), if_pos (g 4 (by decide)), if_pos (g 3 (by decide)), q1.1, show (1 : Int) + 1 = 2 from rfl, if_pos (show ag K0 8 2 (tMany t : Int) = true from ag_t1 hT (by omega) (by omega)), if_pos (g 5 (by decide)), if_pos (g 3 (by decide)), q2.2.1, m1, show (1 : Int) + 2 = 3 from rfl, if_pos (show ag K0 8 3 (tMany t : Int) = true from ag_t2 hT (by omega) (by omega)), if_pos (g 6 (by decide)), if_pos (g 3 (by decide)), q3.2.2.1, m2, show (1 : Int) + 3 = 4 from rfl, if_pos (show ag K0 8 4 (tMany t : Int) = true from ag_t3 hT (by omega) (by omega)), if_pos (g 3 (by decide)), if_pos (g 3 (by decide)), m3, w_s _ (by omega), if_pos ⟨by omega, by omega⟩, if_pos (g 3 (by decide)), d_up_at, w_p _ (by omega), e28, if_pos r, if_pos r]
  refine ⟨_, rfl, ((f1.tr f2).tr f3).tr (FT.up (Or.inl (by decide)) _), ?_⟩
  have e : ∀ x j : Int, x ≠ 2 → x ≠ 3 → x ≠ 4 → ¬ (x = 1 ∧ j = 3) → (d_up (d_up (d_up (d_up M 2 (tMany t : Int) k) 3 (tMany t : Int) n) 4 (tMany t : Int) 10) 1 3 ((tMany t + 1 : Nat) : Int)) x j = M x j := fun x j h1 h2 h3 h4 => (if_neg h4).trans ((d_up_n1 _ h3).trans ((d_up_n1 _ h2).trans (d_up_n1 _ h1)))
  refine ⟨⟨(e _ _ (by decide) (by decide) (by decide) (by decide)).trans ht.1.1, (e _ _ (by decide) (by decide) (by decide) (by decide)).trans ht.1.2.1, (e _ _ (by decide) (by decide) (by decide) (by decide)).trans ht.1.2.2.1, d_up_at _ _ _ _⟩, fun j hj => ?_, fun j hj => ?_⟩
  · have o := ht.2.1 j hj
    show _ = (if j = tMany t then k else tKind t j) ∧ _ = (if j = tMany t then n else tNum t j) ∧ _ = (if j = tMany t then 10 else tSkl t j)
    rw [d_up_n1 _ (show (1 : Int) + 1 ≠ 1 by decide), d_up_n1 _ (show (1 : Int) + 1 ≠ 4 by decide), d_up_n1 _ (show (1 : Int) + 1 ≠ 3 by decide), d_up_n1 _ (show (1 : Int) + 2 ≠ 1 by decide), d_up_n1 _ (show (1 : Int) + 2 ≠ 4 by decide), d_up_n1 _ (show (1 : Int) + 3 ≠ 1 by decide), show (1 : Int) + 1 = 2 from rfl, show (1 : Int) + 2 = 3 from rfl, show (1 : Int) + 3 = 4 from rfl]
    by_cases z : j = tMany t
    · rw [if_pos z, if_pos z, if_pos z, z, d_up_at, d_up_at, d_up_at]
      exact ⟨rfl, rfl, rfl⟩
    · rw [if_neg z, if_neg z, if_neg z]
      exact ⟨(d_up_n2 _ (by omega)).trans o.1, (d_up_n2 _ (by omega)).trans ((d_up_n1 _ (by decide)).trans o.2.1), (d_up_n2 _ (by omega)).trans ((d_up_n1 _ (by decide)).trans ((d_up_n1 _ (by decide)).trans o.2.2))⟩
  · have o := ht.2.2 j hj
    exact ⟨(e _ _ (by decide) (by decide) (by decide) (by omega)).trans o.1, (e _ _ (by decide) (by decide) (by decide) (by omega)).trans o.2.1, o.2.2.up (e _ _ (by omega) (by omega) (by omega) (by omega)) fun i _ _ => e _ _ (by omega) (by omega) (by omega) (by omega)⟩
theorem lad_r {sc : dS} {d : Nat} {M : dM} (hs : Sk M) {t : Tn} (ht : rT M t) (hok : okT t) (k n : Int) : ∃ M' : dM, vc sc (d + 2) 124 [(2, 107), (0, k), (0, n)] (K0, M) = some ([(0, ladF t k n)], (K0, M')) ∧ FV M M' ∧ rT M' (ladS t k n) := by
  have m5 := hok.1.2.2.2.2.2
  rw [vc_s (md := m_X7_lad) (L := [(2, 107), (0, k), (0, n)]) rfl (Nat.le_of_ble_eq_true rfl) rfl]
  show ∃ M', vr sc (d + 1) c_X7_lad (0, [(2, 107), (0, k), (0, n)], [], (K0, M)) = _ ∧ _
  rw [e_X7_lad_0, in_ok, Option.bind_some]
  show ∃ M', vr sc (d + 1) c_X7_lad (9, [(2, 107), (0, k), (0, n)], [(0, _)], (K0, M)) = _ ∧ _
  rw [e_X7_lad_9]
  unfold ladF ladS
  by_cases p : ¬ (0 ≤ k ∧ k ≤ 5)
  · rw [bi_f p, if_pos rfl, if_neg (show ¬ (0 ≤ k ∧ k < 6) by omega), if_neg (show ¬ (0 ≤ k ∧ k < 6) by omega)]
    exact ⟨M, rfl, FV.rf _, ht⟩
  have p := Classical.not_not.mp p
  rw [bi_t p, if_neg (by decide), in_ok, Option.bind_some, if_pos (show 0 ≤ k ∧ k < 6 by omega), if_pos (show 0 ≤ k ∧ k < 6 by omega)]
  show ∃ M', vr sc (d + 1) c_X7_lad (21, [(2, 107), (0, k), (0, n)], [(0, _)], (K0, M)) = _ ∧ _
  rw [e_X7_lad_21]
  by_cases q : ¬ (0 ≤ n ∧ n ≤ 9)
  · rw [bi_f q, if_neg (fun z => z rfl), if_neg q, if_neg q]
    exact ⟨M, rfl, FV.rf _, ht⟩
  have q := Classical.not_not.mp q
  have g12 : og K0 7 107 12 = true := rfl
  have g9 : og K0 7 107 9 = true := rfl
  have a15 : ∀ i : Int, 0 ≤ i → i < 15 → ag K0 8 111 i = true := fun i h0 h1 => ag_of (n := 15) rfl h0 h1
  rw [bi_t q, if_pos (by decide), if_pos q, if_pos q, if_pos g12, ht.1.2.2.2]
  by_cases r : ¬ tMany t < 5
  · rw [if_neg (by omega), if_neg r, if_neg r]
    exact ⟨M, rfl, FV.rf _, ht⟩
  have r := Classical.not_not.mp r
  have wa : w32 (w32 (3 * (tMany t : Int)) + 1) = ((3 * tMany t + 1 : Nat) : Int) := w_t3 _ 1 (by omega) (by omega)
  have wb : w32 (w32 (3 * (tMany t : Int)) + 2) = ((3 * tMany t + 2 : Nat) : Int) := w_t3 _ 2 (by omega) (by omega)
  have f1 : FV M (d_up M 111 ((3 * tMany t : Nat) : Int) n) := FV.upA (by decide) _ _
  have t1 := rT_nm ht (l := tMany t) n
  have f2 : FV (d_up M 111 ((3 * tMany t : Nat) : Int) n) (d_up (d_up M 111 ((3 * tMany t : Nat) : Int) n) 111 ((3 * tMany t + 1 : Nat) : Int) 10) := FV.upA (by decide) _ _
  have t2 := rT_sk t1 (l := tMany t) 10
  have f3 : FV (d_up (d_up M 111 ((3 * tMany t : Nat) : Int) n) 111 ((3 * tMany t + 1 : Nat) : Int) 10) (d_up (d_up (d_up M 111 ((3 * tMany t : Nat) : Int) n) 111 ((3 * tMany t + 1 : Nat) : Int) 10) 111 ((3 * tMany t + 2 : Nat) : Int) k) := FV.upA (by decide) _ _
  have t3 := rT_kd t2 (l := tMany t) k
  have s1 := f1.sk hs
  have s2 := f2.sk s1
  have e12 : ∀ N : dM, rT N (tNm t (tMany t) n) → N 107 12 = (tMany t : Int) := fun N h => h.1.2.2.2
  rw [if_pos (by clear wa wb; omega), if_pos g9, if_pos g12, Sk_m9b hs, w_m3 _ (by clear wa wb; omega), if_pos (a15 _ (by clear wa wb; omega) (by clear wa wb; omega)), if_pos g9, if_pos g12, Sk_m9b s1, show (d_up M 111 ((3 * tMany t : Nat) : Int) n) 107 12 = (tMany t : Int) from t1.1.2.2.2, wa, if_pos (a15 _ (by clear wa wb; omega) (by clear wa wb; omega)), if_pos g9, if_pos g12, Sk_m9b s2, show (d_up (d_up M 111 ((3 * tMany t : Nat) : Int) n) 111 ((3 * tMany t + 1 : Nat) : Int) 10) 107 12 = (tMany t : Int) from t2.1.2.2.2, wb, if_pos (a15 _ (by clear wa wb; omega) (by clear wa wb; omega)), if_pos g12, if_pos g12, show (d_up (d_up (d_up M 111 ((3 * tMany t : Nat) : Int) n) 111 ((3 * tMany t + 1 : Nat) : Int) 10) 111 ((3 * tMany t + 2 : Nat) : Int) k) 107 12 = (tMany t : Int) from t3.1.2.2.2, w_s _ (by clear wa wb; omega)]
  clear wa wb
  rw [if_pos ⟨by omega, by omega⟩, if_pos g12, d_up_at, w_p _ (by omega), if_pos r, if_pos r]
  refine ⟨_, rfl, ((f1.tr f2).tr f3).tr (FV.up7 (by decide) _), ?_⟩
  generalize d_up (d_up (d_up M 111 ((3 * tMany t : Nat) : Int) n) 111 ((3 * tMany t + 1 : Nat) : Int) 10) 111 ((3 * tMany t + 2 : Nat) : Int) k = N at *
  have e : ∀ j : Int, j ≠ 12 → (d_up N 107 12 ((tMany t + 1 : Nat) : Int)) 107 j = N 107 j := fun j h => d_up_n2 _ h
  exact ⟨⟨(e _ (by decide)).trans t3.1.1, (e _ (by decide)).trans t3.1.2.1, (e _ (by decide)).trans t3.1.2.2.1, d_up_at _ _ _ _⟩, fun j hj => ⟨(d_up_n1 _ (by decide)).trans (t3.2.1 j hj).1, (d_up_n1 _ (by decide)).trans (t3.2.1 j hj).2.1, (d_up_n1 _ (by decide)).trans (t3.2.1 j hj).2.2⟩, fun j hj => ⟨(d_up_n1 _ (by decide)).trans (t3.2.2 j hj).1, (d_up_n1 _ (by decide)).trans (t3.2.2 j hj).2.1, (d_up_n1 _ (by decide)).trans (t3.2.2 j hj).2.2.1, fun i hi => (d_up_n1 _ (by decide)).trans ((t3.2.2 j hj).2.2.2 i hi)⟩⟩
