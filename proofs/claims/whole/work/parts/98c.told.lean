/-! told, reference side -/
theorem isOf_ok {sc : dS} {d : Nat} {M : dM} {n : Nat} (hn : n ≤ 5) (hM : M 107 12 = n) {w : Int} (h0 : 0 ≤ w) (of : Int) : vc sc (d + 3) 120 [(2, 107), (0, w), (0, of)] (K0, M) = some ([(0, bi (w < 2 ∨ (2 ≤ w ∧ (w = 4 ∨ 6 < w) ∧ 0 ≤ of ∧ of < 6) ∨ (2 ≤ w ∧ ¬ (w = 4 ∨ 6 < w) ∧ 0 ≤ of ∧ of < (n : Int))))], (K0, M)) := by
  rw [vc_s (md := m_X7_isOf) (L := [(2, 107), (0, w), (0, of)]) rfl (Nat.le_of_ble_eq_true rfl) rfl]
  show vr sc (d + 2) c_X7_isOf _ = _
  rw [e_X7_isOf_0]
  have e20 : ∀ (p : Prop) [Decidable p], vr sc (d + 2) c_X7_isOf (20, [(2, 107), (0, w), (0, of)], [(0, bi p)], (K0, M)) = some ([(0, bi p)], (K0, M)) := fun p _ => by
    rw [e_X7_isOf_20]
    by_cases q : p
    · rw [bi_t q, if_neg (by decide)]
    · rw [bi_f q, if_pos rfl]
  have e31 : ∀ (p : Prop) [Decidable p], vr sc (d + 2) c_X7_isOf (31, [(2, 107), (0, w), (0, of)], [(0, bi p)], (K0, M)) = some ([(0, bi p)], (K0, M)) := fun p _ => by
    rw [e_X7_isOf_31]
    by_cases q : p
    · rw [bi_t q, if_neg (by decide)]
    · rw [bi_f q, if_pos rfl]
  by_cases p : w < 2
  · rw [if_pos p, bi_t (Or.inl p)]
  rw [if_neg p]
  by_cases k4 : w = 4
  · rw [if_pos k4, isFoot7_ok (d := d), Option.bind_some]
    refine (e20 _).trans ?_
    refine congrArg (fun v => some ([((0 : Nat), v)], (K0, M))) (bi_iff ?_)
    omega
  rw [if_neg k4]
  by_cases k6 : w ≤ 6
  · rw [if_pos k6, if_pos (show rg K0 7 107 = true from rfl), isLad_ok (d := d) hn hM, Option.bind_some]
    refine (e31 _).trans ?_
    refine congrArg (fun v => some ([((0 : Nat), v)], (K0, M))) (bi_iff ?_)
    omega
  · rw [if_neg k6, isFoot7_ok (d := d), Option.bind_some]
    refine (e20 _).trans ?_
    refine congrArg (fun v => some ([((0 : Nat), v)], (K0, M))) (bi_iff ?_)
    omega
theorem w_t32 (l : Nat) (h : l < 1000) (w : Int) (hw : w = 2 ∨ w = 3) : w32 (w32 (w32 (3 * (l : Int)) + w) - 2) = 3 * (l : Int) + w - 2 := by
  have e : w32 (3 * (l : Int)) = 3 * (l : Int) := w32_i (by omega) (by omega)
  rw [e]
  clear e
  have e : w32 (3 * (l : Int) + w) = 3 * (l : Int) + w := w32_i (by omega) (by omega)
  rw [e]
  clear e
  exact w32_i (by omega) (by omega)
theorem told_r {sc : dS} {d : Nat} {M : dM} (hs : Sk M) {t : Tn} (ht : rT M t) (hok : okT t) {xs : List (List Int)} (hx : rXs M xs) (hxs : okXs xs) (hr : (tRule t).toNat < xs.length) (of w : Int) : ∃ M' : dM, vc sc (d + 52) 125 [(2, 107), (0, of), (0, w)] (K0, M) = some ([(0, toldF xs t of w)], (K0, M')) ∧ RU M M' := by
  rw [vc_s (md := m_X7_told) (L := [(2, 107), (0, of), (0, w)]) rfl (Nat.le_of_ble_eq_true rfl) rfl]
  show ∃ M', vr sc (d + 51) c_X7_told (0, [(2, 107), (0, of), (0, w)], [], (K0, M)) = _ ∧ _
  have m1 := hok.1.2.2.2.2.2
  have a15 : ∀ i : Int, 0 ≤ i → i < 15 → ag K0 8 111 i = true := fun i h0 h1 => ag_of (n := 15) rfl h0 h1
  rw [e_X7_told_0, in_ok, Option.bind_some]
  show ∃ M', vr sc (d + 51) c_X7_told (9, [(2, 107), (0, of), (0, w)], [(0, _)], (K0, M)) = _ ∧ _
  rw [e_X7_told_9]
  by_cases p : ¬ (0 ≤ w ∧ w ≤ 9)
  · rw [bi_f p, if_pos rfl]
    unfold toldF
    rw [if_neg (by omega), if_neg (by omega), if_neg (by omega), if_neg (by omega), if_neg (by omega), if_neg (by omega), if_neg (by omega), if_neg (by omega), if_neg (by omega), if_neg (by omega)]
    exact ⟨M, rfl, RU.rf _⟩
  have p := Classical.not_not.mp p
  rw [bi_t p, if_neg (by decide), if_pos (show rg K0 7 107 = true from rfl), isOf_ok (d := d + 48) m1 ht.1.2.2.2 p.1, Option.bind_some]
  show ∃ M', vr sc (d + 51) c_X7_told (18, [(2, 107), (0, of), (0, w)], [(0, _)], (K0, M)) = _ ∧ _
  rw [e_X7_told_18]
  have e111 : ∀ (N : dM) (v : Int), vr sc (d + 51) c_X7_told (111, [(2, 107), (0, of), (0, w)], [(0, v)], (K0, N)) = some ([(0, v)], (K0, N)) := fun N v => by rw [e_X7_told_111]
  have e151 : ∀ (N : dM) (v : Int), vr sc (d + 51) c_X7_told (151, [(2, 107), (0, of), (0, w)], [(0, v)], (K0, N)) = some ([(0, v)], (K0, N)) := fun N v => by rw [e_X7_told_151]
  unfold toldF
  by_cases k0 : w = 0
  · rw [bi_t (Or.inl (by omega)), if_pos (by decide), if_neg (show ¬ 4 ≤ w by omega), if_neg (fun z => z k0), if_pos (show og K0 7 107 7 = true from rfl), ht.1.1, if_pos k0]
    exact ⟨M, rfl, RU.rf _⟩
  rw [if_neg k0]
  by_cases k1 : w = 1
  · rw [bi_t (Or.inl (by omega)), if_pos (by decide), if_neg (show ¬ 4 ≤ w by omega), if_pos k0, if_neg (fun z => z k1), if_pos (show og K0 7 107 8 = true from rfl), ht.1.2.1, if_pos k1]
    exact ⟨M, rfl, RU.rf _⟩
  rw [if_neg k1]
  have h2 : 2 ≤ w := by omega
  by_cases hf : w = 4 ∨ 6 < w
  · by_cases q : ¬ (0 ≤ of ∧ of < 6)
    · rw [bi_f (by omega), if_neg (fun z => z rfl), if_neg (show ¬ w = 2 by omega), if_neg (show ¬ w = 3 by omega)]
      refine ⟨M, ?_, RU.rf _⟩
      by_cases k4 : w = 4
      · rw [if_pos k4, if_neg q]
      rw [if_neg k4, if_neg (show ¬ w = 5 by omega), if_neg (show ¬ w = 6 by omega)]
      by_cases k7 : w = 7
      · rw [if_pos k7, if_neg q]
      rw [if_neg k7]
      by_cases k8 : w = 8
      · rw [if_pos k8, if_neg q]
      · rw [if_neg k8, if_pos (show w = 9 by omega), if_neg q]
    have q := Classical.not_not.mp q
    obtain ⟨f, rfl⟩ : ∃ n : Nat, of = n := ⟨of.toNat, by omega⟩
    have hf6 : f < 6 := by omega
    have o3 := hok.2.2 f hf6
    have kt := ht.2.2 f hf6
    rw [bi_t (by omega), if_pos (by decide), if_pos (show 4 ≤ w by omega), if_neg (show ¬ w = 2 by omega), if_neg (show ¬ w = 3 by omega)]
    by_cases k4 : w = 4
    · rw [if_neg (show ¬ 7 ≤ w by omega), if_neg (fun z => z k4), if_pos (show og K0 7 107 10 = true from rfl), w_m3 f (by omega), (Sk_m10 hs).1, if_pos (ag_112 (by omega) (by omega)), kt.1, e111, if_pos k4, if_pos q]
      exact ⟨M, rfl, RU.rf _⟩
    rw [if_pos (show 7 ≤ w by omega), if_neg k4, if_neg (show ¬ w = 5 by omega), if_neg (show ¬ w = 6 by omega)]
    by_cases k7 : w = 7
    · have w31 : w32 (w32 (3 * (f : Int)) + 1) = ((3 * f + 1 : Nat) : Int) := w_t3 f 1 (by omega) (by omega)
      rw [if_neg (fun z => z k7), if_pos (show og K0 7 107 10 = true from rfl), w31, (Sk_m10 hs).1]
      clear w31
      rw [if_pos (ag_112 (by omega) (by omega)), kt.2.1, if_pos k7, if_pos q]
      exact ⟨M, rfl, RU.rf _⟩
    obtain ⟨M1, a1, a2, a3⟩ := takesFoot_ok (sc := sc) (d := d + 50) hs ht hok hf6
    have hs1 := a2.ru.sk hs
    rw [if_pos k7, if_neg k7, if_pos (show rg K0 7 107 = true from rfl), a1, Option.bind_some]
    show ∃ M', vr sc (d + 51) c_X7_told (134, [(2, 107), (0, (f : Int)), (0, w)], [], (K0, M1)) = _ ∧ _
    rw [e_X7_told_134]
    by_cases k8 : w = 8
    · rw [if_neg (fun z => z k8), if_pos (show rg K0 7 107 = true from rfl), wordNumber_ok (d := d + 50) hs1 o3.2.2.2.2.1 a3, Option.bind_some, if_pos k8, if_pos q]
      show ∃ M', vr sc (d + 51) c_X7_told (144, [(2, 107), (0, (f : Int)), (0, w)], [(0, _)], (K0, M1)) = _ ∧ _
      rw [e_X7_told_144, e151]
      exact ⟨M1, rfl, a2.ru⟩
    · obtain ⟨M2, b1, b2, b3⟩ := pulledSize_ok (sc := sc) (d := d + 47) hs1 o3.2.2.2.2.1 a3
      rw [if_pos k8, if_pos (show rg K0 7 107 = true from rfl), b1, Option.bind_some, if_neg k8, if_pos (show w = 9 by omega), if_pos q]
      exact ⟨M2, e151 _ _, a2.ru.tr b2.ru⟩
  · by_cases q : ¬ (0 ≤ of ∧ of < (tMany t : Int))
    · rw [bi_f (by omega), if_neg (fun z => z rfl)]
      refine ⟨M, ?_, RU.rf _⟩
      by_cases k2 : w = 2
      · rw [if_pos k2, if_neg q]
      rw [if_neg k2]
      by_cases k3 : w = 3
      · rw [if_pos k3, if_neg q]
      rw [if_neg k3, if_neg (show ¬ w = 4 by omega)]
      by_cases k5 : w = 5
      · rw [if_pos k5, if_neg q]
      · rw [if_neg k5, if_pos (show w = 6 by omega), if_neg q]
    have q := Classical.not_not.mp q
    rw [bi_t (by omega), if_pos (by decide)]
    obtain ⟨l, rfl⟩ : ∃ n : Nat, of = n := ⟨of.toNat, by omega⟩
    have hl5 : l < 5 := by omega
    have kt := ht.2.1 l hl5
    by_cases k23 : w = 2 ∨ w = 3
    · rw [if_neg (show ¬ 4 ≤ w by omega), if_pos k0, if_pos k1, if_pos (show og K0 7 107 9 = true from rfl), Sk_m9b hs, w_t32 l (by omega) w k23, if_pos (a15 _ (by omega) (by omega))]
      rcases k23 with k2 | k3
      · rw [if_pos k2, if_pos q, k2, show 3 * (l : Int) + 2 - 2 = ((3 * l : Nat) : Int) by omega, kt.1]
        exact ⟨M, rfl, RU.rf _⟩
      · rw [if_neg (show ¬ w = 2 by omega), if_pos k3, if_pos q, k3, show 3 * (l : Int) + 3 - 2 = ((3 * l + 1 : Nat) : Int) by omega, kt.2.1]
        exact ⟨M, rfl, RU.rf _⟩
    rw [if_pos (show 4 ≤ w by omega), if_neg (show ¬ 7 ≤ w by omega), if_pos (show ¬ w = 4 by omega), if_neg (show ¬ w = 2 by omega), if_neg (show ¬ w = 3 by omega), if_neg (show ¬ w = 4 by omega)]
    by_cases k5 : w = 5
    · have w32l : w32 (w32 (3 * (l : Int)) + 2) = ((3 * l + 2 : Nat) : Int) := w_t3 l 2 (by omega) (by omega)
      rw [if_neg (fun z => z k5), if_pos (show og K0 7 107 9 = true from rfl), Sk_m9b hs, w32l]
      clear w32l
      rw [if_pos (a15 _ (by omega) (by omega)), kt.2.2, e111, if_pos k5, if_pos q]
      exact ⟨M, rfl, RU.rf _⟩
    · obtain ⟨M1, a1, a2⟩ := passedBy_ok (sc := sc) (d := d) hs ht hok hx hxs hr (l : Int)
      rw [if_pos k5, if_pos (show rg K0 7 107 = true from rfl), a1, Option.bind_some, if_neg k5, if_pos (show w = 6 by omega), if_pos q]
      exact ⟨M1, e111 _ _, a2⟩
