/-! share and chance, both sides -/
def NOl : Int := -4611686018427387904
def sk1 (t : Tn) (i : Nat) : Nat := (tSkl t i).toNat
def ssum (t : Tn) : Nat → Nat
  | 0 => 0
  | n + 1 => ssum t n + sk1 t n
theorem sk1_ok {t : Tn} (hok : okT t) {i : Nat} (h : i < 5) : ((sk1 t i : Nat) : Int) = tSkl t i ∧ sk1 t i ≤ 99 := by
  have o := hok.2.1 i h
  unfold sk1
  omega
theorem ssum_le {t : Tn} (hok : okT t) : ∀ n : Nat, n ≤ 5 → ssum t n ≤ 99 * n := by
  intro n
  induction n with
  | zero => intro _; exact Nat.le_refl _
  | succ n ih =>
    intro h
    have a := ih (by omega)
    have b := (sk1_ok hok (i := n) (by omega)).2
    show ssum t n + sk1 t n ≤ _
    omega
def shareF (t : Tn) (x p : Int) : Int := if 0 ≤ x ∧ x < (tMany t : Int) then (if 0 ≤ p ∧ p ≤ 1 then (if ssum t (tMany t) = 0 then NOl else lowF (sk1 t x.toNat) (ssum t (tMany t)) p) else NOl) else NOl
theorem share_c {sc : dS} {d : Nat} {M : dM} (hs : Sk M) {t : Tn} (ht : cT M 1 t) (hok : okT t) (x p : Int) : vc sc (d + 2) 85 [(2, 0), (0, x), (0, p)] (K0, M) = some ([(1, shareF t x p)], (K0, M)) := by
  have m5 := hok.1.2.2.2.2.2
  rw [vc_s (md := m_X6_share) (L := [(2, 0), (0, x), (0, p), (3, 0), (3, 0)]) rfl (Nat.le_of_ble_eq_true rfl) rfl]
  show vr sc (d + 1) c_X6_share (0, [(2, 0), (0, x), (0, p), (3, 0), (3, 0)], [], (K0, M)) = _
  rw [e_X6_share_0, if_pos (show og K0 6 0 0 = true from rfl), (Sk_00 hs).1, if_pos (rg_tn isT_1), hasLad_ok isT_1, Option.bind_some, ht.1.2.2.2]
  show vr sc (d + 1) c_X6_share (8, [(2, 0), (0, x), (0, p), (3, 0), (3, 0)], [(0, _)], (K0, M)) = _
  rw [e_X6_share_8]
  unfold shareF
  by_cases q : ¬ (0 ≤ x ∧ x < (tMany t : Int))
  · rw [bi_f q, if_pos rfl, if_neg q]
    rfl
  have q := Classical.not_not.mp q
  rw [bi_t q, if_neg (by decide), isWithin_ok, Option.bind_some, if_pos q]
  show vr sc (d + 1) c_X6_share (16, [(2, 0), (0, x), (0, p), (3, 0), (3, 0)], [(0, _)], (K0, M)) = _
  rw [e_X6_share_16]
  by_cases r : ¬ (0 ≤ p ∧ p ≤ 1)
  · rw [bi_f r, if_neg (fun z => z rfl), if_neg r]
    rfl
  have r := Classical.not_not.mp r
  obtain ⟨l, rfl⟩ : ∃ n : Nat, x = n := ⟨x.toNat, by omega⟩
  have l5 : l < 5 := by omega
  rw [bi_t r, if_pos (by decide), if_pos r, Int.toNat_natCast]
  have key : ∀ (m i : Nat), tMany t - i = m → i ≤ tMany t → vr sc (d + 1) c_X6_share (28, [(2, 0), (0, (l : Int)), (0, p), (0, ((ssum t i : Nat) : Int)), (0, (i : Int))], [], (K0, M)) = vr sc (d + 1) c_X6_share (28, [(2, 0), (0, (l : Int)), (0, p), (0, ((ssum t (tMany t) : Nat) : Int)), (0, ((tMany t : Nat) : Int))], [], (K0, M)) := by
    intro m
    induction m with
    | zero =>
      intro i hm hi
      rw [show i = tMany t by omega]
    | succ m ih =>
      intro i hm hi
      have i5 : i < 5 := by omega
      have so := sk1_ok hok i5
      have sl := ssum_le hok i (by omega)
      rw [e_X6_share_28, if_pos (show og K0 6 0 0 = true from rfl), (Sk_00 hs).1, if_pos (og_tn isT_1 (by decide)), ht.1.2.2.2, if_neg (by omega), if_pos (show og K0 6 0 0 = true from rfl), if_pos (og_tn isT_1 (by decide)), (Sk_T hs isT_1).2.2.1, if_pos (ag_t3 isT_1 (by omega) (by omega)), (ht.2.1 i i5).2.2, ← so.1, w_ad _ _ (by omega) (by omega), w_s i (by omega)]
      exact ih (i + 1) (by omega) (by omega)
  have sl := ssum_le hok (tMany t) m5
  have so := sk1_ok hok l5
  rw [show vr sc (d + 1) c_X6_share (28, [(2, 0), (0, (l : Int)), (0, p), (0, 0), (0, 0)], [], (K0, M)) = _ from key (tMany t) 0 rfl (by omega), e_X6_share_28, if_pos (show og K0 6 0 0 = true from rfl), (Sk_00 hs).1, if_pos (og_tn isT_1 (by decide)), ht.1.2.2.2, if_pos (Int.le_refl _)]
  by_cases z : ssum t (tMany t) = 0
  · rw [if_neg (by omega), if_pos z]
    rfl
  · rw [if_pos (by omega), if_neg z, if_pos (show og K0 6 0 0 = true from rfl), if_pos (og_tn isT_1 (by decide)), (Sk_T hs isT_1).2.2.1, if_pos (ag_t3 isT_1 (by omega) (by omega)), (ht.2.1 l l5).2.2, ← so.1, lowest_c (by omega) (by omega) (by omega), Option.bind_some]
    show vr sc (d + 1) c_X6_share (81, [(2, 0), (0, (l : Int)), (0, p), (0, _), (0, _)], [(0, _)], (K0, M)) = _
    rw [e_X6_share_81]
theorem share_r {sc : dS} {d : Nat} {M : dM} (hs : Sk M) {t : Tn} (ht : rT M t) (hok : okT t) (x p : Int) : vc sc (d + 3) 185 [(2, 107), (0, x), (0, p)] (K0, M) = some ([(1, shareF t x p)], (K0, M)) := by
  have m5 := hok.1.2.2.2.2.2
  have a15 : ∀ i : Int, 0 ≤ i → i < 15 → ag K0 8 111 i = true := fun i h0 h1 => ag_of (n := 15) rfl h0 h1
  rw [vc_s (md := m_X7_share) (L := [(2, 107), (0, x), (0, p), (3, 0), (3, 0)]) rfl (Nat.le_of_ble_eq_true rfl) rfl]
  show vr sc (d + 2) c_X7_share (0, [(2, 107), (0, x), (0, p), (3, 0), (3, 0)], [], (K0, M)) = _
  rw [e_X7_share_0]
  have key : ∀ (m i : Nat), tMany t - i = m → i ≤ tMany t → vr sc (d + 2) c_X7_share (5, [(2, 107), (0, x), (0, p), (0, ((ssum t i : Nat) : Int)), (0, (i : Int))], [], (K0, M)) = vr sc (d + 2) c_X7_share (5, [(2, 107), (0, x), (0, p), (0, ((ssum t (tMany t) : Nat) : Int)), (0, ((tMany t : Nat) : Int))], [], (K0, M)) := by
    intro m
    induction m with
    | zero =>
      intro i hm hi
      rw [show i = tMany t by omega]
    | succ m ih =>
      intro i hm hi
      have i5 : i < 5 := by omega
      have so := sk1_ok hok i5
      have sl := ssum_le hok i (by omega)
      have w31 : w32 (w32 (3 * (i : Int)) + 1) = ((3 * i + 1 : Nat) : Int) := w_t3 i 1 (by omega) (by omega)
      rw [e_X7_share_5, if_pos (show og K0 7 107 12 = true from rfl), ht.1.2.2.2, if_neg (by clear w31; omega), if_pos (show og K0 7 107 9 = true from rfl), Sk_m9b hs, w31]
      clear w31
      rw [if_pos (a15 _ (by omega) (by omega)), (ht.2.1 i i5).2.1, ← so.1, w_ad _ _ (by omega) (by omega), w_s i (by omega)]
      exact ih (i + 1) (by omega) (by omega)
  have sl := ssum_le hok (tMany t) m5
  rw [show vr sc (d + 2) c_X7_share (5, [(2, 107), (0, x), (0, p), (0, 0), (0, 0)], [], (K0, M)) = _ from key (tMany t) 0 rfl (by omega), e_X7_share_5, if_pos (show og K0 7 107 12 = true from rfl), ht.1.2.2.2, if_pos (Int.le_refl _), if_pos (show rg K0 7 107 = true from rfl), isLad_ok (d := d) m5 ht.1.2.2.2, Option.bind_some]
  show vr sc (d + 2) c_X7_share (39, [(2, 107), (0, x), (0, p), (0, _), (0, _)], [(0, _)], (K0, M)) = _
  rw [e_X7_share_39]
  unfold shareF
  by_cases q : ¬ (0 ≤ x ∧ x < (tMany t : Int))
  · rw [bi_f q, if_pos rfl, if_neg q]
    rfl
  have q := Classical.not_not.mp q
  rw [bi_t q, if_neg (by decide), in_ok, Option.bind_some, if_pos q]
  show vr sc (d + 2) c_X7_share (49, [(2, 107), (0, x), (0, p), (0, _), (0, _)], [(0, _)], (K0, M)) = _
  rw [e_X7_share_49]
  by_cases r : ¬ (0 ≤ p ∧ p ≤ 1)
  · rw [bi_f r, if_pos rfl, if_neg r]
    rfl
  have r := Classical.not_not.mp r
  obtain ⟨l, rfl⟩ : ∃ n : Nat, x = n := ⟨x.toNat, by omega⟩
  have l5 : l < 5 := by omega
  have so := sk1_ok hok l5
  rw [bi_t r, if_neg (by decide), if_pos r, Int.toNat_natCast]
  by_cases z : ssum t (tMany t) = 0
  · rw [if_pos (by omega), if_pos z]
    rfl
  · have w31 : w32 (w32 (3 * (l : Int)) + 1) = ((3 * l + 1 : Nat) : Int) := w_t3 l 1 (by omega) (by omega)
    rw [if_neg (by clear w31; omega), if_neg z, if_pos (show og K0 7 107 9 = true from rfl), Sk_m9b hs, w31]
    clear w31
    rw [if_pos (a15 _ (by omega) (by omega)), (ht.2.1 l l5).2.1, ← so.1, lowest_r (by omega) (by omega) (by omega), Option.bind_some]
    show vr sc (d + 2) c_X7_share (73, [(2, 107), (0, (l : Int)), (0, p), (0, _), (0, _)], [(1, _)], (K0, M)) = _
    rw [e_X7_share_73]
def cntE (z k : Int) : Nat → Nat
  | 0 => 0
  | n + 1 => cntE z k n + (if drawnN 12 (w32 (z + (n : Int))) < k then 0 else 1)
theorem cntE_le (z k : Int) : ∀ n : Nat, cntE z k n ≤ n := by
  intro n
  induction n with
  | zero => exact Nat.le_refl _
  | succ n ih =>
    show cntE z k n + (if _ then 0 else 1) ≤ _
    split <;> omega
def chanceF (z m k p : Int) : Int := if 1 ≤ m ∧ m ≤ 40 then (if 0 ≤ k ∧ k ≤ 12 then (if 0 ≤ p ∧ p ≤ 1 then lowF (cntE z k m.toNat) m.toNat p else NOl) else NOl) else NOl
theorem chance_c {sc : dS} {d : Nat} {M : dM} (hs : Sk M) (z m k p : Int) : ∃ M' : dM, vc sc (d + 6) 96 [(2, 0), (0, z), (0, m), (0, k), (0, p)] (K0, M) = some ([(1, chanceF z m k p)], (K0, M')) ∧ Fr M M' := by
  rw [vc_s (md := m_X6_chance) (L := [(2, 0), (0, z), (0, m), (0, k), (0, p), (3, 0), (3, 0)]) rfl (Nat.le_of_ble_eq_true rfl) rfl]
  show ∃ M', vr sc (d + 5) c_X6_chance (0, [(2, 0), (0, z), (0, m), (0, k), (0, p), (3, 0), (3, 0)], [], (K0, M)) = _ ∧ _
  rw [e_X6_chance_0]
  unfold chanceF
  by_cases m1 : m < 1
  · rw [if_pos m1, if_neg (by omega)]
    exact ⟨M, rfl, Fr.rf _⟩
  rw [if_neg m1]
  by_cases m2 : 40 < m
  · rw [if_pos m2, if_neg (by omega)]
    exact ⟨M, rfl, Fr.rf _⟩
  rw [if_neg m2, isWithin_ok, Option.bind_some, if_pos (by omega)]
  show ∃ M', vr sc (d + 5) c_X6_chance (17, [(2, 0), (0, z), (0, m), (0, k), (0, p), (3, 0), (3, 0)], [(0, _)], (K0, M)) = _ ∧ _
  rw [e_X6_chance_17]
  by_cases q : ¬ (0 ≤ k ∧ k ≤ 12)
  · rw [bi_f q, if_pos rfl, if_neg q]
    exact ⟨M, rfl, Fr.rf _⟩
  have q := Classical.not_not.mp q
  rw [bi_t q, if_neg (by decide), isWithin_ok, Option.bind_some, if_pos q]
  show ∃ M', vr sc (d + 5) c_X6_chance (26, [(2, 0), (0, z), (0, m), (0, k), (0, p), (3, 0), (3, 0)], [(0, _)], (K0, M)) = _ ∧ _
  rw [e_X6_chance_26]
  by_cases r : ¬ (0 ≤ p ∧ p ≤ 1)
  · rw [bi_f r, if_neg (fun y => y rfl), if_neg r]
    exact ⟨M, rfl, Fr.rf _⟩
  have r := Classical.not_not.mp r
  obtain ⟨N, rfl⟩ : ∃ n : Nat, m = n := ⟨m.toNat, by omega⟩
  rw [bi_t r, if_pos (by decide), if_pos r, Int.toNat_natCast]
  have key : ∀ (j i : Nat) (M : dM), N - i = j → i ≤ N → Sk M → ∃ M' : dM, vr sc (d + 5) c_X6_chance (39, [(2, 0), (0, z), (0, (N : Int)), (0, k), (0, p), (0, ((cntE z k i : Nat) : Int)), (0, (i : Int))], [], (K0, M)) = vr sc (d + 5) c_X6_chance (39, [(2, 0), (0, z), (0, (N : Int)), (0, k), (0, p), (0, ((cntE z k N : Nat) : Int)), (0, (N : Int))], [], (K0, M')) ∧ Fr M M' := by
    intro j
    induction j with
    | zero =>
      intro i M hj hi hs
      have e : i = N := by omega
      subst e
      exact ⟨M, rfl, Fr.rf _⟩
    | succ j ih =>
      intro i M hj hi hs
      have cl := cntE_le z k i
      obtain ⟨M1, a1, a2⟩ := turnsDrawn_ok (sc := sc) (d := d) hs (z := w32 (z + (i : Int))) (n := 12) (by omega)
      obtain ⟨M2, b1, b2⟩ := ih (i + 1) M1 (by omega) (by omega) (a2.sk hs)
      rw [e_X6_chance_39, if_neg (by omega), if_pos (show rg K0 6 0 = true from rfl), show vc sc (d + 5) 95 [(2, 0), (0, w32 (z + (i : Int))), (0, 12)] (K0, M) = _ from a1, Option.bind_some]
      show ∃ M', vr sc (d + 5) c_X6_chance (55, [(2, 0), (0, z), (0, (N : Int)), (0, k), (0, p), (0, ((cntE z k i : Nat) : Int)), (0, (i : Int))], [(0, drawnN 12 (w32 (z + (i : Int))))], (K0, M1)) = _ ∧ _
      rw [e_X6_chance_55, w_s i (by omega)]
      by_cases y : drawnN 12 (w32 (z + (i : Int))) < k
      · have e : cntE z k (i + 1) = cntE z k i := by
          show cntE z k i + (if _ then 0 else 1) = _
          rw [if_pos y]
          rfl
        rw [e] at b1
        rw [if_pos y]
        exact ⟨M2, b1, a2.tr b2⟩
      · have e : cntE z k (i + 1) = cntE z k i + 1 := by
          show cntE z k i + (if _ then 0 else 1) = _
          rw [if_neg y]
        rw [e] at b1
        rw [if_neg y, w_s _ (by omega)]
        exact ⟨M2, b1, a2.tr b2⟩
  obtain ⟨M1, a1, a2⟩ := key N 0 M rfl (by omega) hs
  have cl := cntE_le z k N
  rw [show vr sc (d + 5) c_X6_chance (39, [(2, 0), (0, z), (0, (N : Int)), (0, k), (0, p), (0, 0), (0, 0)], [], (K0, M)) = _ from a1, e_X6_chance_39, if_pos (Int.le_refl _), lowest_c (by omega) (by omega) (by omega), Option.bind_some]
  show ∃ M', vr sc (d + 5) c_X6_chance (76, [(2, 0), (0, z), (0, (N : Int)), (0, k), (0, p), (0, _), (0, _)], [(0, _)], (K0, M1)) = _ ∧ _
  rw [e_X6_chance_76]
  exact ⟨M1, rfl, a2⟩
theorem chance_r {sc : dS} {d : Nat} {M : dM} (hs : Sk M) (z m k p : Int) : ∃ M' : dM, vc sc (d + 6) 192 [(2, 107), (0, z), (0, m), (0, k), (0, p)] (K0, M) = some ([(1, chanceF z m k p)], (K0, M')) ∧ Fr M M' := by
  rw [vc_s (md := m_X7_chance) (L := [(2, 107), (0, z), (0, m), (0, k), (0, p), (3, 0), (3, 0), (3, 0)]) rfl (Nat.le_of_ble_eq_true rfl) rfl]
  show ∃ M', vr sc (d + 5) c_X7_chance (0, [(2, 107), (0, z), (0, m), (0, k), (0, p), (3, 0), (3, 0), (3, 0)], [], (K0, M)) = _ ∧ _
  rw [e_X7_chance_0, in_ok, Option.bind_some]
  show ∃ M', vr sc (d + 5) c_X7_chance (9, [(2, 107), (0, z), (0, m), (0, k), (0, p), (3, 0), (3, 0), (3, 0)], [(0, _)], (K0, M)) = _ ∧ _
  rw [e_X7_chance_9]
  unfold chanceF
  by_cases m1 : ¬ (1 ≤ m ∧ m ≤ 40)
  · rw [bi_f m1, if_pos rfl, if_neg m1]
    exact ⟨M, rfl, Fr.rf _⟩
  have m1 := Classical.not_not.mp m1
  rw [bi_t m1, if_neg (by decide), in_ok, Option.bind_some, if_pos m1]
  show ∃ M', vr sc (d + 5) c_X7_chance (21, [(2, 107), (0, z), (0, m), (0, k), (0, p), (3, 0), (3, 0), (3, 0)], [(0, _)], (K0, M)) = _ ∧ _
  rw [e_X7_chance_21]
  by_cases q : ¬ (0 ≤ k ∧ k ≤ 12)
  · rw [bi_f q, if_pos rfl, if_neg q]
    exact ⟨M, rfl, Fr.rf _⟩
  have q := Classical.not_not.mp q
  rw [bi_t q, if_neg (by decide), in_ok, Option.bind_some, if_pos q]
  show ∃ M', vr sc (d + 5) c_X7_chance (32, [(2, 107), (0, z), (0, m), (0, k), (0, p), (3, 0), (3, 0), (3, 0)], [(0, _)], (K0, M)) = _ ∧ _
  rw [e_X7_chance_32]
  by_cases r : ¬ (0 ≤ p ∧ p ≤ 1)
  · rw [bi_f r, if_neg (fun y => y rfl), if_neg r]
    exact ⟨M, rfl, Fr.rf _⟩
  have r := Classical.not_not.mp r
  obtain ⟨N, rfl⟩ : ∃ n : Nat, m = n := ⟨m.toNat, by omega⟩
  rw [bi_t r, if_pos (by decide), if_pos r, Int.toNat_natCast]
  have key : ∀ (j i : Nat) (M : dM), N - i = j → i ≤ N → Sk M → ∃ M' : dM, vr sc (d + 5) c_X7_chance (45, [(2, 107), (0, z), (0, (N : Int)), (0, k), (0, p), (1, ((cntE z k i : Nat) : Int)), (3, 0), (0, (i : Int))], [], (K0, M)) = vr sc (d + 5) c_X7_chance (45, [(2, 107), (0, z), (0, (N : Int)), (0, k), (0, p), (1, ((cntE z k N : Nat) : Int)), (3, 0), (0, (N : Int))], [], (K0, M')) ∧ Fr M M' := by
    intro j
    induction j with
    | zero =>
      intro i M hj hi hs
      have e : i = N := by omega
      subst e
      exact ⟨M, rfl, Fr.rf _⟩
    | succ j ih =>
      intro i M hj hi hs
      have cl := cntE_le z k i
      obtain ⟨M1, a1, a2⟩ := sizeDrawn_ok (sc := sc) (d := d) hs (z := w32 (z + (i : Int))) (n := 12) (by omega)
      obtain ⟨M2, b1, b2⟩ := ih (i + 1) M1 (by omega) (by omega) (a2.sk hs)
      rw [e_X7_chance_45, if_neg (by omega), if_pos (show rg K0 7 107 = true from rfl), show vc sc (d + 5) 190 [(2, 107), (0, w32 (z + (i : Int))), (0, 12)] (K0, M) = _ from a1, Option.bind_some]
      show ∃ M', vr sc (d + 5) c_X7_chance (63, [(2, 107), (0, z), (0, (N : Int)), (0, k), (0, p), (1, ((cntE z k i : Nat) : Int)), (3, 0), (0, (i : Int))], [(0, drawnN 12 (w32 (z + (i : Int)))), (1, ((cntE z k i : Nat) : Int))], (K0, M1)) = _ ∧ _
      have e0 : w64 (((cntE z k i : Nat) : Int) + 0) = ((cntE z k i : Nat) : Int) := w64_e (by omega) (by omega) (by omega)
      have e1 : w64 (((cntE z k i : Nat) : Int) + 1) = ((cntE z k i + 1 : Nat) : Int) := w64_e (by omega) (by omega) (by omega)
      rw [e_X7_chance_63, w_s i (by clear e0 e1; omega), e0, e1]
      clear e0 e1
      by_cases y : drawnN 12 (w32 (z + (i : Int))) < k
      · have e : cntE z k (i + 1) = cntE z k i := by
          show cntE z k i + (if _ then 0 else 1) = _
          rw [if_pos y]
          rfl
        rw [e] at b1
        rw [if_pos y]
        exact ⟨M2, b1, a2.tr b2⟩
      · have e : cntE z k (i + 1) = cntE z k i + 1 := by
          show cntE z k i + (if _ then 0 else 1) = _
          rw [if_neg y]
        rw [e] at b1
        rw [if_neg y]
        exact ⟨M2, b1, a2.tr b2⟩
  obtain ⟨M1, a1, a2⟩ := key N 0 M rfl (by omega) hs
  have cl := cntE_le z k N
  rw [show vr sc (d + 5) c_X7_chance (45, [(2, 107), (0, z), (0, (N : Int)), (0, k), (0, p), (1, 0), (3, 0), (0, 0)], [], (K0, M)) = _ from a1, e_X7_chance_45, if_pos (Int.le_refl _), lowest_r (by omega) (by omega) (by omega), Option.bind_some]
  show ∃ M', vr sc (d + 5) c_X7_chance (90, [(2, 107), (0, z), (0, (N : Int)), (0, k), (0, p), (1, _), (3, 0), (0, _)], [(1, _)], (K0, M1)) = _ ∧ _
  rw [e_X7_chance_90]
  exact ⟨M1, rfl, a2⟩
