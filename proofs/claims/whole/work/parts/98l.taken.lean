/-! taken, share, chance: both sides -/
def takF (t : Tn) (x k : Int) : Int := if 0 ≤ k ∧ k < 6 then (if 0 ≤ x ∧ x < (tMany t : Int) then (if undB (tKind t x.toNat) k = true then tNum t x.toNat else -13) else -11) else -2
theorem taken_c {sc : dS} {d : Nat} {M : dM} (hs : Sk M) {t : Tn} (ht : cT M 1 t) (hok : okT t) (x k : Int) : vc sc (d + 3) 105 [(2, 0), (0, x), (0, k)] (K0, M) = some ([(0, takF t x k)], (K0, M)) := by
  have m5 := hok.1.2.2.2.2.2
  rw [vc_s (md := m_X6_taken) (L := [(2, 0), (0, x), (0, k)]) rfl (Nat.le_of_ble_eq_true rfl) rfl]
  show vr sc (d + 2) c_X6_taken (0, [(2, 0), (0, x), (0, k)], [], (K0, M)) = _
  rw [e_X6_taken_0, isKind_ok, Option.bind_some]
  show vr sc (d + 2) c_X6_taken (4, [(2, 0), (0, x), (0, k)], [(0, _)], (K0, M)) = _
  rw [e_X6_taken_4]
  unfold takF
  by_cases p : ¬ (0 ≤ k ∧ k < 6)
  · rw [bi_f p, if_neg (fun z => z rfl), if_neg p]
  have p := Classical.not_not.mp p
  rw [bi_t p, if_pos (by decide), if_pos p, if_pos (show og K0 6 0 0 = true from rfl), (Sk_00 hs).1, if_pos (rg_tn isT_1), hasLad_ok isT_1, Option.bind_some, ht.1.2.2.2]
  show vr sc (d + 2) c_X6_taken (18, [(2, 0), (0, x), (0, k)], [(0, _)], (K0, M)) = _
  rw [e_X6_taken_18]
  by_cases q : ¬ (0 ≤ x ∧ x < (tMany t : Int))
  · rw [bi_f q, if_neg (fun z => z rfl), if_neg q]
  have q := Classical.not_not.mp q
  obtain ⟨l, rfl⟩ : ∃ n : Nat, x = n := ⟨x.toNat, by omega⟩
  have l5 : l < 5 := by omega
  have kt := ht.2.1 l l5
  have o2 := hok.2.1 l l5
  rw [bi_t q, if_pos (by decide), if_pos q, Int.toNat_natCast, if_pos (show og K0 6 0 0 = true from rfl), (Sk_00 hs).1, if_pos (og_tn isT_1 (by decide)), (Sk_T hs isT_1).1, if_pos (ag_t1 isT_1 (by omega) (by omega)), kt.1, isUnder_ok ⟨o2.1, o2.2.1⟩ p, Option.bind_some]
  show vr sc (d + 2) c_X6_taken (37, [(2, 0), (0, (l : Int)), (0, k)], [(0, if undB (tKind t l) k = true then 1 else 0)], (K0, M)) = _
  rw [e_X6_taken_37]
  by_cases r : undB (tKind t l) k = true
  · rw [if_pos r, if_neg (by decide), if_pos r, if_pos (show og K0 6 0 0 = true from rfl), (Sk_00 hs).1, if_pos (og_tn isT_1 (by decide)), (Sk_T hs isT_1).2.1, if_pos (ag_t2 isT_1 (by omega) (by omega)), kt.2.1]
  · rw [if_neg r, if_pos rfl, if_neg r]
theorem over_ok {sc : dS} {d : Nat} {h : dH} {a : Int} : vc sc (d + 1) 201 [(0, a)] h = some ([(0, if a = 0 then -1 else if a = 3 then 1 else if a = 4 then 2 else 0)], h) := by
  rw [vc_s (md := m_X7_over) (L := [(0, a)]) rfl (Nat.le_of_ble_eq_true rfl) rfl]
  show vr sc d c_X7_over (0, [(0, a)], [], (h.1, h.2)) = _
  rw [e_X7_over_0]
  by_cases k0 : a = 0
  · rw [if_neg (fun z => z k0), if_pos k0]
  rw [if_pos k0, if_neg k0]
  by_cases k3 : a = 3
  · rw [if_neg (fun z => z k3), if_pos k3]
  rw [if_pos k3, if_neg k3]
  by_cases k4 : a = 4
  · rw [if_neg (fun z => z k4), if_pos k4]
  · rw [if_pos k4, if_neg k4]
theorem taken_r {sc : dS} {d : Nat} {M : dM} (hs : Sk M) {t : Tn} (ht : rT M t) (hok : okT t) (x k : Int) : vc sc (d + 3) 202 [(2, 107), (0, x), (0, k)] (K0, M) = some ([(0, takF t x k)], (K0, M)) := by
  have m5 := hok.1.2.2.2.2.2
  have a15 : ∀ i : Int, 0 ≤ i → i < 15 → ag K0 8 111 i = true := fun i h0 h1 => ag_of (n := 15) rfl h0 h1
  rw [vc_s (md := m_X7_taken) (L := [(2, 107), (0, x), (0, k), (3, 0)]) rfl (Nat.le_of_ble_eq_true rfl) rfl]
  show vr sc (d + 2) c_X7_taken (0, [(2, 107), (0, x), (0, k), (3, 0)], [], (K0, M)) = _
  rw [e_X7_taken_0, in_ok, Option.bind_some]
  show vr sc (d + 2) c_X7_taken (9, [(2, 107), (0, x), (0, k), (3, 0)], [(0, _)], (K0, M)) = _
  rw [e_X7_taken_9]
  unfold takF
  by_cases p : ¬ (0 ≤ k ∧ k ≤ 5)
  · rw [bi_f p, if_neg (fun z => z rfl), if_neg (show ¬ (0 ≤ k ∧ k < 6) by omega)]
  have p := Classical.not_not.mp p
  rw [bi_t p, if_pos (by decide), if_pos (show 0 ≤ k ∧ k < 6 by omega), if_pos (show rg K0 7 107 = true from rfl), isLad_ok (d := d) m5 ht.1.2.2.2, Option.bind_some]
  show vr sc (d + 2) c_X7_taken (20, [(2, 107), (0, x), (0, k), (3, 0)], [(0, _)], (K0, M)) = _
  rw [e_X7_taken_20]
  by_cases q : ¬ (0 ≤ x ∧ x < (tMany t : Int))
  · rw [bi_f q, if_neg (fun z => z rfl), if_neg q]
  have q := Classical.not_not.mp q
  obtain ⟨l, rfl⟩ : ∃ n : Nat, x = n := ⟨x.toNat, by omega⟩
  have l5 : l < 5 := by omega
  have kt := ht.2.1 l l5
  have o2 := hok.2.1 l l5
  have w32l : w32 (w32 (3 * (l : Int)) + 2) = ((3 * l + 2 : Nat) : Int) := w_t3 l 2 (by omega) (by omega)
  rw [bi_t q, if_pos (by decide), if_pos q, Int.toNat_natCast, if_pos (show og K0 7 107 9 = true from rfl), Sk_m9b hs, w32l]
  clear w32l
  rw [if_pos (a15 _ (by omega) (by omega)), kt.2.2]
  generalize hA : tKind t l = a at *
  have hit : ∀ y : Int, y = k → vr sc (d + 2) c_X7_taken (37, [(2, 107), (0, (l : Int)), (0, k), (0, y)], [], (K0, M)) = some ([(0, tNum t l)], (K0, M)) := fun y hy => by
    rw [e_X7_taken_37, if_neg (by omega), if_pos hy, if_neg (fun z => z hy), if_pos (show og K0 7 107 9 = true from rfl), Sk_m9b hs, w_m3 l (by omega), if_pos (a15 _ (by omega) (by omega)), kt.1]
  have fin : vr sc (d + 2) c_X7_taken (37, [(2, 107), (0, (l : Int)), (0, k), (0, -1)], [], (K0, M)) = some ([(0, -13)], (K0, M)) := by
    rw [e_X7_taken_37, if_pos rfl, if_pos (by omega)]
  have stp1 : ∀ y : Int, y ≠ k → y ≠ -1 → vr sc (d + 2) c_X7_taken (37, [(2, 107), (0, (l : Int)), (0, k), (0, y)], [], (K0, M)) = vr sc (d + 2) c_X7_taken (37, [(2, 107), (0, (l : Int)), (0, k), (0, if y = 0 then -1 else if y = 3 then 1 else if y = 4 then 2 else 0)], [], (K0, M)) := fun y hy h1 => by
    rw [e_X7_taken_37, if_neg h1, if_neg hy, over_ok (d := d + 1), Option.bind_some]
    show vr sc (d + 2) c_X7_taken (51, [(2, 107), (0, (l : Int)), (0, k), (0, y)], [(0, if y = 0 then -1 else if y = 3 then 1 else if y = 4 then 2 else 0)], (K0, M)) = _
    rw [e_X7_taken_51]
  have yes : (a = k ∨ (a = 3 ∧ k = 1) ∨ (a = 4 ∧ k = 2) ∨ k = 0) → (if undB a k = true then tNum t l else -13) = tNum t l := fun z => if_pos (decide_eq_true z)
  have no : ¬ (a = k ∨ (a = 3 ∧ k = 1) ∨ (a = 4 ∧ k = 2) ∨ k = 0) → (if undB a k = true then tNum t l else -13) = -13 := fun z => if_neg (by unfold undB; rw [decide_eq_false z]; decide)
  have zero : (a = k ∨ (a = 3 ∧ k = 1) ∨ (a = 4 ∧ k = 2) → k = 0) → vr sc (d + 2) c_X7_taken (37, [(2, 107), (0, (l : Int)), (0, k), (0, 0)], [], (K0, M)) = some ([(0, if undB a k = true then tNum t l else -13)], (K0, M)) := fun hn => by
    by_cases z : k = 0
    · rw [yes (by omega)]
      exact hit 0 z.symm
    · rw [no (by omega), stp1 0 (by omega) (by decide)]
      exact fin
  by_cases e : a = k
  · rw [yes (by omega)]
    exact hit a e
  rcases (show a = 0 ∨ a = 1 ∨ a = 2 ∨ a = 3 ∨ a = 4 ∨ a = 5 by omega) with z | z | z | z | z | z
  · rw [show vr sc (d + 2) c_X7_taken (37, [(2, 107), (0, (l : Int)), (0, k), (0, a)], [], (K0, M)) = vr sc (d + 2) c_X7_taken (37, [(2, 107), (0, (l : Int)), (0, k), (0, 0)], [], (K0, M)) by rw [z]]
    exact zero (by omega)
  · rw [stp1 a e (by omega), if_neg (by omega), if_neg (by omega), if_neg (by omega)]
    exact zero (by omega)
  · rw [stp1 a e (by omega), if_neg (by omega), if_neg (by omega), if_neg (by omega)]
    exact zero (by omega)
  · rw [stp1 a e (by omega), if_neg (by omega), if_pos z]
    by_cases y : k = 1
    · rw [yes (by omega)]
      exact hit 1 y.symm
    · rw [stp1 1 (by omega) (by decide)]
      exact zero (by omega)
  · rw [stp1 a e (by omega), if_neg (by omega), if_neg (by omega), if_pos z]
    by_cases y : k = 2
    · rw [yes (by omega)]
      exact hit 2 y.symm
    · rw [stp1 2 (by omega) (by decide)]
      exact zero (by omega)
  · rw [stp1 a e (by omega), if_neg (by omega), if_neg (by omega), if_neg (by omega)]
    exact zero (by omega)
/-! lowest terms -/
theorem w64_e {x c : Int} (h : x = c) (h1 : -9223372036854775808 ≤ c) (h2 : c < 9223372036854775808) : w64 x = c := by
  rw [h]
  unfold w64
  omega
theorem tdiv_n (T n : Nat) : (T : Int).tdiv (n : Int) = ((T / n : Nat) : Int) := by
  rw [Int.tdiv_eq_ediv_of_nonneg (by omega)]
  rfl
theorem w_dv (T n : Nat) (hT : T < 1000000) : w32 ((T : Int).tdiv (n : Int)) = ((T / n : Nat) : Int) := by
  have hle := Nat.div_le_self T n
  rw [tdiv_n]
  generalize T / n = Q at *
  exact w32_e rfl (by omega) (by omega)
theorem w_dv64 (T n : Nat) (hT : T < 1000000) : w64 ((T : Int).tdiv (n : Int)) = ((T / n : Nat) : Int) := by
  have hle := Nat.div_le_self T n
  rw [tdiv_n]
  generalize T / n = Q at *
  exact w64_e rfl (by omega) (by omega)
def lowF (a b : Nat) (p : Int) : Int := (((if p = 0 then a else b) / Nat.gcd a b : Nat) : Int)
theorem lowest_c {sc : dS} {d : Nat} {h : dH} {a b : Nat} (ha : a < 100000) (hb : b < 100000) (hb1 : 0 < b) (p : Int) : vc sc (d + 1) 97 [(0, (a : Int)), (0, (b : Int)), (0, p)] h = some ([(0, lowF a b p)], h) := by
  rw [vc_s (md := m_X6_inLowestTerms) (L := [(0, (a : Int)), (0, (b : Int)), (0, p), (3, 0), (3, 0)]) rfl (Nat.le_of_ble_eq_true rfl) rfl]
  show vr sc d c_X6_inLowestTerms (0, [(0, (a : Int)), (0, (b : Int)), (0, p), (3, 0), (3, 0)], [], (h.1, h.2)) = _
  rw [e_X6_inLowestTerms_0]
  have gp : 0 < Nat.gcd a b := Nat.gcd_pos_of_pos_right a hb1
  have key : ∀ (n T : Nat), Nat.gcd a b ≤ n → n ≤ b → T < 100000 → vr sc d c_X6_inLowestTerms (13, [(0, (a : Int)), (0, (b : Int)), (0, p), (0, (T : Int)), (0, (n : Int))], [], (h.1, h.2)) = some ([(0, ((T / Nat.gcd a b : Nat) : Int))], (h.1, h.2)) := by
    intro n
    induction n with
    | zero => intro T hn; omega
    | succ n ih =>
      intro T hn hnb hT
      rw [e_X6_inLowestTerms_13]
      by_cases n0 : n = 0
      · subst n0
        rw [if_pos (by decide), show Nat.gcd a b = 1 by omega, Nat.div_one]
      rw [if_neg (by omega), if_neg (by omega), w_md a (n + 1) (by omega)]
      have hih : Nat.gcd a b ≠ n + 1 → vr sc d c_X6_inLowestTerms (13, [(0, (a : Int)), (0, (b : Int)), (0, p), (0, (T : Int)), (0, w32 (((n + 1 : Nat) : Int) + (-1)))], [], (h.1, h.2)) = some ([(0, ((T / Nat.gcd a b : Nat) : Int))], (h.1, h.2)) := fun hne => by
        rw [w_m n (by omega)]
        exact ih T (by omega) (by omega) hT
      by_cases da : a % (n + 1) = 0
      · rw [if_neg (by omega), if_neg (by omega), w_md b (n + 1) (by omega)]
        by_cases db : b % (n + 1) = 0
        · have hdv : n + 1 ∣ Nat.gcd a b := Nat.dvd_gcd (Nat.dvd_of_mod_eq_zero da) (Nat.dvd_of_mod_eq_zero db)
          have he : Nat.gcd a b = n + 1 := by
            have := Nat.le_of_dvd gp hdv
            omega
          rw [if_neg (by omega), if_neg (by omega), w_dv T (n + 1) (by omega), he]
        · rw [if_pos (by omega)]
          refine hih (fun z => db ?_)
          have := Nat.gcd_dvd_right a b
          rw [z] at this
          exact Nat.mod_eq_zero_of_dvd this
      · rw [if_pos (by omega)]
        refine hih (fun z => da ?_)
        have := Nat.gcd_dvd_left a b
        rw [z] at this
        exact Nat.mod_eq_zero_of_dvd this
  have gle := Nat.gcd_le_right a hb1
  unfold lowF
  by_cases p0 : p = 0
  · rw [if_neg (fun z => z p0), if_pos p0]
    exact key b a gle (Nat.le_refl _) ha
  · rw [if_pos p0, if_neg p0]
    exact key b b gle (Nat.le_refl _) hb
theorem lowest_r {sc : dS} {d : Nat} {h : dH} {a b : Nat} (ha : a < 100000) (hb : b < 100000) (hb1 : 0 < b) (p : Int) : vc sc (d + 1) 184 [(1, (a : Int)), (1, (b : Int)), (0, p)] h = some ([(1, lowF a b p)], h) := by
  rw [vc_s (md := m_X7_lowest) (L := [(1, (a : Int)), (3, 0), (1, (b : Int)), (3, 0), (0, p), (3, 0), (3, 0), (3, 0), (3, 0), (3, 0), (3, 0)]) rfl (Nat.le_of_ble_eq_true rfl) rfl]
  show vr sc d c_X7_lowest (0, [(1, (a : Int)), (3, 0), (1, (b : Int)), (3, 0), (0, p), (3, 0), (3, 0), (3, 0), (3, 0), (3, 0), (3, 0)], [], (h.1, h.2)) = _
  rw [e_X7_lowest_0]
  have gp : 0 < Nat.gcd a b := Nat.gcd_pos_of_pos_right a hb1
  have key : ∀ (n x y : Nat) (q9 q10 : dV), y < n → x < 100000 → y < 100000 → Nat.gcd x y = Nat.gcd a b → vr sc d c_X7_lowest (6, [(1, (a : Int)), (3, 0), (1, (b : Int)), (3, 0), (0, p), (1, (x : Int)), (3, 0), (1, (y : Int)), (3, 0), q9, q10], [], (h.1, h.2)) = some ([(1, lowF a b p)], (h.1, h.2)) := by
    intro n
    induction n with
    | zero => intro x y q9 q10 hy; omega
    | succ n ih =>
      intro x y q9 q10 hy hx hy2 hg
      rw [e_X7_lowest_6]
      by_cases y0 : y = 0
      · subst y0
        rw [Nat.gcd_zero_right] at hg
        have ew : ∀ T : Nat, T < 100000 → w64 ((T : Int).tdiv (x : Int)) = ((T / Nat.gcd a b : Nat) : Int) := fun T hT => by
          rw [← hg]
          exact w_dv64 T x (by omega)
        unfold lowF
        rw [if_pos ((i_cmp_0 _ _).mpr (show ((0 : Nat) : Int) = 0 from rfl))]
        by_cases p0 : p = 0
        · rw [if_neg (fun z => z p0), if_neg (by omega), ew a ha, if_pos p0]
        · rw [if_pos p0, if_neg (by omega), ew b hb, if_neg p0]
      · have hm := Nat.mod_lt x (Nat.pos_of_ne_zero y0)
        have hml := Nat.mod_le x y
        have ew : w64 ((x : Int).tmod (y : Int)) = ((x % y : Nat) : Int) := w64_e (by rw [Int.tmod_eq_emod_of_nonneg (by omega)]; rfl) (by omega) (by omega)
        rw [if_neg (fun z => y0 (by have := (i_cmp_0 _ _).mp z; omega)), if_neg (by omega), ew]
        refine ih y (x % y) _ _ (by omega) (by omega) (by omega) ?_
        rw [Nat.gcd_comm y (x % y), ← Nat.gcd_rec, Nat.gcd_comm y x]
        exact hg
  exact key (b + 1) a b (3, 0) (3, 0) (by omega) ha hb rfl
