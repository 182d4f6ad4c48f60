/-! run, lasts, image, back: reference side -/
theorem cploop {α : Type} {H : dM → Nat → α} {src dst : Int} {o p n : Nat} (hsd : src ≠ dst) {P : dM → Prop} (hP : ∀ (M : dM) (k v : Int), P M → P (d_up M dst k v)) (h1 : ∀ (M : dM) (i : Nat), P M → i < n → H M i = H (d_up M dst ((p + i : Nat) : Int) (M src ((o + i : Nat) : Int))) (i + 1)) : ∀ (m i : Nat) (M : dM), n - i = m → i ≤ n → P M → ∃ M' : dM, H M i = H M' n ∧ P M' ∧ (∀ x k : Int, x ≠ dst → M' x k = M x k) ∧ (∀ k : Int, (k < (p + i : Nat) ∨ ((p + n : Nat) : Int) ≤ k) → M' dst k = M dst k) ∧ ∀ j : Nat, i ≤ j → j < n → M' dst ((p + j : Nat) : Int) = M src ((o + j : Nat) : Int) := by
  intro m
  induction m with
  | zero =>
    intro i M hm hi hp
    have e : i = n := by omega
    subst e
    exact ⟨M, rfl, hp, fun _ _ _ => rfl, fun _ _ => rfl, fun j h0 h1 => by omega⟩
  | succ m ih =>
    intro i M hm hi hp
    obtain ⟨M', a1, a2, a3, a4, a5⟩ := ih (i + 1) (d_up M dst ((p + i : Nat) : Int) (M src ((o + i : Nat) : Int))) (by omega) (by omega) (hP _ _ _ hp)
    refine ⟨M', (h1 M i hp (by omega)).trans a1, a2, fun x k hx => (a3 x k hx).trans (d_up_n1 _ hx), fun k hk => (a4 k (by omega)).trans (d_up_n2 _ (by omega)), fun j h0 h2 => ?_⟩
    by_cases q : j = i
    · subst q
      rw [a4 _ (by omega), d_up_at]
    · rw [a5 j (by omega) h2, d_up_n1 _ hsd]
def sRf (a : Int) : Prop := SKL.all (fun q => !(q.1 == a)) = true
theorem Sk_cell {a : Int} (h : sRf a) (M : dM) (k v : Int) (hs : Sk M) : Sk (d_up M a k v) := Sk_of hs fun x j hq => d_up_n1 _ (fun z => by rw [z, isRf_cell h] at hq; cases hq)
theorem Sk_r2 {M : dM} (h : Sk M) : M 107 31 = 116 ∧ M 107 35 = 118 ∧ M 107 36 = 119 ∧ M 107 37 = 120 := by
  have key : ((107, 31, 116) : Int × Int × Int) ∈ SKL ∧ (107, 35, 118) ∈ SKL ∧ (107, 36, 119) ∈ SKL ∧ (107, 37, 120) ∈ SKL := by decide +kernel
  exact ⟨h _ key.1, h _ key.2.1, h _ key.2.2.1, h _ key.2.2.2⟩
def WA (M N : dM) : Prop := (∀ i : Nat, i < 15 → N 116 (i : Int) = M 111 (i : Int)) ∧ (∀ i : Nat, i < 18 → N 116 ((15 + i : Nat) : Int) = M 112 (i : Int)) ∧ N 116 33 = M 107 7
theorem aside_ok {sc : dS} {d : Nat} {M : dM} (hs : Sk M) : ∃ M' : dM, vc sc (d + 1) 172 [(2, 107)] (K0, M) = some ([], (K0, M')) ∧ Sk M' ∧ (∀ x k : Int, x ≠ 116 → M' x k = M x k) ∧ WA M M' := by
  rw [vc_s (md := m_X7_laysAside) (L := [(2, 107), (3, 0)]) rfl (Nat.le_of_ble_eq_true rfl) rfl]
  show ∃ M', vr sc d c_X7_laysAside (0, [(2, 107), (3, 0)], [], (K0, M)) = _ ∧ _
  have c116 : sRf 116 := by unfold sRf; decide +kernel
  rw [e_X7_laysAside_0]
  obtain ⟨M1, a1, a2, a3, a4, a5⟩ := cploop (H := fun (M : dM) (i : Nat) => vr sc d c_X7_laysAside (2, [(2, 107), (0, (i : Int))], [], (K0, M))) (src := 111) (dst := 116) (o := 0) (p := 0) (n := 15) (by decide) (P := Sk) (fun N k v h => Sk_cell c116 N k v h) (fun N i h hi => by
    rw [e_X7_laysAside_2, if_neg (by omega), if_pos (show og K0 7 107 31 = true from rfl), if_pos (show og K0 7 107 9 = true from rfl), Sk_m9b h, (Sk_r2 h).1, if_pos (ag_of (n := 15) rfl (by omega) (by omega)), if_pos (ag_of (n := 34) rfl (by omega) (by omega)), w_s i (by omega), Nat.zero_add]) 15 0 M rfl (by omega) hs
  obtain ⟨M2, b1, b2, b3, b4, b5⟩ := cploop (H := fun (M : dM) (i : Nat) => vr sc d c_X7_laysAside (28, [(2, 107), (0, (i : Int))], [], (K0, M))) (src := 112) (dst := 116) (o := 0) (p := 15) (n := 18) (by decide) (P := Sk) (fun N k v h => Sk_cell c116 N k v h) (fun N i h hi => by
    have ew : w32 (15 + (i : Int)) = ((15 + i : Nat) : Int) := w32_e (by omega) (by omega) (by omega)
    rw [e_X7_laysAside_28, if_neg (by clear ew; omega), if_pos (show og K0 7 107 31 = true from rfl), if_pos (show og K0 7 107 10 = true from rfl), (Sk_m10 h).1, (Sk_r2 h).1, if_pos (ag_112 (by clear ew; omega) (by clear ew; omega)), ew, if_pos (ag_of (n := 34) rfl (by clear ew; omega) (by clear ew; omega)), w_s i (by clear ew; omega), Nat.zero_add]) 18 0 M1 rfl (by omega) a2
  rw [show vr sc d c_X7_laysAside (2, [(2, 107), (0, 0)], [], (K0, M)) = _ from a1]
  have e15 : vr sc d c_X7_laysAside (2, [(2, 107), (0, ((15 : Nat) : Int))], [], (K0, M1)) = vr sc d c_X7_laysAside (28, [(2, 107), (0, 0)], [], (K0, M1)) := by rw [e_X7_laysAside_2, if_pos (by decide)]
  rw [e15, show vr sc d c_X7_laysAside (28, [(2, 107), (0, 0)], [], (K0, M1)) = _ from b1]
  rw [e_X7_laysAside_28, if_pos (by decide), if_pos (show og K0 7 107 31 = true from rfl), if_pos (show og K0 7 107 7 = true from rfl), (Sk_r2 b2).1, if_pos (show ag K0 8 116 33 = true from rfl)]
  refine ⟨_, rfl, Sk_cell c116 _ _ _ b2, fun x k hx => (d_up_n1 _ hx).trans ((b3 x k hx).trans (a3 x k hx)), fun i hi => ?_, fun i hi => ?_, ?_⟩
  · have := a5 i (by omega) hi
    rw [Nat.zero_add] at this
    rw [d_up_n2 _ (by omega), b4 _ (by omega)]
    exact this
  · have := b5 i (by omega) hi
    rw [Nat.zero_add] at this
    rw [d_up_n2 _ (by omega), this, a3 _ _ (by decide)]
  · rw [d_up_at, b3 _ _ (by decide), a3 _ _ (by decide)]
theorem laysback_ok {sc : dS} {d : Nat} {M N : dM} (hs : Sk N) (hw : WA M N) (hd : -2147483648 ≤ M 107 7 ∧ M 107 7 < 2147483648) : ∃ M' : dM, vc sc (d + 1) 173 [(2, 107)] (K0, N) = some ([], (K0, M')) ∧ Sk M' ∧ (∀ x k : Int, x ≠ 111 → x ≠ 112 → ¬ (x = 107 ∧ k = 7) → M' x k = N x k) ∧ (∀ i : Nat, i < 15 → M' 111 (i : Int) = M 111 (i : Int)) ∧ (∀ i : Nat, i < 18 → M' 112 (i : Int) = M 112 (i : Int)) ∧ M' 107 7 = M 107 7 := by
  rw [vc_s (md := m_X7_laysBack) (L := [(2, 107), (3, 0)]) rfl (Nat.le_of_ble_eq_true rfl) rfl]
  show ∃ M', vr sc d c_X7_laysBack (0, [(2, 107), (3, 0)], [], (K0, N)) = _ ∧ _
  have c111 : sRf 111 := by unfold sRf; decide +kernel
  have c112 : sRf 112 := by unfold sRf; decide +kernel
  rw [e_X7_laysBack_0]
  obtain ⟨M1, a1, a2, a3, a4, a5⟩ := cploop (H := fun (M : dM) (i : Nat) => vr sc d c_X7_laysBack (2, [(2, 107), (0, (i : Int))], [], (K0, M))) (src := 116) (dst := 111) (o := 0) (p := 0) (n := 15) (by decide) (P := Sk) (fun N k v h => Sk_cell c111 N k v h) (fun N i h hi => by
    rw [e_X7_laysBack_2, if_neg (by omega), if_pos (show og K0 7 107 9 = true from rfl), if_pos (show og K0 7 107 31 = true from rfl), Sk_m9b h, (Sk_r2 h).1, if_pos (ag_of (n := 34) rfl (by omega) (by omega)), if_pos (ag_of (n := 15) rfl (by omega) (by omega)), w_s i (by omega), Nat.zero_add]) 15 0 N rfl (by omega) hs
  obtain ⟨M2, b1, b2, b3, b4, b5⟩ := cploop (H := fun (M : dM) (i : Nat) => vr sc d c_X7_laysBack (28, [(2, 107), (0, (i : Int))], [], (K0, M))) (src := 116) (dst := 112) (o := 15) (p := 0) (n := 18) (by decide) (P := Sk) (fun N k v h => Sk_cell c112 N k v h) (fun N i h hi => by
    have ew : w32 (15 + (i : Int)) = ((15 + i : Nat) : Int) := w32_e (by omega) (by omega) (by omega)
    rw [e_X7_laysBack_28, if_neg (by clear ew; omega), if_pos (show og K0 7 107 10 = true from rfl), if_pos (show og K0 7 107 31 = true from rfl), (Sk_m10 h).1, (Sk_r2 h).1, ew, if_pos (ag_of (n := 34) rfl (by clear ew; omega) (by clear ew; omega)), if_pos (ag_112 (by clear ew; omega) (by clear ew; omega)), w_s i (by clear ew; omega), Nat.zero_add]) 18 0 M1 rfl (by omega) a2
  rw [show vr sc d c_X7_laysBack (2, [(2, 107), (0, 0)], [], (K0, N)) = _ from a1]
  have e15 : vr sc d c_X7_laysBack (2, [(2, 107), (0, ((15 : Nat) : Int))], [], (K0, M1)) = vr sc d c_X7_laysBack (28, [(2, 107), (0, 0)], [], (K0, M1)) := by rw [e_X7_laysBack_2, if_pos (by decide)]
  have e33 : M2 116 33 = M 107 7 := (b3 _ _ (by decide)).trans ((a3 _ _ (by decide)).trans hw.2.2)
  rw [e15, show vr sc d c_X7_laysBack (28, [(2, 107), (0, 0)], [], (K0, M1)) = _ from b1]
  rw [e_X7_laysBack_28, if_pos (by decide), if_pos (show og K0 7 107 31 = true from rfl), (Sk_r2 b2).1, if_pos (show ag K0 8 116 33 = true from rfl), if_pos (show og K0 7 107 7 = true from rfl), e33, if_pos hd]
  refine ⟨_, rfl, Sk_of b2 fun x k hq => ?_, fun x k h0 h1 h2 => (if_neg h2).trans ((b3 x k h1).trans (a3 x k h0)), fun i hi => ?_, fun i hi => ?_, d_up_at _ _ _ _⟩
  · refine if_neg ?_
    rintro ⟨rfl, rfl⟩
    rw [show isRf 107 7 = false by decide +kernel] at hq
    cases hq
  · have := a5 i (by omega) hi
    rw [Nat.zero_add] at this
    rw [d_up_n1 _ (by decide), b3 _ _ (by decide), this]
    exact hw.1 i hi
  · have := b5 i (by omega) hi
    rw [Nat.zero_add] at this
    rw [d_up_n1 _ (by decide), this, a3 _ _ (by decide)]
    exact hw.2.1 i hi
theorem rT_cg {M M' : dM} {t : Tn} (ht : rT M t) (hok : okT t) (h0 : M' 107 7 = M 107 7) (h1 : M' 107 8 = M 107 8) (h2 : M' 107 4 = M 107 4) (h3 : M' 107 12 = M 107 12) (h4 : ∀ i : Nat, i < 15 → M' 111 (i : Int) = M 111 (i : Int)) (h5 : ∀ i : Nat, i < 18 → M' 112 (i : Int) = M 112 (i : Int)) (h6 : ∀ k : Int, M' 113 k = M 113 k) : rT M' t :=
  ⟨⟨h0.trans ht.1.1, h1.trans ht.1.2.1, h2.trans ht.1.2.2.1, h3.trans ht.1.2.2.2⟩, fun l hl => ⟨(h4 _ (by omega)).trans (ht.2.1 l hl).1, (h4 _ (by omega)).trans (ht.2.1 l hl).2.1, (h4 _ (by omega)).trans (ht.2.1 l hl).2.2⟩, fun f hf => ⟨(h5 _ (by omega)).trans (ht.2.2 f hf).1, (h5 _ (by omega)).trans (ht.2.2 f hf).2.1, (h5 _ (by omega)).trans (ht.2.2 f hf).2.2.1, fun k hk => (h6 _).trans ((ht.2.2 f hf).2.2.2 k hk)⟩⟩
/-- what thinking ahead leaves as it was -/
def FW (M M' : dM) : Prop := ∀ x k : Int, x ≠ 111 → x ≠ 112 → x ≠ 114 → x ≠ 116 → (x = 107 → k ≠ 7 ∧ (k < 13 ∨ 27 < k) ∧ k ≠ 29) → M' x k = M x k
theorem aside_back {sc : dS} {d : Nat} {M M1 M2 : dM} {t : Tn} (ht : rT M t) (hok : okT t) (h1 : ∀ x k : Int, x ≠ 116 → M1 x k = M x k) (hw : WA M M1) (h2 : FU M1 M2) (hs : Sk M2) : ∃ M' : dM, vc sc (d + 1) 173 [(2, 107)] (K0, M2) = some ([], (K0, M')) ∧ Sk M' ∧ FW M M' ∧ rT M' t := by
  have o1 := hok.1
  have e116 : ∀ k : Int, M2 116 k = M1 116 k := fun k => h2 116 k (by decide) (by decide) (by decide) (fun z => absurd z (by decide))
  have hw2 : WA M M2 := ⟨fun i hi => (e116 _).trans (hw.1 i hi), fun i hi => (e116 _).trans (hw.2.1 i hi), (e116 _).trans hw.2.2⟩
  obtain ⟨M3, a1, a2, a3, a4, a5, a6⟩ := laysback_ok (sc := sc) (d := d) hs hw2 (by rw [ht.1.1]; omega)
  have fw : FW M M3 := fun x k g0 g1 g2 g3 g4 => (a3 x k g0 g1 (fun z => by have := g4 z.1; omega)).trans ((h2 x k g0 g1 g2 g4).trans (h1 x k g3))
  refine ⟨M3, a1, a2, fw, rT_cg ht hok a6 ?_ ?_ ?_ a4 a5 fun k => fw 113 k (by decide) (by decide) (by decide) (by decide) (fun z => absurd z (by decide))⟩
  · exact fw 107 8 (by decide) (by decide) (by decide) (by decide) (fun _ => by decide)
  · exact fw 107 4 (by decide) (by decide) (by decide) (by decide) (fun _ => by decide)
  · exact fw 107 12 (by decide) (by decide) (by decide) (by decide) (fun _ => by decide)
theorem run_loop_r {sc : dS} {d : Nat} {xs : List (List Int)} (hxs : okXs xs) {x w : Int} {N : Nat} (hN : N ≤ 20) : ∀ (m i a : Nat) (M : dM) (t : Tn), N - i = m → i ≤ N → a ≤ 6 * i → Sk M → rT M t → okT t → tDay t + m ≤ 99999 → rXs M xs → (tRule t).toNat < xs.length →
    ∃ M' : dM, vr sc (d + 52) c_X7_run (46, [(2, 107), (0, x), (0, (N : Int)), (0, w), (0, (a : Int)), (0, (i : Int))], [], (K0, M)) = vr sc (d + 52) c_X7_run (46, [(2, 107), (0, x), (0, (N : Int)), (0, w), (0, ((a + itP xs m t : Nat) : Int)), (0, (N : Int))], [], (K0, M')) ∧ FU M M' ∧ rT M' (itE xs m t) := by
  intro m
  induction m with
  | zero =>
    intro i a M t hm hi ha hs ht hok hd hx hr
    have e : i = N := by omega
    subst e
    exact ⟨M, rfl, FU.rf _, ht⟩
  | succ m ih =>
    intro i a M t hm hi ha hs ht hok hd hx hr
    have pr := pset_r (b := psB xs t) 6 (by omega)
    obtain ⟨M1, a1, a2, a3⟩ := passes_ok (sc := sc) (d := d + 1) hs ht hok (by omega) hx hxs hr
    have hb := bitsOf_ok (sc := sc) (d := d + 51) (h := (K0, M1)) (v := (pset (psB xs t) 6).toNat) (by omega)
    rw [show (((pset (psB xs t) 6).toNat : Nat) : Int) = pset (psB xs t) 6 by omega] at hb
    have p6 := popc_6 (pset (psB xs t) 6).toNat (List.mem_range.mpr (by omega))
    have e := evS_1 xs t
    rw [e_X7_run_46, if_neg (by omega), if_pos (show rg K0 7 107 = true from rfl), a1, Option.bind_some]
    show ∃ M', vr sc (d + 52) c_X7_run (58, [(2, 107), (0, x), (0, (N : Int)), (0, w), (0, (a : Int)), (0, (i : Int))], [(0, pset (psB xs t) 6), (0, (a : Int))], (K0, M1)) = _ ∧ _
    rw [e_X7_run_58, hb, Option.bind_some]
    show ∃ M', vr sc (d + 52) c_X7_run (61, [(2, 107), (0, x), (0, (N : Int)), (0, w), (0, (a : Int)), (0, (i : Int))], [(0, ((popc (pset (psB xs t) 6).toNat : Nat) : Int)), (0, (a : Int))], (K0, M1)) = _ ∧ _
    rw [e_X7_run_61, w_ad _ _ (by omega) (by omega), w_s i (by omega)]
    obtain ⟨M2, b1, b2, b3⟩ := ih (i + 1) (a + popc (pset (psB xs t) 6).toNat) M1 (evS xs t) (by omega) (by omega) (by omega) (a2.sk hs) a3 (okT_evS hok (by omega)) (by rw [e.1]; omega) (hx.fu a2) (by rw [e.2.2.1]; exact hr)
    have ea : a + popc (pset (psB xs t) 6).toNat + itP xs m (evS xs t) = a + itP xs (m + 1) t := by
      show _ = a + (popc (pset (psB xs t) 6).toNat + itP xs m (evS xs t))
      omega
    rw [ea] at b1
    exact ⟨M2, b1, a2.tr b2, b3⟩
theorem run_r {sc : dS} {d : Nat} {M : dM} (hs : Sk M) {t : Tn} (ht : rT M t) (hok : okT t) (hd : tDay t ≤ 999) {xs : List (List Int)} (hx : rXs M xs) (hxs : okXs xs) (hr : (tRule t).toNat < xs.length) (x n w : Int) : ∃ M' : dM, vc sc (d + 53) 176 [(2, 107), (0, x), (0, n), (0, w)] (K0, M) = some ([(0, runF xs t x n w)], (K0, M')) ∧ Sk M' ∧ FW M M' ∧ rT M' t := by
  have m5 := hok.1.2.2.2.2.2
  rw [vc_s (md := m_X7_run) (L := [(2, 107), (0, x), (0, n), (0, w), (3, 0), (3, 0)]) rfl (Nat.le_of_ble_eq_true rfl) rfl]
  show ∃ M', vr sc (d + 52) c_X7_run (0, [(2, 107), (0, x), (0, n), (0, w), (3, 0), (3, 0)], [], (K0, M)) = _ ∧ _
  have rg1 : rg K0 7 107 = true := rfl
  rw [e_X7_run_0, if_pos rg1, isLad_ok (d := d + 50) m5 ht.1.2.2.2, Option.bind_some]
  show ∃ M', vr sc (d + 52) c_X7_run (5, [(2, 107), (0, x), (0, n), (0, w), (3, 0), (3, 0)], [(0, _)], (K0, M)) = _ ∧ _
  rw [e_X7_run_5]
  unfold runF
  have f0 : FW M M := fun _ _ _ _ _ _ _ => rfl
  by_cases p : ¬ (0 ≤ x ∧ x < (tMany t : Int))
  · rw [bi_f p, if_pos rfl, if_neg p]
    exact ⟨M, rfl, hs, f0, ht⟩
  have p := Classical.not_not.mp p
  rw [bi_t p, if_neg (by decide), in_ok, Option.bind_some, if_pos p]
  show ∃ M', vr sc (d + 52) c_X7_run (17, [(2, 107), (0, x), (0, n), (0, w), (3, 0), (3, 0)], [(0, _)], (K0, M)) = _ ∧ _
  rw [e_X7_run_17]
  by_cases q : ¬ (0 ≤ n ∧ n ≤ 20)
  · rw [bi_f q, if_pos rfl, if_neg q]
    exact ⟨M, rfl, hs, f0, ht⟩
  have q := Classical.not_not.mp q
  rw [bi_t q, if_neg (by decide), in_ok, Option.bind_some, if_pos q]
  show ∃ M', vr sc (d + 52) c_X7_run (29, [(2, 107), (0, x), (0, n), (0, w), (3, 0), (3, 0)], [(0, _)], (K0, M)) = _ ∧ _
  rw [e_X7_run_29]
  by_cases r : ¬ (0 ≤ w ∧ w ≤ 2)
  · rw [bi_f r, if_neg (fun z => z rfl), if_neg r]
    exact ⟨M, rfl, hs, f0, ht⟩
  have r := Classical.not_not.mp r
  obtain ⟨N, rfl⟩ : ∃ k : Nat, n = k := ⟨n.toNat, by omega⟩
  obtain ⟨l, rfl⟩ : ∃ k : Nat, x = k := ⟨x.toNat, by omega⟩
  have l5 : l < 5 := by omega
  obtain ⟨M1, a1, a2, a3, a4⟩ := aside_ok (sc := sc) (d := d + 51) hs
  have ht1 : rT M1 t := rT_cg ht hok (a3 _ _ (by decide)) (a3 _ _ (by decide)) (a3 _ _ (by decide)) (a3 _ _ (by decide)) (fun i _ => a3 _ _ (by decide)) (fun i _ => a3 _ _ (by decide)) (fun k => a3 _ _ (by decide))
  have hx1 : rXs M1 xs := ⟨(a3 _ _ (by decide)).trans hx.1, fun j hj => ⟨(a3 _ _ (by decide)).trans (hx.2 j hj).1, fun i hi => (a3 _ _ (by decide)).trans ((hx.2 j hj).2 i hi)⟩⟩
  obtain ⟨M2, b1, b2, b3⟩ := run_loop_r (sc := sc) (d := d) hxs (x := (l : Int)) (w := w) (N := N) (by omega) N 0 0 M1 t rfl (by omega) (by omega) a2 ht1 hok (by omega) hx1 hr
  have hs2 := b2.sk a2
  have hok2 := okT_itE (xs := xs) N hok (by omega)
  obtain ⟨M3, c1, c2, c3, c4⟩ := aside_back (sc := sc) (d := d + 51) ht hok a3 a4 b2 hs2
  rw [Nat.zero_add] at b1
  rw [bi_t r, if_pos (by decide), if_pos r, if_pos rg1, a1, Option.bind_some, Int.toNat_natCast, Int.toNat_natCast]
  show ∃ M', vr sc (d + 52) c_X7_run (40, [(2, 107), (0, (l : Int)), (0, (N : Int)), (0, w), (3, 0), (3, 0)], [], (K0, M1)) = _ ∧ _
  have w31 : w32 (w32 (3 * (l : Int)) + 1) = ((3 * l + 1 : Nat) : Int) := w_t3 l 1 (by omega) (by omega)
  have e107 : ∀ a v : Int, vr sc (d + 52) c_X7_run (107, [(2, 107), (0, (l : Int)), (0, (N : Int)), (0, w), (0, a), (0, v)], [], (K0, M3)) = some ([(0, v)], (K0, M3)) := fun a v => by rw [e_X7_run_107]
  rw [e_X7_run_40, show vr sc (d + 52) c_X7_run (46, [(2, 107), (0, (l : Int)), (0, (N : Int)), (0, w), (0, 0), (0, 0)], [], (K0, M1)) = _ from b1, e_X7_run_46, if_pos (Int.le_refl _), w31, Sk_m9b hs2, (b3.2.1 l l5).2.1]
  clear w31
  by_cases w0 : w = 0
  · rw [if_neg (fun z => z w0), if_pos w0, if_pos (show og K0 7 107 9 = true from rfl), if_pos (ag_of (n := 15) rfl (by omega) (by omega)), if_pos rg1, c1, Option.bind_some]
    exact ⟨M3, e107 _ _, c2, c3, c4⟩
  rw [if_pos w0, if_neg w0]
  by_cases w1 : w = 1
  · rw [if_neg (fun z => z w1), if_pos w1, if_pos rg1, tiedSet_ok (d := d + 51) hs2 b3 hok2, Option.bind_some]
    show ∃ M', vr sc (d + 52) c_X7_run (96, [(2, 107), (0, (l : Int)), (0, (N : Int)), (0, w), (0, _), (0, _)], [(0, _)], (K0, M2)) = _ ∧ _
    rw [e_X7_run_96, if_pos rg1, c1, Option.bind_some]
    exact ⟨M3, e107 _ _, c2, c3, c4⟩
  · rw [if_pos w1, if_neg w1, if_pos rg1, c1, Option.bind_some]
    exact ⟨M3, e107 _ _, c2, c3, c4⟩
