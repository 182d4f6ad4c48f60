/-! set, reference side; lad, both sides -/
def tKd (t : Tn) (l : Nat) (v : Int) : Tn := (t.1, fun i => if i = l then v else tKind t i, tNum t, tSkl t, tWlk t, tBy t, tKn t)
def tRl (t : Tn) (v : Int) : Tn := ((tDay t, tWet t, v, tMany t), tKind t, tNum t, tSkl t, tWlk t, tBy t, tKn t)
theorem rT_kd {M : dM} {t : Tn} (ht : rT M t) {l : Nat} (v : Int) : rT (d_up M 111 ((3 * l + 2 : Nat) : Int) v) (tKd t l v) := by
  refine ⟨⟨(d_up_n1 _ (by decide)).trans ht.1.1, (d_up_n1 _ (by decide)).trans ht.1.2.1, (d_up_n1 _ (by decide)).trans ht.1.2.2.1, (d_up_n1 _ (by decide)).trans ht.1.2.2.2⟩, fun j hj => ?_, fun j hj => ?_⟩
  · have k := ht.2.1 j hj
    refine ⟨(d_up_n2 _ (by omega)).trans k.1, (d_up_n2 _ (by omega)).trans k.2.1, ?_⟩
    show _ = if j = l then v else tKind t j
    by_cases q : j = l
    · rw [if_pos q, q, d_up_at]
    · rw [if_neg q, d_up_n2 _ (by omega)]; exact k.2.2
  · have k := ht.2.2 j hj
    exact ⟨(d_up_n1 _ (by decide)).trans k.1, (d_up_n1 _ (by decide)).trans k.2.1, (d_up_n1 _ (by decide)).trans k.2.2.1, fun i hi => (d_up_n1 _ (by decide)).trans (k.2.2.2 i hi)⟩
theorem rT_rl {M : dM} {t : Tn} (ht : rT M t) (v : Int) : rT (d_up M 107 4 v) (tRl t v) := by
  have e : ∀ k : Int, k ≠ 4 → d_up M 107 4 v 107 k = M 107 k := fun k h => d_up_n2 _ h
  refine ⟨⟨(e _ (by decide)).trans ht.1.1, (e _ (by decide)).trans ht.1.2.1, d_up_at _ _ _ _, (e _ (by decide)).trans ht.1.2.2.2⟩, fun j hj => ?_, fun j hj => ?_⟩
  · have k := ht.2.1 j hj
    exact ⟨(d_up_n1 _ (by decide)).trans k.1, (d_up_n1 _ (by decide)).trans k.2.1, (d_up_n1 _ (by decide)).trans k.2.2⟩
  · have k := ht.2.2 j hj
    exact ⟨(d_up_n1 _ (by decide)).trans k.1, (d_up_n1 _ (by decide)).trans k.2.1, (d_up_n1 _ (by decide)).trans k.2.2.1, fun i hi => (d_up_n1 _ (by decide)).trans (k.2.2.2 i hi)⟩
theorem cT_kd {M : dM} {T : Int} (hT : isT T) {t : Tn} (ht : cT M T t) {l : Nat} (v : Int) : cT (d_up M (T + 1) l v) T (tKd t l v) := by
  have b := isT_c hT
  have e : ∀ x k : Int, x ≠ T + 1 → d_up M (T + 1) l v x k = M x k := fun x k hx => d_up_n1 _ hx
  refine ⟨⟨(e _ _ (by omega)).trans ht.1.1, (e _ _ (by omega)).trans ht.1.2.1, (e _ _ (by omega)).trans ht.1.2.2.1, (e _ _ (by omega)).trans ht.1.2.2.2⟩, fun j hj => ?_, fun j hj => ?_⟩
  · have k := ht.2.1 j hj
    refine ⟨?_, (e _ _ (by omega)).trans k.2.1, (e _ _ (by omega)).trans k.2.2⟩
    show _ = if j = l then v else tKind t j
    by_cases q : j = l
    · rw [if_pos q, q, d_up_at]
    · rw [if_neg q, d_up_n2 _ (by omega)]; exact k.1
  · have k := ht.2.2 j hj
    exact ⟨(e _ _ (by omega)).trans k.1, (e _ _ (by omega)).trans k.2.1, k.2.2.up (e _ _ (by omega)) fun i _ _ => e _ _ (by omega)⟩
theorem cT_rl {M : dM} {T : Int} (hT : isT T) {t : Tn} (ht : cT M T t) (v : Int) : cT (d_up M T 2 v) T (tRl t v) := by
  have b := isT_c hT
  have e : ∀ x k : Int, ¬ (x = T ∧ k = 2) → d_up M T 2 v x k = M x k := fun x k h => if_neg h
  refine ⟨⟨(e _ _ (by omega)).trans ht.1.1, (e _ _ (by omega)).trans ht.1.2.1, d_up_at _ _ _ _, (e _ _ (by omega)).trans ht.1.2.2.2⟩, fun j hj => ?_, fun j hj => ?_⟩
  · have k := ht.2.1 j hj
    exact ⟨(e _ _ (by omega)).trans k.1, (e _ _ (by omega)).trans k.2.1, (e _ _ (by omega)).trans k.2.2⟩
  · have k := ht.2.2 j hj
    exact ⟨(e _ _ (by omega)).trans k.1, (e _ _ (by omega)).trans k.2.1, k.2.2.up (e _ _ (by omega)) fun i _ _ => e _ _ (by omega)⟩
def tLay (t : Tn) (w of v : Int) : Tn := if w = 0 then tDy t v else if w = 1 then tWt t v else if w = 2 then tNm t of.toNat v else if w = 3 then tSk t of.toNat v else if w = 4 then tWk t of.toNat v else if w = 5 then tKd t of.toNat v else tRl t v
theorem lays_ok {sc : dS} {d : Nat} {M : dM} (hs : Sk M) {t : Tn} (ht : rT M t) (hok : okT t) {w of v : Int} (hw : 0 ≤ w ∧ w ≤ 6) (h5 : w = 2 ∨ w = 3 ∨ w = 5 → 0 ≤ of ∧ of < 5) (h6 : w = 4 → 0 ≤ of ∧ of < 6) (hv : -2147483648 ≤ v ∧ v < 2147483648) : ∃ M' : dM, vc sc (d + 1) 123 [(2, 107), (0, w), (0, of), (0, v)] (K0, M) = some ([], (K0, M')) ∧ FV M M' ∧ rT M' (tLay t w of v) := by
  have a15 : ∀ i : Int, 0 ≤ i → i < 15 → ag K0 8 111 i = true := fun i h0 h1 => ag_of (n := 15) rfl h0 h1
  have o1 := hok.1
  rw [vc_s (md := m_X7_lays) (L := [(2, 107), (0, w), (0, of), (0, v)]) rfl (Nat.le_of_ble_eq_true rfl) rfl]
  show ∃ M', vr sc d c_X7_lays (0, [(2, 107), (0, w), (0, of), (0, v)], [], (K0, M)) = _ ∧ _
  rw [e_X7_lays_0, (Sk_m10 hs).1, Sk_m9b hs]
  unfold tLay
  by_cases k0 : w = 0
  · have e8 : (d_up M 107 7 v) 107 8 = tWet t := (d_up_n2 _ (by decide)).trans ht.1.2.1
    rw [if_neg (show ¬ 2 ≤ w by omega), if_neg (fun z => z k0), if_pos (show og K0 7 107 7 = true from rfl), if_pos hv, if_pos (show ¬ w = 1 by omega), if_pos (show og K0 7 107 8 = true from rfl), if_pos (show og K0 7 107 8 = true from rfl), e8, if_pos ⟨by omega, by omega⟩, d_up_id e8, if_pos k0]
    exact ⟨_, rfl, FV.up7 (by decide) _, rT_dy ht v⟩
  rw [if_neg k0]
  by_cases k1 : w = 1
  · have e7 := ht.1.1
    rw [if_neg (show ¬ 2 ≤ w by omega), if_pos k0, if_pos (show og K0 7 107 7 = true from rfl), if_pos (show og K0 7 107 7 = true from rfl), e7, if_pos ⟨by omega, by omega⟩, if_neg (fun z => z k1), if_pos (show og K0 7 107 8 = true from rfl), if_pos hv, d_up_id e7, if_pos k1]
    exact ⟨_, rfl, FV.up7 (by decide) _, rT_wt ht v⟩
  rw [if_neg k1, if_pos (show 2 ≤ w by omega)]
  by_cases k6 : w = 6
  · rw [if_pos (show 4 ≤ w by omega), if_pos (show ¬ w = 4 by omega), if_pos (show ¬ w = 5 by omega), if_pos (show og K0 7 107 4 = true from rfl), if_pos hv, if_neg (show ¬ w = 2 by omega), if_neg (show ¬ w = 3 by omega), if_neg (show ¬ w = 4 by omega), if_neg (show ¬ w = 5 by omega)]
    exact ⟨_, rfl, FV.up7 (by decide) _, rT_rl ht v⟩
  obtain ⟨n, rfl⟩ : ∃ n : Nat, of = n := ⟨of.toNat, by
    rcases (show w = 2 ∨ w = 3 ∨ w = 4 ∨ w = 5 by omega) with z | z | z | z
    · have := h5 (by omega); omega
    · have := h5 (by omega); omega
    · have := h6 z; omega
    · have := h5 (by omega); omega⟩
  rw [Int.toNat_natCast]
  by_cases k23 : w = 2 ∨ w = 3
  · have h := h5 (by omega)
    rw [if_neg (show ¬ 4 ≤ w by omega), if_pos (show og K0 7 107 9 = true from rfl), w_t32 n (by omega) w k23, if_pos (a15 _ (by omega) (by omega))]
    rcases k23 with k2 | k3
    · rw [if_pos k2, k2, show 3 * (n : Int) + 2 - 2 = ((3 * n : Nat) : Int) by omega]
      exact ⟨_, rfl, FV.upA (by decide) _ _, rT_nm ht v⟩
    · rw [if_neg (show ¬ w = 2 by omega), if_pos k3, k3, show 3 * (n : Int) + 3 - 2 = ((3 * n + 1 : Nat) : Int) by omega]
      exact ⟨_, rfl, FV.upA (by decide) _ _, rT_sk ht v⟩
  rw [if_pos (show 4 ≤ w by omega), if_neg (show ¬ w = 2 by omega), if_neg (show ¬ w = 3 by omega)]
  by_cases k4 : w = 4
  · have h := h6 k4
    rw [if_neg (fun z => z k4), if_pos (show og K0 7 107 10 = true from rfl), w_m3 n (by omega), if_pos (ag_112 (by omega) (by omega)), if_pos k4]
    exact ⟨_, rfl, FV.upA (by decide) _ _, rT_wk ht v⟩
  · have h := h5 (by omega)
    have w32l : w32 (w32 (3 * (n : Int)) + 2) = ((3 * n + 2 : Nat) : Int) := w_t3 n 2 (by omega) (by omega)
    rw [if_pos k4, if_neg (show ¬ ¬ w = 5 by clear w32l; omega), if_pos (show og K0 7 107 9 = true from rfl), w32l]
    clear w32l
    rw [if_pos (a15 _ (by omega) (by omega)), if_neg k4, if_pos (show w = 5 by omega)]
    exact ⟨_, rfl, FV.upA (by decide) _ _, rT_kd ht v⟩
theorem set_r {sc : dS} {d : Nat} {M : dM} (hs : Sk M) {t : Tn} (ht : rT M t) (hok : okT t) {xs : List (List Int)} (hx : rXs M xs) (hxs : okXs xs) (hr : (tRule t).toNat < xs.length) (w of v : Int) : ∃ M' : dM, vc sc (d + 53) 122 [(2, 107), (0, w), (0, of), (0, v)] (K0, M) = some ([(0, setF xs t w of v)], (K0, M')) ∧ FV M M' ∧ rT M' (setS t w of v) := by
  rw [vc_s (md := m_X7_set) (L := [(2, 107), (0, w), (0, of), (0, v), (3, 0)]) rfl (Nat.le_of_ble_eq_true rfl) rfl]
  show ∃ M', vr sc (d + 52) c_X7_set (0, [(2, 107), (0, w), (0, of), (0, v), (3, 0)], [], (K0, M)) = _ ∧ _
  have rg1 : rg K0 7 107 = true := rfl
  have m1 := hok.1.2.2.2.2.2
  rw [e_X7_set_0, in_ok, Option.bind_some]
  show ∃ M', vr sc (d + 52) c_X7_set (9, [(2, 107), (0, w), (0, of), (0, v), (3, 0)], [(0, _)], (K0, M)) = _ ∧ _
  rw [e_X7_set_9]
  unfold setF setS
  have no : ¬ setOk t w of v → ¬ setB t w of v = true := fun z y => z (setB_iff.mp y)
  by_cases p : ¬ (0 ≤ w ∧ w ≤ 4)
  · have q := no (by unfold setOk; omega)
    rw [bi_f p, if_pos rfl, if_neg q, if_neg q]
    exact ⟨M, rfl, FV.rf _, ht⟩
  have p := Classical.not_not.mp p
  rw [bi_t p, if_neg (by decide), if_pos rg1, isOf_ok (d := d + 49) m1 ht.1.2.2.2 p.1, Option.bind_some]
  show ∃ M', vr sc (d + 52) c_X7_set (18, [(2, 107), (0, w), (0, of), (0, v), (3, 0)], [(0, _)], (K0, M)) = _ ∧ _
  rw [e_X7_set_18]
  by_cases q : ¬ (w < 2 ∨ (2 ≤ w ∧ (w = 4 ∨ 6 < w) ∧ 0 ≤ of ∧ of < 6) ∨ (2 ≤ w ∧ ¬ (w = 4 ∨ 6 < w) ∧ 0 ≤ of ∧ of < (tMany t : Int)))
  · have q2 := no (by unfold setOk; omega)
    rw [bi_f q, if_pos rfl, if_neg q2, if_neg q2]
    exact ⟨M, rfl, FV.rf _, ht⟩
  have q := Classical.not_not.mp q
  have emo : vc sc (d + 52) 121 [(0, w)] (K0, M) = some ([(0, if w = 0 then 999 else if w = 1 then 1 else if w = 2 then 9 else 99)], (K0, M)) := by
    rw [vc_s (md := m_X7_mostOf) (L := [(0, w)]) rfl (Nat.le_of_ble_eq_true rfl) rfl]
    show vr sc (d + 51) c_X7_mostOf _ = _
    rw [e_X7_mostOf_0]
    by_cases k0 : w = 0
    · rw [if_neg (fun z => z k0), if_pos k0]
    rw [if_pos k0, if_neg k0]
    by_cases k1 : w = 1
    · rw [if_neg (fun z => z k1), if_pos k1]
    rw [if_pos k1, if_neg k1]
    by_cases k2 : w = 2
    · rw [if_neg (fun z => z k2), if_pos k2]
    · rw [if_pos k2, if_neg k2]
  have hB : setB t w of v = true ↔ (0 ≤ v ∧ v ≤ (if w = 0 then 999 else if w = 1 then 1 else if w = 2 then 9 else 99)) := by
    rw [setB_iff]
    unfold setOk
    split
    · omega
    · split
      · omega
      · split
        · omega
        · omega
  have hmo : (if w = 0 then (999 : Int) else if w = 1 then 1 else if w = 2 then 9 else 99) ≤ 999 := by split <;> (try split) <;> (try split) <;> decide
  rw [bi_t q, if_neg (by decide), emo, Option.bind_some]
  generalize (if w = 0 then (999 : Int) else if w = 1 then 1 else if w = 2 then 9 else 99) = mo at *
  show ∃ M', vr sc (d + 52) c_X7_set (28, [(2, 107), (0, w), (0, of), (0, v), (3, 0)], [(0, mo), (1, 0), (1, v)], (K0, M)) = _ ∧ _
  rw [e_X7_set_28, in_ok, Option.bind_some]
  show ∃ M', vr sc (d + 52) c_X7_set (32, [(2, 107), (0, w), (0, of), (0, v), (3, 0)], [(0, _)], (K0, M)) = _ ∧ _
  rw [e_X7_set_32]
  by_cases r : ¬ (0 ≤ v ∧ v ≤ mo)
  · have q2 : ¬ setB t w of v = true := fun z => r (hB.mp z)
    rw [bi_f r, if_neg (fun z => z rfl), if_neg q2, if_neg q2]
    exact ⟨M, rfl, FV.rf _, ht⟩
  have r := Classical.not_not.mp r
  have q2 := hB.mpr r
  obtain ⟨M1, a1, a2⟩ := told_r (sc := sc) (d := d) hs ht hok hx hxs hr of w
  rw [bi_t r, if_pos (by decide), if_pos rg1, a1, Option.bind_some, if_pos q2, if_pos q2]
  show ∃ M', vr sc (d + 52) c_X7_set (44, [(2, 107), (0, w), (0, of), (0, v), (3, 0)], [(0, _)], (K0, M1)) = _ ∧ _
  obtain ⟨M2, b1, b2, b3⟩ := lays_ok (sc := sc) (d := d + 51) (a2.sk hs) (ht.ru a2) hok (w := w) (of := of) (v := v) ⟨p.1, by omega⟩ (fun _ => by omega) (fun _ => by omega) ⟨by omega, by omega⟩
  rw [e_X7_set_44, if_pos rg1, b1, Option.bind_some]
  show ∃ M', vr sc (d + 52) c_X7_set (53, [(2, 107), (0, w), (0, of), (0, v), (0, _)], [], (K0, M2)) = _ ∧ _
  rw [e_X7_set_53]
  refine ⟨M2, rfl, a2.fv.tr b2, ?_⟩
  have et : tSet t w of v = tLay t w of v := by
    unfold tSet tLay
    by_cases k0 : w = 0
    · rw [if_pos k0, if_pos k0]
    rw [if_neg k0, if_neg k0]
    by_cases k1 : w = 1
    · rw [if_pos k1, if_pos k1]
    rw [if_neg k1, if_neg k1]
    by_cases k2 : w = 2
    · rw [if_pos k2, if_pos k2]
    rw [if_neg k2, if_neg k2]
    by_cases k3 : w = 3
    · rw [if_pos k3, if_pos k3]
    rw [if_neg k3, if_neg k3, if_pos (show w = 4 by omega)]
  rw [et]
  exact b3
