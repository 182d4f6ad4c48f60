/-! feed, on both sides: the tape is a row with its size -/
def feedF (b : List Int) (x : Int) : Int := if 0 ≤ x ∧ x ≤ 255 then (if b.length < 160 then ((b.length + 1 : Nat) : Int) else -4) else -2
def feedS (b : List Int) (x : Int) : List Int := if 0 ≤ x ∧ x ≤ 255 then (if b.length < 160 then b ++ [x] else b) else b
theorem Sk_05 {M : dM} (h : Sk M) : M 0 5 = 88 ∧ M 88 0 = 89 := by
  have key : ((0, 5, 88) : Int × Int × Int) ∈ SKL ∧ (88, 0, 89) ∈ SKL := by decide +kernel
  exact ⟨h _ key.1, h _ key.2⟩
theorem Sk_m5 {M : dM} (h : Sk M) : M 107 5 = 110 := h (107, 5, 110) (by decide +kernel)
theorem Wok_88 : Wok 88 1 89 := ⟨by decide +kernel, isRf_cell (by decide +kernel), by decide⟩
theorem Wok_110 : Wok 107 6 110 := ⟨by decide +kernel, isRf_cell (by decide +kernel), by decide⟩
theorem ag_89 {i : Int} (h0 : 0 ≤ i) (h1 : i < 160) : ag K0 8 89 i = true := ag_of (n := 160) rfl h0 h1
theorem ag_110 {i : Int} (h0 : 0 ≤ i) (h1 : i < 160) : ag K0 8 110 i = true := ag_of (n := 160) rfl h0 h1
theorem write_ok {sc : dS} {d : Nat} {M : dM} (hs : Sk M) {b : List Int} (hb : b.length ≤ 160) (hk : KV 88 1 89 M b) (x : Int) : ∃ M' : dM, vc sc (d + 1) 17 [(2, 88), (0, x)] (K0, M) = some ([(0, if b.length < 160 then ((b.length + 1 : Nat) : Int) else -4)], (K0, M')) ∧ WF 88 1 89 M M' ∧ KV 88 1 89 M' (if b.length < 160 then b ++ [x] else b) := by
  rw [vc_s (md := m_X1_write) (L := [(2, 88), (0, x)]) rfl (Nat.le_of_ble_eq_true rfl) rfl]
  show ∃ M', vr sc d c_X1_write (0, [(2, 88), (0, x)], [], (K0, M)) = _ ∧ _
  have c1 : ¬ (b.length : Int) < 0 := by omega
  rw [e_X1_write_0, if_pos (show og K0 1 88 1 = true from rfl), hk.1, if_neg c1, if_pos (show og K0 1 88 1 = true from rfl)]
  by_cases p : b.length < 160
  · rw [if_pos (show (b.length : Int) < 160 by omega), if_pos p, if_pos p, if_pos (show og K0 1 88 0 = true from rfl), if_pos (show og K0 1 88 1 = true from rfl), (Sk_05 hs).2, if_pos (ag_89 (by omega) (by omega)), if_pos (show og K0 1 88 1 = true from rfl), if_pos (show og K0 1 88 1 = true from rfl), d_up_n1 _ (show (88 : Int) ≠ 89 by decide), hk.1, w_s _ (by omega), if_pos ⟨by omega, by omega⟩, if_pos (show og K0 1 88 1 = true from rfl), d_up_at]
    exact ⟨_, rfl, (WF.row _ _ _ _ _ _).tr (WF.sz _ _ _ _ _), hk.snoc (by decide) rfl x⟩
  · rw [if_neg (show ¬ (b.length : Int) < 160 by omega), if_neg p, if_neg p]
    exact ⟨M, rfl, WF.rf _ _ _ _, hk⟩
theorem feed_c {sc : dS} {d : Nat} {M : dM} (hs : Sk M) {b : List Int} (hb : b.length ≤ 160) (hk : KV 88 1 89 M b) (x : Int) : ∃ M' : dM, vc sc (d + 2) 65 [(2, 0), (0, x)] (K0, M) = some ([(0, feedF b x)], (K0, M')) ∧ Sk M' ∧ WF 88 1 89 M M' ∧ KV 88 1 89 M' (feedS b x) := by
  rw [vc_s (md := m_X6_feed) (L := [(2, 0), (0, x)]) rfl (Nat.le_of_ble_eq_true rfl) rfl]
  show ∃ M', vr sc (d + 1) c_X6_feed (0, [(2, 0), (0, x)], [], (K0, M)) = _ ∧ _
  rw [e_X6_feed_0, isWithin_ok, Option.bind_some]
  show ∃ M', vr sc (d + 1) c_X6_feed (7, [(2, 0), (0, x)], [(0, _)], (K0, M)) = _ ∧ _
  rw [e_X6_feed_7]
  unfold feedF feedS
  by_cases p : ¬ (0 ≤ x ∧ x ≤ 255)
  · rw [bi_f p, if_neg (fun z => z rfl), if_neg p, if_neg p]
    exact ⟨M, rfl, hs, WF.rf _ _ _ _, hk⟩
  have p := Classical.not_not.mp p
  obtain ⟨M1, a1, a2, a3⟩ := write_ok (sc := sc) (d := d) hs hb hk x
  rw [bi_t p, if_pos (by decide), if_pos p, if_pos p, if_pos (show og K0 6 0 5 = true from rfl), (Sk_05 hs).1, if_pos (show rg K0 1 88 = true from rfl), a1, Option.bind_some]
  show ∃ M', vr sc (d + 1) c_X6_feed (21, [(2, 0), (0, x)], [(0, _)], (K0, M1)) = _ ∧ _
  rw [e_X6_feed_21]
  exact ⟨M1, rfl, a2.sk Wok_88 hs, a2, a3⟩
theorem feed_r {sc : dS} {d : Nat} {M : dM} (hs : Sk M) {b : List Int} (hb : b.length ≤ 160) (hk : KV 107 6 110 M b) (x : Int) : ∃ M' : dM, vc sc (d + 2) 126 [(2, 107), (0, x)] (K0, M) = some ([(0, feedF b x)], (K0, M')) ∧ Sk M' ∧ WF 107 6 110 M M' ∧ KV 107 6 110 M' (feedS b x) := by
  rw [vc_s (md := m_X7_feed) (L := [(2, 107), (0, x)]) rfl (Nat.le_of_ble_eq_true rfl) rfl]
  show ∃ M', vr sc (d + 1) c_X7_feed (0, [(2, 107), (0, x)], [], (K0, M)) = _ ∧ _
  rw [e_X7_feed_0, in_ok, Option.bind_some]
  show ∃ M', vr sc (d + 1) c_X7_feed (9, [(2, 107), (0, x)], [(0, _)], (K0, M)) = _ ∧ _
  rw [e_X7_feed_9]
  unfold feedF feedS
  by_cases p : ¬ (0 ≤ x ∧ x ≤ 255)
  · rw [bi_f p, if_neg (fun z => z rfl), if_neg p, if_neg p]
    exact ⟨M, rfl, hs, WF.rf _ _ _ _, hk⟩
  have p := Classical.not_not.mp p
  rw [bi_t p, if_pos (by decide), if_pos p, if_pos p, if_pos (show og K0 7 107 6 = true from rfl), hk.1]
  by_cases q : b.length < 160
  · rw [if_pos (show ¬ (b.length : Int) = 160 by omega), if_pos q, if_pos q, if_pos (show og K0 7 107 5 = true from rfl), if_pos (show og K0 7 107 6 = true from rfl), Sk_m5 hs, if_pos (ag_110 (by omega) (by omega)), if_pos (show og K0 7 107 6 = true from rfl), if_pos (show og K0 7 107 6 = true from rfl), d_up_n1 _ (show (107 : Int) ≠ 110 by decide), hk.1, w_s _ (by omega), if_pos ⟨by omega, by omega⟩, if_pos (show og K0 7 107 6 = true from rfl), d_up_at]
    have hw : WF 107 6 110 M (d_up (d_up M 110 (b.length : Int) x) 107 6 ((b.length + 1 : Nat) : Int)) := (WF.row _ _ _ _ _ _).tr (WF.sz _ _ _ _ _)
    exact ⟨_, rfl, hw.sk Wok_110 hs, hw, hk.snoc (by decide) rfl x⟩
  · rw [if_neg (show ¬ ¬ (b.length : Int) = 160 by omega), if_neg q, if_neg q]
    exact ⟨M, rfl, hs, WF.rf _ _ _ _, hk⟩
