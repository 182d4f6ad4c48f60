/-! rows of crossings, both sides (wip/whole/gen52.py) -/
theorem lst_of {g : Int → Int} {l : List Int} (h : ∀ (i : Nat) (hi : i < l.length), g i = l[i]) : lst g l.length = l := by
  apply List.ext_getElem
  · rw [lst_len]
  · intro i h1 h2
    have := lst_get g h2
    rw [List.getElem?_eq_getElem h1] at this
    rw [Option.some.inj this, h i h2]
theorem w_q (n i : Nat) (h : i + 1 ≤ n) (h2 : n < 1000000) : w32 (w32 ((n : Int) - 1) - (i : Int)) = ((n - 1 - i : Nat) : Int) := by
  have e : w32 ((n : Int) - 1) = ((n - 1 : Nat) : Int) := w32_e (by omega) (by omega) (by omega)
  rw [e]
  clear e
  exact w32_e (by omega) (by omega) (by omega)
theorem w_h (n : Nat) (h2 : n < 1000000) : w32 ((n : Int).tdiv 2) = ((n / 2 : Nat) : Int) := w32_e (by rw [Int.tdiv_eq_ediv_of_nonneg (by omega)]; omega) (by omega) (by omega)
def numf (a x : Int) : Int := w32 (w32 (w32 (5 * a) + x) + 1)
def numl (l : List Int) : Int := l.foldl numf 0
theorem number_loop {sc : dS} {d : Nat} {r : Int} (hr : isK r) {M : dM} (hs : Sk M) {l : List Int} (hl : l.length ≤ 12) (hk : KV r 1 (r + 1) M l) : ∀ (m i : Nat) (a : Int), l.length - i = m → i ≤ l.length →
    vr sc d c_X0_number (4, [(2, r), (0, a), (0, (i : Int))], [], (K0, M)) = some ([(0, (l.drop i).foldl numf a)], (K0, M)) := by
  intro m
  have hrow := isK_row hs hr
  induction m with
  | zero =>
    intro i a hm hi
    have c1 : (l.length : Int) ≤ i := by omega
    rw [e_X0_number_4, if_pos (og_kn hr (by decide)), hk.1, if_pos c1, List.drop_eq_nil_of_le (by omega)]
    rfl
  | succ m ih =>
    intro i a hm hi
    have c1 : ¬ (l.length : Int) ≤ i := by omega
    have hi' : i < l.length := by omega
    rw [e_X0_number_4, if_pos (og_kn hr (by decide)), hk.1, if_neg c1, if_pos (og_kn hr (by decide)), hrow, if_pos (ag_kn hr (by omega) (by omega)), hk.get hi', w_s i (by omega), List.drop_eq_getElem_cons hi', List.foldl_cons]
    exact ih (i + 1) _ (by omega) (by omega)
theorem number_ok {sc : dS} {d : Nat} {r : Int} (hr : isK r) {M : dM} (hs : Sk M) {l : List Int} (hl : l.length ≤ 12) (hk : KV r 1 (r + 1) M l) : vc sc (d + 1) 4 [(2, r)] (K0, M) = some ([(0, numl l)], (K0, M)) := by
  rw [vc_s (md := m_X0_number) (L := [(2, r), (3, 0), (3, 0)]) rfl (Nat.le_of_ble_eq_true rfl) rfl]
  show vr sc d c_X0_number _ = _
  rw [e_X0_number_0]
  exact number_loop hr hs hl hk l.length 0 0 rfl (by omega)
theorem wordNumber_loop {sc : dS} {d : Nat}  {M : dM} (hs : Sk M) {l : List Int} (hl : l.length ≤ 12) (hk : KV 107 29 114 M l) : ∀ (m i : Nat) (a : Int), l.length - i = m → i ≤ l.length →
    vr sc d c_X7_wordNumber (4, [(2, 107), (0, a), (0, (i : Int))], [], (K0, M)) = some ([(0, (l.drop i).foldl numf a)], (K0, M)) := by
  intro m
  have hrow := Sk_m28 hs
  induction m with
  | zero =>
    intro i a hm hi
    have c1 : (l.length : Int) ≤ i := by omega
    rw [e_X7_wordNumber_4, if_pos (show og K0 7 107 29 = true from rfl), hk.1, if_pos c1, List.drop_eq_nil_of_le (by omega)]
    rfl
  | succ m ih =>
    intro i a hm hi
    have c1 : ¬ (l.length : Int) ≤ i := by omega
    have hi' : i < l.length := by omega
    rw [e_X7_wordNumber_4, if_pos (show og K0 7 107 29 = true from rfl), hk.1, if_neg c1, if_pos (show og K0 7 107 28 = true from rfl), hrow, if_pos (ag_wd (by omega) (by omega)), hk.get hi', w_s i (by omega), List.drop_eq_getElem_cons hi', List.foldl_cons]
    exact ih (i + 1) _ (by omega) (by omega)
theorem wordNumber_ok {sc : dS} {d : Nat}  {M : dM} (hs : Sk M) {l : List Int} (hl : l.length ≤ 12) (hk : KV 107 29 114 M l) : vc sc (d + 1) 149 [(2, 107)] (K0, M) = some ([(0, numl l)], (K0, M)) := by
  rw [vc_s (md := m_X7_wordNumber) (L := [(2, 107), (3, 0), (3, 0)]) rfl (Nat.le_of_ble_eq_true rfl) rfl]
  show vr sc d c_X7_wordNumber _ = _
  rw [e_X7_wordNumber_0]
  exact wordNumber_loop  hs hl hk l.length 0 0 rfl (by omega)
theorem swapHands_loop {sc : dS} {d : Nat} {r : Int} (hr : isK r) {n : Nat} (hn : n ≤ 12) (f0 : Int → Int) : ∀ (m i : Nat) (M : dM), n - i = m → i ≤ n → Sk M → M r 1 = n → (∀ j : Int, 0 ≤ j → j < i → M (r + 1) j = i_xor (f0 j) 1) → (∀ j : Int, i ≤ j → j < n → M (r + 1) j = f0 j) →
    ∃ M' : dM, vr sc d c_X0_swapHands (2, [(2, r), (0, (i : Int))], [], (K0, M)) = some ([], (K0, M')) ∧ WF r 1 (r + 1) M M' ∧ KV r 1 (r + 1) M' ((lst f0 n).map (fun x => i_xor x 1)) := by
  intro m
  induction m with
  | zero =>
    intro i M hm hi hs hM h1 h2
    have e : i = n := by omega
    subst e
    have c1 : (i : Int) ≤ i := by omega
    rw [e_X0_swapHands_2, if_pos (og_kn hr (by decide)), hM, if_pos c1]
    refine ⟨M, rfl, WF.rf _ _ _ _, ?_⟩
    refine ⟨by rw [List.length_map, lst_len]; exact hM, lst_of fun j hj => ?_⟩
    rw [List.length_map, lst_len] at hj
    rw [h1 j (by omega) (by omega), List.getElem_map]
    have := lst_get f0 hj
    rw [List.getElem?_eq_getElem (by rw [lst_len]; exact hj)] at this
    rw [Option.some.inj this]
  | succ m ih =>
    intro i M hm hi hs hM h1 h2
    have c1 : ¬ (n : Int) ≤ i := by omega
    have hrow := isK_row hs hr
    rw [e_X0_swapHands_2, if_pos (og_kn hr (by decide)), hM, if_neg c1, if_pos (og_kn hr (by decide)), hrow, if_pos (ag_kn hr (by omega) (by omega)), if_pos (ag_kn hr (by omega) (by omega)), w_s i (by omega), h2 i (by omega) (by omega)]
    obtain ⟨M', g1, g2, g3⟩ := ih (i + 1) (d_up M (r + 1) i (i_xor (f0 i) 1)) (by omega) (by omega) ((WF.row r 1 (r + 1) _ _ _).sk (Wok_kn hr) hs) (by rw [d_up_n1 _ (show r ≠ r + 1 by omega)]; exact hM) (fun j q1 q2 => by
      by_cases q : j = i
      · rw [q, d_up_at]
      · rw [d_up_n2 _ q]; exact h1 j q1 (by omega)) (fun j q1 q2 => by rw [d_up_n2 _ (by omega)]; exact h2 j (by omega) q2)
    exact ⟨M', g1, (WF.row r 1 (r + 1) _ _ _).tr g2, g3⟩
theorem swaps_loop {sc : dS} {d : Nat}  {n : Nat} (hn : n ≤ 12) (f0 : Int → Int) {v1 v2 : Int} {q4 : dV} : ∀ (m i : Nat) (M : dM), n - i = m → i ≤ n → Sk M → M 107 29 = n → (∀ j : Int, 0 ≤ j → j < i → M 114 j = i_xor (f0 j) 1) → (∀ j : Int, i ≤ j → j < n → M 114 j = f0 j) →
    ∃ M' : dM, vr sc d c_X7_ties1 (23, [(2, 107), (0, v1), (0, v2), (0, (i : Int)), q4], [], (K0, M)) = vr sc d c_X7_ties1 (47, [(2, 107), (0, v1), (0, v2), (0, (n : Int)), q4], [], (K0, M')) ∧ WF 107 29 114 M M' ∧ KV 107 29 114 M' ((lst f0 n).map (fun x => i_xor x 1)) := by
  intro m
  induction m with
  | zero =>
    intro i M hm hi hs hM h1 h2
    have e : i = n := by omega
    subst e
    have c1 : (i : Int) ≤ i := by omega
    rw [e_X7_ties1_23, if_pos (show og K0 7 107 29 = true from rfl), hM, if_pos c1]
    refine ⟨M, rfl, WF.rf _ _ _ _, ?_⟩
    refine ⟨by rw [List.length_map, lst_len]; exact hM, lst_of fun j hj => ?_⟩
    rw [List.length_map, lst_len] at hj
    rw [h1 j (by omega) (by omega), List.getElem_map]
    have := lst_get f0 hj
    rw [List.getElem?_eq_getElem (by rw [lst_len]; exact hj)] at this
    rw [Option.some.inj this]
  | succ m ih =>
    intro i M hm hi hs hM h1 h2
    have c1 : ¬ (n : Int) ≤ i := by omega
    have hrow := Sk_m28 hs
    rw [e_X7_ties1_23, if_pos (show og K0 7 107 29 = true from rfl), hM, if_neg c1, if_pos (show og K0 7 107 28 = true from rfl), hrow, if_pos (ag_wd (by omega) (by omega)), if_pos (ag_wd (by omega) (by omega)), w_s i (by omega), h2 i (by omega) (by omega)]
    obtain ⟨M', g1, g2, g3⟩ := ih (i + 1) (d_up M 114 i (i_xor (f0 i) 1)) (by omega) (by omega) ((WF.row 107 29 114 _ _ _).sk Wok_wd hs) (by rw [d_up_n1 _ (show (107 : Int) ≠ 114 by decide)]; exact hM) (fun j q1 q2 => by
      by_cases q : j = i
      · rw [q, d_up_at]
      · rw [d_up_n2 _ q]; exact h1 j q1 (by omega)) (fun j q1 q2 => by rw [d_up_n2 _ (by omega)]; exact h2 j (by omega) q2)
    exact ⟨M', g1, (WF.row 107 29 114 _ _ _).tr g2, g3⟩

theorem lst_gE (f : Int → Int) {n i : Nat} (h : i < (lst f n).length) : (lst f n)[i] = f i := by
  have h2 : i < n := by rw [lst_len] at h; exact h
  have := lst_get f h2
  rw [List.getElem?_eq_getElem h] at this
  exact Option.some.inj this
theorem KV.len {o s a : Int} {M : dM} {l : List Int} (h : KV o s a M l) : M o s = l.length := h.1
theorem KV.lst {o s a : Int} {M : dM} {l : List Int} (h : KV o s a M l) : l = lst (M a) l.length := h.2.symm
theorem swapHands_ok {sc : dS} {d : Nat} {r : Int} (hr : isK r) {M : dM} (hs : Sk M) {l : List Int} (hl : l.length ≤ 12) (hk : KV r 1 (r + 1) M l) : ∃ M' : dM, vc sc (d + 1) 6 [(2, r)] (K0, M) = some ([], (K0, M')) ∧ WF r 1 (r + 1) M M' ∧ KV r 1 (r + 1) M' (l.map (fun x => i_xor x 1)) := by
  rw [vc_s (md := m_X0_swapHands) (L := [(2, r), (3, 0)]) rfl (Nat.le_of_ble_eq_true rfl) rfl]
  show ∃ M', vr sc d c_X0_swapHands _ = _ ∧ _
  rw [e_X0_swapHands_0]
  have := swapHands_loop (sc := sc) (d := d) hr hl (M (r + 1)) l.length 0 M rfl (by omega) hs hk.1 (fun j h1 h2 => by omega) (fun _ _ _ => rfl)
  rw [hk.2] at this
  exact this
theorem reverse_loop {sc : dS} {d : Nat} {r : Int} (hr : isK r) {n : Nat} (hn : n ≤ 12) (f0 : Int → Int) : ∀ (m i : Nat) (M : dM) (q : dV), n / 2 - i = m → i ≤ n / 2 → Sk M → M r 1 = n → (∀ j : Int, 0 ≤ j → j < i → M (r + 1) j = f0 (n - 1 - j)) → (∀ j : Int, i ≤ j → j ≤ n - 1 - i → M (r + 1) j = f0 j) → (∀ j : Int, n - 1 - i < j → j < n → M (r + 1) j = f0 (n - 1 - j)) →
    ∃ (M' : dM) (q' : dV), vr sc d c_X0_reverse (2, [(2, r), (0, (i : Int)), q], [], (K0, M)) = some ([], (K0, M')) ∧ WF r 1 (r + 1) M M' ∧ KV r 1 (r + 1) M' (lst f0 n).reverse := by
  intro m
  induction m with
  | zero =>
    intro i M q hm hi hs hM h1 h2 h3
    have e : i = n / 2 := by omega
    have c1 : ((n / 2 : Nat) : Int) ≤ i := by omega
    rw [e_X0_reverse_2, if_pos (og_kn hr (by decide)), hM, w_h n (by omega), if_pos c1]
    refine ⟨M, q, rfl, WF.rf _ _ _ _, ?_⟩
    refine ⟨by rw [List.length_reverse, lst_len]; exact hM, lst_of fun j hj => ?_⟩
    rw [List.length_reverse, lst_len] at hj
    rw [List.getElem_reverse, lst_gE]
    have e2 : ((((lst f0 n).length - 1 - j : Nat)) : Int) = (n : Int) - 1 - j := by rw [lst_len]; omega
    rw [e2]
    by_cases q1 : (j : Int) < i
    · exact h1 j (by omega) q1
    · by_cases q2 : (j : Int) ≤ (n : Int) - 1 - i
      · rw [h2 j (by omega) q2]
        exact congrArg f0 (by omega)
      · exact h3 j (by omega) (by omega)
  | succ m ih =>
    intro i M q hm hi hs hM h1 h2 h3
    have c1 : ¬ ((n / 2 : Nat) : Int) ≤ i := by omega
    have hrow := isK_row hs hr
    have e1 : M (r + 1) i = f0 i := h2 i (by omega) (by omega)
    have e2 : M (r + 1) ((n - 1 - i : Nat) : Int) = f0 ((n - 1 - i : Nat) : Int) := h2 _ (by omega) (by omega)
    rw [e_X0_reverse_2, if_pos (og_kn hr (by decide)), hM, w_h n (by omega), if_neg c1, if_pos (og_kn hr (by decide)), hrow, if_pos (ag_kn hr (by omega) (by omega)), if_pos (og_kn hr (by decide)), if_pos (og_kn hr (by decide)), if_pos (og_kn hr (by decide)), w_q n i (by omega) (by omega), if_pos (ag_kn hr (by omega) (by omega)), if_pos (ag_kn hr (by omega) (by omega)), if_pos (og_kn hr (by decide)), if_pos (og_kn hr (by decide)), d_up_n1 _ (show r ≠ r + 1 by omega), d_up_n1 _ (show r ≠ r + 1 by omega), hrow, hM, w_q n i (by omega) (by omega), if_pos (ag_kn hr (by omega) (by omega)), w_s i (by omega), e1, e2]
    obtain ⟨M', q', g1, g2, g3⟩ := ih (i + 1) (d_up (d_up M (r + 1) i (f0 ((n - 1 - i : Nat) : Int))) (r + 1) ((n - 1 - i : Nat) : Int) (f0 i)) (0, f0 i) (by omega) (by omega) ((WF.row r 1 (r + 1) _ _ _).sk (Wok_kn hr) ((WF.row r 1 (r + 1) _ _ _).sk (Wok_kn hr) hs)) (by rw [d_up_n1 _ (show r ≠ r + 1 by omega), d_up_n1 _ (show r ≠ r + 1 by omega)]; exact hM) (fun j q1 q2 => by
      rw [d_up_n2 _ (by omega)]
      by_cases q : j = i
      · rw [q, d_up_at]; exact congrArg f0 (by omega)
      · rw [d_up_n2 _ q]; exact h1 j q1 (by omega)) (fun j q1 q2 => by rw [d_up_n2 _ (by omega), d_up_n2 _ (by omega)]; exact h2 j (by omega) (by omega)) (fun j q1 q2 => by
      by_cases q : j = ((n - 1 - i : Nat) : Int)
      · rw [q, d_up_at]; exact congrArg f0 (by omega)
      · rw [d_up_n2 _ q, d_up_n2 _ (by omega)]; exact h3 j (by omega) q2)
    exact ⟨M', q', g1, ((WF.row r 1 (r + 1) _ _ _).tr (WF.row r 1 (r + 1) _ _ _)).tr g2, g3⟩
theorem turns__loop {sc : dS} {d : Nat}  {n : Nat} (hn : n ≤ 12) (f0 : Int → Int) {v1 : Int} : ∀ (m i : Nat) (M : dM) (q : dV), n / 2 - i = m → i ≤ n / 2 → Sk M → M 107 29 = n → (∀ j : Int, 0 ≤ j → j < i → M 114 j = f0 (n - 1 - j)) → (∀ j : Int, i ≤ j → j ≤ n - 1 - i → M 114 j = f0 j) → (∀ j : Int, n - 1 - i < j → j < n → M 114 j = f0 (n - 1 - j)) →
    ∃ (M' : dM) (q' : dV), vr sc d c_X7_ties1 (54, [(2, 107), (0, v1), (0, 3), (0, (i : Int)), q], [], (K0, M)) = vr sc d c_X7_ties1 (139, [(2, 107), (0, v1), (0, 3), (0, ((n / 2 : Nat) : Int)), q'], [], (K0, M')) ∧ WF 107 29 114 M M' ∧ KV 107 29 114 M' (lst f0 n).reverse := by
  intro m
  induction m with
  | zero =>
    intro i M q hm hi hs hM h1 h2 h3
    have e : i = n / 2 := by omega
    have c1 : ((n / 2 : Nat) : Int) ≤ i := by omega
    rw [e_X7_ties1_54, if_pos (show og K0 7 107 29 = true from rfl), hM, w_h n (by omega), if_pos c1, if_neg (by decide), if_pos (by decide)]
    refine ⟨M, q, by rw [e], WF.rf _ _ _ _, ?_⟩
    refine ⟨by rw [List.length_reverse, lst_len]; exact hM, lst_of fun j hj => ?_⟩
    rw [List.length_reverse, lst_len] at hj
    rw [List.getElem_reverse, lst_gE]
    have e2 : ((((lst f0 n).length - 1 - j : Nat)) : Int) = (n : Int) - 1 - j := by rw [lst_len]; omega
    rw [e2]
    by_cases q1 : (j : Int) < i
    · exact h1 j (by omega) q1
    · by_cases q2 : (j : Int) ≤ (n : Int) - 1 - i
      · rw [h2 j (by omega) q2]
        exact congrArg f0 (by omega)
      · exact h3 j (by omega) (by omega)
  | succ m ih =>
    intro i M q hm hi hs hM h1 h2 h3
    have c1 : ¬ ((n / 2 : Nat) : Int) ≤ i := by omega
    have hrow := Sk_m28 hs
    have e1 : M 114 i = f0 i := h2 i (by omega) (by omega)
    have e2 : M 114 ((n - 1 - i : Nat) : Int) = f0 ((n - 1 - i : Nat) : Int) := h2 _ (by omega) (by omega)
    rw [e_X7_ties1_54, if_pos (show og K0 7 107 29 = true from rfl), hM, w_h n (by omega), if_neg c1, if_pos (show og K0 7 107 28 = true from rfl), hrow, if_pos (ag_wd (by omega) (by omega)), if_pos (show og K0 7 107 28 = true from rfl), if_pos (show og K0 7 107 28 = true from rfl), if_pos (show og K0 7 107 29 = true from rfl), w_q n i (by omega) (by omega), if_pos (ag_wd (by omega) (by omega)), if_pos (ag_wd (by omega) (by omega)), if_pos (show og K0 7 107 28 = true from rfl), if_pos (show og K0 7 107 29 = true from rfl), d_up_n1 _ (show (107 : Int) ≠ 114 by decide), d_up_n1 _ (show (107 : Int) ≠ 114 by decide), hrow, hM, w_q n i (by omega) (by omega), if_pos (ag_wd (by omega) (by omega)), w_s i (by omega), e1, e2]
    obtain ⟨M', q', g1, g2, g3⟩ := ih (i + 1) (d_up (d_up M 114 i (f0 ((n - 1 - i : Nat) : Int))) 114 ((n - 1 - i : Nat) : Int) (f0 i)) (0, f0 i) (by omega) (by omega) ((WF.row 107 29 114 _ _ _).sk Wok_wd ((WF.row 107 29 114 _ _ _).sk Wok_wd hs)) (by rw [d_up_n1 _ (show (107 : Int) ≠ 114 by decide), d_up_n1 _ (show (107 : Int) ≠ 114 by decide)]; exact hM) (fun j q1 q2 => by
      rw [d_up_n2 _ (by omega)]
      by_cases q : j = i
      · rw [q, d_up_at]; exact congrArg f0 (by omega)
      · rw [d_up_n2 _ q]; exact h1 j q1 (by omega)) (fun j q1 q2 => by rw [d_up_n2 _ (by omega), d_up_n2 _ (by omega)]; exact h2 j (by omega) (by omega)) (fun j q1 q2 => by
      by_cases q : j = ((n - 1 - i : Nat) : Int)
      · rw [q, d_up_at]; exact congrArg f0 (by omega)
      · rw [d_up_n2 _ q, d_up_n2 _ (by omega)]; exact h3 j (by omega) q2)
    exact ⟨M', q', g1, ((WF.row 107 29 114 _ _ _).tr (WF.row 107 29 114 _ _ _)).tr g2, g3⟩

theorem reverse_ok {sc : dS} {d : Nat} {r : Int} (hr : isK r) {M : dM} (hs : Sk M) {l : List Int} (hl : l.length ≤ 12) (hk : KV r 1 (r + 1) M l) : ∃ M' : dM, vc sc (d + 1) 7 [(2, r)] (K0, M) = some ([], (K0, M')) ∧ WF r 1 (r + 1) M M' ∧ KV r 1 (r + 1) M' l.reverse := by
  rw [vc_s (md := m_X0_reverse) (L := [(2, r), (3, 0), (3, 0)]) rfl (Nat.le_of_ble_eq_true rfl) rfl]
  show ∃ M', vr sc d c_X0_reverse _ = _ ∧ _
  rw [e_X0_reverse_0]
  obtain ⟨M', _, h⟩ := reverse_loop (sc := sc) (d := d) hr hl (M (r + 1)) (l.length / 2) 0 M (3, 0) rfl (by omega) hs hk.1 (fun j h1 h2 => by omega) (fun _ _ _ => rfl) (fun j h1 h2 => by omega)
  rw [hk.2] at h
  exact ⟨M', h⟩
theorem KV.drop {o s a : Int} {M : dM} {l : List Int} (hk : KV o s a M l) (ho : o ≠ a) {n : Nat} (hn : n = l.length - 1) : KV o s a (d_up M o s (n : Int)) l.dropLast := by
  have e : l.dropLast.length = n := by rw [List.length_dropLast, hn]
  refine ⟨by rw [d_up_at, e], lst_of fun i hi => ?_⟩
  rw [d_up_n1 _ (Ne.symm ho), List.getElem_dropLast]
  exact hk.get _
theorem KV.snoc {o s a : Int} {M : dM} {l : List Int} (hk : KV o s a M l) (ho : o ≠ a) {n : Nat} (hn : n = l.length + 1) (x : Int) : KV o s a (d_up (d_up M a l.length x) o s (n : Int)) (l ++ [x]) := by
  have e : (l ++ [x]).length = n := by rw [List.length_append, hn]; rfl
  refine ⟨by rw [d_up_at, e], lst_of fun i hi => ?_⟩
  rw [d_up_n1 _ (Ne.symm ho)]
  by_cases q : i < l.length
  · rw [d_up_n2 _ (by omega), List.getElem_append_left q]
    exact hk.get q
  · have e2 : i = l.length := by omega
    subst e2
    rw [d_up_at]
    simp
def rep1 (l : List Int) : List Int := match l with
  | [] => []
  | x :: t => (x :: t) ++ [x]
def sw1 (x : Int) : Int := i_xor x 1
def tiel (k : Int) (l : List Int) : List Int := if k = 1 then l.map sw1 else if k = 2 then l.dropLast else if k = 3 then (l.map sw1).reverse else if k = 4 then rep1 l.dropLast else if k = 5 then redl l else l
theorem put_ok {sc : dS} {d : Nat} {r : Int} (hr : isK r) {M : dM} (hs : Sk M) {l : List Int} (hl : l.length < 12) (hk : KV r 1 (r + 1) M l) (x : Int) : ∃ M' : dM, vc sc (d + 1) 2 [(2, r), (0, x)] (K0, M) = some ([], (K0, M')) ∧ WF r 1 (r + 1) M M' ∧ KV r 1 (r + 1) M' (l ++ [x]) := by
  rw [vc_s (md := m_X0_put) (L := [(2, r), (0, x)]) rfl (Nat.le_of_ble_eq_true rfl) rfl]
  show ∃ M', vr sc d c_X0_put _ = _ ∧ _
  have hrow := isK_row hs hr
  have c1 : ¬ ((l.length : Nat) : Int) < 0 := by omega
  have c2 : ¬ (12 : Int) ≤ ((l.length : Nat) : Int) := by omega
  rw [e_X0_put_0, if_pos (og_kn hr (by decide)), hk.1, if_neg c1, if_pos (og_kn hr (by decide)), if_neg c2, if_pos (og_kn hr (by decide)), if_pos (og_kn hr (by decide)), hrow, if_pos (ag_kn hr (by omega) (by omega)), if_pos (og_kn hr (by decide)), if_pos (og_kn hr (by decide)), d_up_n1 _ (show r ≠ r + 1 by omega), hk.1, w_s _ (by omega), if_pos ⟨by omega, by omega⟩]
  exact ⟨_, rfl, (WF.row _ _ _ _ _ _).tr (WF.sz _ _ _ _ _), hk.snoc (by omega) rfl x⟩
theorem dropLast_ok {sc : dS} {d : Nat} {r : Int} (hr : isK r) {M : dM} (hs : Sk M) {l : List Int} (hl : l.length ≤ 12) (hk : KV r 1 (r + 1) M l) : ∃ M' : dM, vc sc (d + 1) 8 [(2, r)] (K0, M) = some ([], (K0, M')) ∧ WF r 1 (r + 1) M M' ∧ KV r 1 (r + 1) M' l.dropLast := by
  rw [vc_s (md := m_X0_dropLast) (L := [(2, r)]) rfl (Nat.le_of_ble_eq_true rfl) rfl]
  show ∃ M', vr sc d c_X0_dropLast _ = _ ∧ _
  rw [e_X0_dropLast_0, if_pos (og_kn hr (by decide)), hk.1]
  by_cases c : (l.length : Int) ≤ 0
  · have e : l = [] := List.eq_nil_of_length_eq_zero (by omega)
    subst e
    rw [if_pos c]
    exact ⟨M, rfl, WF.rf _ _ _ _, hk⟩
  · obtain ⟨n, hn⟩ : ∃ n, l.length = n + 1 := ⟨l.length - 1, by omega⟩
    rw [if_neg c, if_pos (og_kn hr (by decide)), if_pos (og_kn hr (by decide)), hn, w_p n (by omega), if_pos ⟨by omega, by omega⟩]
    exact ⟨_, rfl, WF.sz _ _ _ _ _, hk.drop (by omega) (by omega)⟩
theorem repeatFirst_ok {sc : dS} {d : Nat} {r : Int} (hr : isK r) {M : dM} (hs : Sk M) {l : List Int} (hl : l.length < 12) (hk : KV r 1 (r + 1) M l) : ∃ M' : dM, vc sc (d + 2) 9 [(2, r)] (K0, M) = some ([], (K0, M')) ∧ WF r 1 (r + 1) M M' ∧ KV r 1 (r + 1) M' (rep1 l) := by
  rw [vc_s (md := m_X0_repeatFirst) (L := [(2, r)]) rfl (Nat.le_of_ble_eq_true rfl) rfl]
  show ∃ M', vr sc (d + 1) c_X0_repeatFirst _ = _ ∧ _
  have hrow := isK_row hs hr
  rw [e_X0_repeatFirst_0, if_pos (og_kn hr (by decide)), hk.1]
  match l, hl, hk with
  | [], hl, hk =>
    rw [if_pos (by decide), e_X0_repeatFirst_17]
    exact ⟨M, rfl, WF.rf _ _ _ _, hk⟩
  | x :: t, hl, hk =>
    have c : ¬ (((x :: t).length : Nat) : Int) ≤ 0 := by rw [List.length_cons]; omega
    have e : M (r + 1) 0 = x := hk.get (i := 0) (by rw [List.length_cons]; omega)
    obtain ⟨M', g1, g2, g3⟩ := put_ok (sc := sc) (d := d) hr hs hl hk x
    rw [if_neg c, if_pos (og_kn hr (by decide)), hrow, if_pos (ag_kn hr (by omega) (by omega)), if_pos (rg_kn hr), e, g1, Option.bind_some]
    show ∃ M', vr sc (d + 1) c_X0_repeatFirst (17, [(2, r)], [], (K0, _)) = _ ∧ _
    rw [e_X0_repeatFirst_17]
    exact ⟨M', rfl, g2, g3⟩
theorem isK_nr {r q : Int} (hr : isK r) (hq : isK q) : q ≠ r + 1 := by
  have key : ∀ r ∈ KNL, ∀ q ∈ KNL, q ≠ r + 1 := by decide +kernel
  exact key r hr q hq
theorem become_ok {sc : dS} {d : Nat} {r q : Int} (hr : isK r) (hq : isK q) {M : dM} (hs : Sk M) {l : List Int} (hl : l.length ≤ 12) (hk : KV q 1 (q + 1) M l) : ∃ M' : dM, vc sc (d + 1) 1 [(2, r), (2, q)] (K0, M) = some ([], (K0, M')) ∧ WF r 1 (r + 1) M M' ∧ KV r 1 (r + 1) M' l := by
  rw [vc_s (md := m_X0_become) (L := [(2, r), (2, q)]) rfl (Nat.le_of_ble_eq_true rfl) rfl]
  show ∃ M', vr sc d c_X0_become _ = _ ∧ _
  have hrow := isK_row hs hr
  have hqow := isK_row hs hq
  have hcg : cg K0 (q + 1) 0 (r + 1) 0 12 = true := by
    unfold cg
    rw [(isK_kc hr).2, (isK_kc hq).2]
    rfl
  have e1 : d_cpy M (q + 1) 0 (r + 1) 0 12 q 1 = l.length := by
    unfold d_cpy
    rw [if_neg (fun z => isK_nr hr hq z.1)]
    exact hk.1
  rw [e_X0_become_0, if_pos (og_kn hq (by decide)), if_pos (og_kn hr (by decide)), hrow, hqow, if_pos hcg, if_pos (og_kn hq (by decide)), if_pos (og_kn hr (by decide)), e1, if_pos ⟨by omega, by omega⟩]
  refine ⟨_, rfl, WF.tr (M1 := d_cpy M (q + 1) 0 (r + 1) 0 12) (fun x k g1 g2 => ?_) (WF.sz _ _ _ _ _), by rw [d_up_at], lst_of fun i hi => ?_⟩
  · unfold d_cpy
    rw [if_neg (fun z => g2 z.1)]
  · rw [d_up_n1 _ (by omega)]
    unfold d_cpy
    rw [if_pos ⟨rfl, by omega, by omega⟩, Int.zero_add, Int.sub_zero]
    exact hk.get hi
theorem tiel_len {k : Int} {l : List Int} (h : l.length ≤ 12) : (tiel k l).length ≤ 12 := by
  have h5 := redl_len l
  have h4 : (rep1 l.dropLast).length ≤ 12 := by
    unfold rep1
    split
    · exact Nat.zero_le _
    · next x t e => rw [← e, List.length_append, List.length_dropLast, List.length_singleton]; cases l with
      | nil => cases e
      | cons a b => rw [List.length_cons] at h ⊢; omega
  unfold tiel
  split
  · rw [List.length_map]; exact h
  split
  · rw [List.length_dropLast]; omega
  split
  · rw [List.length_reverse, List.length_map]; exact h
  split
  · exact h4
  split
  · omega
  · exact h
theorem becomeTied_ok {sc : dS} {d : Nat} {r q : Int} (hr : isK r) (hq : isK q) (k : Int) {M : dM} (hs : Sk M) {l : List Int} (hl : l.length ≤ 12) (hk : KV q 1 (q + 1) M l) : ∃ M' : dM, vc sc (d + 3) 5 [(2, r), (0, k), (2, q)] (K0, M) = some ([], (K0, M')) ∧ WF r 1 (r + 1) M M' ∧ KV r 1 (r + 1) M' (tiel k l) := by
  rw [vc_s (md := m_X0_becomeTied) (L := [(2, r), (0, k), (2, q)]) rfl (Nat.le_of_ble_eq_true rfl) rfl]
  show ∃ M', vr sc (d + 2) c_X0_becomeTied _ = _ ∧ _
  obtain ⟨M1, a1, a2, a3⟩ := become_ok (sc := sc) (d := d + 1) hr hq hs hl hk
  have hs1 := a2.sk (Wok_kn hr) hs
  rw [e_X0_becomeTied_0, if_pos (rg_kn hr), a1, Option.bind_some]
  show ∃ M', vr sc (d + 2) c_X0_becomeTied (5, [(2, r), (0, k), (2, q)], [], (K0, M1)) = _ ∧ _
  rw [e_X0_becomeTied_5]
  unfold tiel
  by_cases k1 : k = 1
  · obtain ⟨M2, b1, b2, b3⟩ := swapHands_ok (sc := sc) (d := d + 1) hr hs1 hl a3
    rw [if_pos k1, if_pos k1, if_pos (rg_kn hr), b1, Option.bind_some]
    show ∃ M', vr sc (d + 2) c_X0_becomeTied (44, [(2, r), (0, k), (2, q)], [], (K0, M2)) = _ ∧ _
    rw [e_X0_becomeTied_44]
    exact ⟨M2, rfl, a2.tr b2, b3⟩
  rw [if_neg k1, if_neg k1]
  by_cases k2 : k = 2
  · obtain ⟨M2, b1, b2, b3⟩ := dropLast_ok (sc := sc) (d := d + 1) hr hs1 hl a3
    rw [if_pos k2, if_pos k2, if_pos (rg_kn hr), b1, Option.bind_some]
    show ∃ M', vr sc (d + 2) c_X0_becomeTied (51, [(2, r), (0, k), (2, q)], [], (K0, M2)) = _ ∧ _
    rw [e_X0_becomeTied_51]
    exact ⟨M2, rfl, a2.tr b2, b3⟩
  rw [if_neg k2, if_neg k2]
  by_cases k3 : k = 3
  · obtain ⟨M2, b1, b2, b3⟩ := swapHands_ok (sc := sc) (d := d + 1) hr hs1 hl a3
    obtain ⟨M3, f1, f2, f3⟩ := reverse_ok (sc := sc) (d := d + 1) hr (b2.sk (Wok_kn hr) hs1) (by rw [List.length_map]; exact hl) b3
    rw [if_pos k3, if_pos k3, if_pos (rg_kn hr), b1, Option.bind_some]
    show ∃ M', vr sc (d + 2) c_X0_becomeTied (58, [(2, r), (0, k), (2, q)], [], (K0, M2)) = _ ∧ _
    rw [e_X0_becomeTied_58, if_pos (rg_kn hr), f1, Option.bind_some]
    show ∃ M', vr sc (d + 2) c_X0_becomeTied (62, [(2, r), (0, k), (2, q)], [], (K0, M3)) = _ ∧ _
    rw [e_X0_becomeTied_62]
    exact ⟨M3, rfl, (a2.tr b2).tr f2, f3⟩
  rw [if_neg k3, if_neg k3]
  by_cases k4 : k = 4
  · obtain ⟨M2, b1, b2, b3⟩ := dropLast_ok (sc := sc) (d := d + 1) hr hs1 hl a3
    obtain ⟨M3, f1, f2, f3⟩ := repeatFirst_ok (sc := sc) (d := d) hr (b2.sk (Wok_kn hr) hs1) (by rw [List.length_dropLast]; omega) b3
    rw [if_pos k4, if_pos k4, if_pos (rg_kn hr), b1, Option.bind_some]
    show ∃ M', vr sc (d + 2) c_X0_becomeTied (69, [(2, r), (0, k), (2, q)], [], (K0, M2)) = _ ∧ _
    rw [e_X0_becomeTied_69, if_pos (rg_kn hr), f1, Option.bind_some]
    show ∃ M', vr sc (d + 2) c_X0_becomeTied (73, [(2, r), (0, k), (2, q)], [], (K0, M3)) = _ ∧ _
    rw [e_X0_becomeTied_73]
    exact ⟨M3, rfl, (a2.tr b2).tr f2, f3⟩
  rw [if_neg k4, if_neg k4]
  by_cases k5 : k = 5
  · obtain ⟨M2, b1, b2, b3⟩ := reduce_ok (sc := sc) (d := d) hr hs1 hl a3
    rw [if_pos k5, if_pos k5, if_pos (rg_kn hr), b1, Option.bind_some]
    show ∃ M', vr sc (d + 2) c_X0_becomeTied (80, [(2, r), (0, k), (2, q)], [], (K0, M2)) = _ ∧ _
    rw [e_X0_becomeTied_80]
    exact ⟨M2, rfl, a2.tr b2, b3⟩
  rw [if_neg k5, if_neg k5]
  exact ⟨M1, rfl, a2, a3⟩
