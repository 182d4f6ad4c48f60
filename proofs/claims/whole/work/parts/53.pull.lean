/-! pulling, both sides -/
theorem w_ad (a b : Nat) (ha : a < 1000000) (hb : b < 1000000) : w32 ((a : Int) + (b : Int)) = ((a + b : Nat) : Int) := w32_e (by omega) (by omega) (by omega)
theorem w_d2 (n i : Nat) (h : 2 * i ≤ n) (hn : n < 1000000) : w32 ((n : Int) - w32 (2 * (i : Int))) = ((n - 2 * i : Nat) : Int) := by
  have e : w32 (2 * (i : Int)) = ((2 * i : Nat) : Int) := w32_e (by omega) (by omega) (by omega)
  rw [e]
  clear e
  exact w32_e (by omega) (by omega) (by omega)
def slc (l : List Int) (i : Nat) : List Int := (l.drop i).take (l.length - 2 * i)
theorem slc_len {l : List Int} {i : Nat} (h : 2 * i ≤ l.length) : (slc l i).length = l.length - 2 * i := by
  unfold slc
  rw [List.length_take, List.length_drop]
  omega
theorem slc_get {l : List Int} {i j : Nat} (h0 : 2 * i ≤ l.length) (h : j < (slc l i).length) (h2 : i + j < l.length) : (slc l i)[j] = l[i + j] := by
  have e : (slc l i)[j]? = some l[i + j] := by
    have h := h
    rw [slc_len h0] at h
    unfold slc
    rw [List.getElem?_take_of_lt h, List.getElem?_drop, List.getElem?_eq_getElem h2]
  rw [List.getElem?_eq_getElem h] at e
  exact Option.some.inj e
theorem slc_0 (l : List Int) : slc l 0 = l := by unfold slc; simp
theorem slc_s {l : List Int} {i : Nat} (h : 2 * i + 2 ≤ l.length) : ((slc l i).drop 1).take (l.length - 2 * i - 2) = slc l (i + 1) := by
  have h1 := slc_len (l := l) (i := i) (by omega)
  have h2 := slc_len (l := l) (i := i + 1) (by omega)
  apply List.ext_getElem
  · rw [h2, List.length_take, List.length_drop, h1]
    omega
  · intro j q1 q2
    rw [h2] at q2
    rw [List.getElem_take, List.getElem_drop, slc_get (by omega) _ (by omega), slc_get (by omega) _ (by omega)]
    congr 1
    omega
def outn (l : List Int) (i : Nat) : Nat → Nat
  | 0 => i
  | m + 1 => if i_xor (l.getD i 0) (l.getD (l.length - 1 - i) 0) = 2 then outn l (i + 1) m else i
def pul (l : List Int) : List Int := slc l (outn l 0 (l.length / 2))
theorem outn_le (l : List Int) : ∀ (m i : Nat), outn l i m ≤ i + m := by
  intro m
  induction m with
  | zero => intro i; exact Nat.le_refl _
  | succ m ih =>
    intro i
    unfold outn
    split
    · have := ih (i + 1); omega
    · omega
theorem pul_len (l : List Int) : (pul l).length ≤ l.length := by
  unfold pul slc
  rw [List.length_take, List.length_drop]
  omega
theorem getD_get {l : List Int} {i : Nat} (h : i < l.length) : l.getD i 0 = l[i] := by simp [List.getD, h]
theorem shift_loop {sc : dS} {d : Nat} {r : Int} (hr : isK r) {n o : Nat} (hn : o + n ≤ 12) (f0 : Int → Int) : ∀ (m i : Nat) (M : dM), n - i = m → i ≤ n → Sk M → M r 1 = n → (∀ j : Int, 0 ≤ j → j < i → M (r + 1) j = f0 (o + j)) → (∀ j : Int, i ≤ j → j < 12 → M (r + 1) j = f0 j) →
    ∃ M' : dM, vr sc d c_X0_pull (66, [(2, r), (0, (o : Int)), (0, (i : Int))], [], (K0, M)) = some ([], (K0, M')) ∧ WF r 1 (r + 1) M M' ∧ M' r 1 = n ∧ ∀ j : Int, 0 ≤ j → j < n → M' (r + 1) j = f0 (o + j) := by
  intro m
  induction m with
  | zero =>
    intro i M hm hi hs hM h1 h2
    have e : i = n := by omega
    subst e
    rw [e_X0_pull_66, if_pos (og_kn hr (by decide)), hM, if_pos (Int.le_refl _)]
    exact ⟨M, rfl, WF.rf _ _ _ _, hM, h1⟩
  | succ m ih =>
    intro i M hm hi hs hM h1 h2
    have c1 : ¬ (n : Int) ≤ i := by omega
    have hrow := isK_row hs hr
    rw [e_X0_pull_66, if_pos (og_kn hr (by decide)), hM, if_neg c1, if_pos (og_kn hr (by decide)), if_pos (og_kn hr (by decide)), hrow, w_ad i o (by omega) (by omega), if_pos (ag_kn hr (by omega) (by omega)), if_pos (ag_kn hr (by omega) (by omega)), w_s i (by omega), h2 _ (by omega) (by omega)]
    obtain ⟨M', g1, g2, g3⟩ := ih (i + 1) (d_up M (r + 1) i (f0 ((i + o : Nat) : Int))) (by omega) (by omega) ((WF.row r 1 (r + 1) _ _ _).sk (Wok_kn hr) hs) (by rw [d_up_n1 _ (by omega)]; exact hM) (fun j q1 q2 => by
      by_cases q : j = i
      · rw [q, d_up_at]; exact congrArg f0 (by omega)
      · rw [d_up_n2 _ q]; exact h1 j q1 (by omega)) (fun j q1 q2 => by rw [d_up_n2 _ (by omega)]; exact h2 j (by omega) q2)
    exact ⟨M', g1, (WF.row r 1 (r + 1) _ _ _).tr g2, g3⟩
theorem pull_fin {sc : dS} {d : Nat} {r : Int} (hr : isK r) {M : dM} (hs : Sk M) {l : List Int} (hl : l.length ≤ 12) (hk : KV r 1 (r + 1) M l) {i : Nat} (hi : 2 * i ≤ l.length) :
    ∃ M' : dM, vr sc d c_X0_pull (66, [(2, r), (0, (i : Int)), (0, 0)], [], (K0, d_up M r 1 ((l.length - 2 * i : Nat) : Int))) = some ([], (K0, M')) ∧ WF r 1 (r + 1) M M' ∧ KV r 1 (r + 1) M' (slc l i) := by
  obtain ⟨M', g1, g2, g3, g4⟩ := shift_loop (sc := sc) (d := d) hr (n := l.length - 2 * i) (o := i) (by omega) (M (r + 1)) (l.length - 2 * i) 0 (d_up M r 1 ((l.length - 2 * i : Nat) : Int)) rfl (by omega) ((WF.sz r 1 (r + 1) _ M).sk (Wok_kn hr) hs) (d_up_at _ _ _ _) (fun j h1 h2 => by omega) (fun j _ _ => d_up_n1 _ (by omega))
  have e := slc_len hi
  refine ⟨M', g1, (WF.sz _ _ _ _ _).tr g2, by rw [g3, e], lst_of fun j hj => ?_⟩
  rw [e] at hj
  have h3 := slc_get (l := l) (i := i) (j := j) hi (by rw [e]; exact hj) (by omega)
  have h4 := hk.get (i := i + j) (by omega)
  rw [g4 j (by omega) (by omega), h3, ← h4]
  exact congrArg _ (by omega)
theorem pull_loop {sc : dS} {d : Nat} {r : Int} (hr : isK r) {M : dM} (hs : Sk M) {l : List Int} (hl : l.length ≤ 12) (hk : KV r 1 (r + 1) M l) : ∀ (m i : Nat), l.length / 2 - i = m → i ≤ l.length / 2 →
    ∃ M' : dM, vr sc (d + 1) c_X0_pull (8, [(2, r), (0, (i : Int)), (0, (i : Int))], [], (K0, M)) = some ([], (K0, M')) ∧ WF r 1 (r + 1) M M' ∧ KV r 1 (r + 1) M' (slc l (outn l i m)) := by
  intro m
  induction m with
  | zero =>
    intro i hm hi
    have c1 : ((l.length / 2 : Nat) : Int) ≤ i := by omega
    rw [e_X0_pull_8, if_pos (og_kn hr (by decide)), hk.1, w_h _ (by omega), if_pos c1, if_pos (og_kn hr (by decide)), if_pos (og_kn hr (by decide)), w_d2 _ i (by omega) (by omega), if_pos ⟨by omega, by omega⟩]
    exact pull_fin hr hs hl hk (by omega)
  | succ m ih =>
    intro i hm hi
    have c1 : ¬ ((l.length / 2 : Nat) : Int) ≤ i := by omega
    have hrow := isK_row hs hr
    have h1 := hk.get (i := i) (by omega)
    have h2 := hk.get (i := l.length - 1 - i) (by omega)
    have q1 := getD_get (l := l) (i := i) (by omega)
    have q2 := getD_get (l := l) (i := l.length - 1 - i) (by omega)
    rw [e_X0_pull_8, if_pos (og_kn hr (by decide)), hk.1, w_h _ (by omega), if_neg c1, if_pos (og_kn hr (by decide)), hrow, if_pos (ag_kn hr (by omega) (by omega)), if_pos (og_kn hr (by decide)), if_pos (og_kn hr (by decide)), w_q l.length i (by omega) (by omega), if_pos (ag_kn hr (by omega) (by omega)), h1, h2, undo_v, Option.bind_some]
    show ∃ M', vr sc (d + 1) c_X0_pull (40, [(2, r), (0, (i : Int)), (0, (i : Int))], [(0, _)], (K0, M)) = _ ∧ _
    unfold outn
    rw [q1, q2, e_X0_pull_40]
    by_cases hx : i_xor l[i] l[l.length - 1 - i] = 2
    · rw [if_pos hx, if_pos hx, if_neg (by decide), w_s i (by omega)]
      exact ih (i + 1) (by omega) (by omega)
    · rw [if_neg hx, if_neg hx, if_pos rfl, if_pos (og_kn hr (by decide)), if_pos (og_kn hr (by decide)), hk.1, w_d2 _ i (by omega) (by omega), if_pos ⟨by omega, by omega⟩]
      exact pull_fin hr hs hl hk (by omega)
theorem pull_ok {sc : dS} {d : Nat} {r : Int} (hr : isK r) {M : dM} (hs : Sk M) {l : List Int} (hl : l.length ≤ 12) (hk : KV r 1 (r + 1) M l) : ∃ M' : dM, vc sc (d + 3) 12 [(2, r)] (K0, M) = some ([], (K0, M')) ∧ WF r 1 (r + 1) M M' ∧ KV r 1 (r + 1) M' (pul (redl l)) := by
  rw [vc_s (md := m_X0_pull) (L := [(2, r), (3, 0), (3, 0)]) rfl (Nat.le_of_ble_eq_true rfl) rfl]
  show ∃ M', vr sc (d + 2) c_X0_pull _ = _ ∧ _
  obtain ⟨M1, a1, a2, a3⟩ := reduce_ok (sc := sc) (d := d) hr hs hl hk
  have hlen := redl_len l
  rw [e_X0_pull_0, if_pos (rg_kn hr), a1, Option.bind_some]
  show ∃ M', vr sc (d + 2) c_X0_pull (4, [(2, r), (3, 0), (3, 0)], [], (K0, M1)) = _ ∧ _
  rw [e_X0_pull_4]
  obtain ⟨M', g1, g2, g3⟩ := pull_loop (sc := sc) (d := d + 1) hr (a2.sk (Wok_kn hr) hs) (by omega) a3 ((redl l).length / 2) 0 rfl (by omega)
  exact ⟨M', g1, a2.tr g2, g3⟩
theorem cuts_loop {sc : dS} {d : Nat} {n o : Nat} (hn : o + n ≤ 24) (f0 : Int → Int) : ∀ (m i : Nat) (M : dM), n - i = m → i ≤ n → Sk M → (∀ j : Int, 0 ≤ j → j < i → M 114 j = f0 (o + j)) → (∀ j : Int, i ≤ j → j < 24 → M 114 j = f0 j) →
    ∃ M' : dM, vr sc d c_X7_cuts (2, [(2, 107), (0, (o : Int)), (0, (n : Int)), (0, (i : Int))], [], (K0, M)) = some ([], (K0, M')) ∧ WF 107 29 114 M M' ∧ M' 107 29 = n ∧ ∀ j : Int, 0 ≤ j → j < n → M' 114 j = f0 (o + j) := by
  intro m
  induction m with
  | zero =>
    intro i M hm hi hs h1 h2
    have e : i = n := by omega
    subst e
    rw [e_X7_cuts_2, if_pos (Int.le_refl _), if_pos (show og K0 7 107 29 = true from rfl), if_pos ⟨by omega, by omega⟩]
    exact ⟨_, rfl, WF.sz _ _ _ _ _, d_up_at _ _ _ _, fun j q1 q2 => by rw [d_up_n1 _ (by decide)]; exact h1 j q1 q2⟩
  | succ m ih =>
    intro i M hm hi hs h1 h2
    have c1 : ¬ (n : Int) ≤ i := by omega
    have hrow := Sk_m28 hs
    rw [e_X7_cuts_2, if_neg c1, if_pos (show og K0 7 107 28 = true from rfl), if_pos (show og K0 7 107 28 = true from rfl), hrow, w_ad o i (by omega) (by omega), if_pos (ag_wd (by omega) (by omega)), if_pos (ag_wd (by omega) (by omega)), w_s i (by omega), h2 _ (by omega) (by omega)]
    obtain ⟨M', g1, g2, g3⟩ := ih (i + 1) (d_up M 114 i (f0 ((o + i : Nat) : Int))) (by omega) (by omega) ((WF.row 107 29 114 _ _ _).sk Wok_wd hs) (fun j q1 q2 => by
      by_cases q : j = i
      · rw [q, d_up_at]; exact congrArg f0 (by omega)
      · rw [d_up_n2 _ q]; exact h1 j q1 (by omega)) (fun j q1 q2 => by rw [d_up_n2 _ (by omega)]; exact h2 j (by omega) q2)
    exact ⟨M', g1, (WF.row 107 29 114 _ _ _).tr g2, g3⟩
theorem cuts_ok {sc : dS} {d : Nat} {M : dM} (hs : Sk M) {l : List Int} (hl : l.length ≤ 12) (hk : KV 107 29 114 M l) {n : Nat} (hn : n + 1 ≤ l.length) : ∃ M' : dM, vc sc (d + 1) 153 [(2, 107), (0, 1), (0, (n : Int))] (K0, M) = some ([], (K0, M')) ∧ WF 107 29 114 M M' ∧ KV 107 29 114 M' ((l.drop 1).take n) := by
  rw [vc_s (md := m_X7_cuts) (L := [(2, 107), (0, 1), (0, (n : Int)), (3, 0)]) rfl (Nat.le_of_ble_eq_true rfl) rfl]
  show ∃ M', vr sc d c_X7_cuts _ = _ ∧ _
  rw [e_X7_cuts_0]
  obtain ⟨M', g1, g2, g3, g4⟩ := cuts_loop (sc := sc) (d := d) (n := n) (o := 1) (by omega) (M 114) n 0 M rfl (by omega) hs (fun j h1 h2 => by omega) (fun _ _ _ => rfl)
  have e : ((l.drop 1).take n).length = n := by rw [List.length_take, List.length_drop]; omega
  refine ⟨M', g1, g2, by rw [g3, e], lst_of fun j hj => ?_⟩
  rw [e] at hj
  rw [g4 j (by omega) (by omega), List.getElem_take, List.getElem_drop, ← hk.get (i := 1 + j) (by omega)]
  exact congrArg _ (by omega)
theorem pulls_loop {sc : dS} {d : Nat} {l : List Int} (hl : l.length ≤ 12) : ∀ (m i : Nat) (M : dM), l.length / 2 - i = m → i ≤ l.length / 2 → Sk M → KV 107 29 114 M (slc l i) →
    ∃ M' : dM, vr sc (d + 1) c_X7_pulls (4, [(2, 107)], [], (K0, M)) = some ([], (K0, M')) ∧ WF 107 29 114 M M' ∧ KV 107 29 114 M' (slc l (outn l i m)) := by
  intro m
  induction m with
  | zero =>
    intro i M hm hi hs hk
    have e := slc_len (l := l) (i := i) (by omega)
    have c1 : ((l.length - 2 * i : Nat) : Int) ≤ 1 := by omega
    rw [e_X7_pulls_4, if_pos (show og K0 7 107 29 = true from rfl), hk.1, e, if_pos c1]
    exact ⟨M, rfl, WF.rf _ _ _ _, hk⟩
  | succ m ih =>
    intro i M hm hi hs hk
    have e := slc_len (l := l) (i := i) (by omega)
    have c1 : ¬ ((l.length - 2 * i : Nat) : Int) ≤ 1 := by omega
    obtain ⟨n, hn⟩ : ∃ n, l.length - 2 * i = n + 2 := ⟨l.length - 2 * i - 2, by omega⟩
    have hrow := Sk_m28 hs
    have h1 : M 114 0 = (slc l i)[0]'(by omega) := hk.get (i := 0) (by omega)
    have h2 := hk.get (i := n + 1) (by omega)
    rw [slc_get (by omega) _ (by omega)] at h1 h2
    have q1 := getD_get (l := l) (i := i) (by omega)
    have q2 := getD_get (l := l) (i := l.length - 1 - i) (by omega)
    have e3 : i + (n + 1) = l.length - 1 - i := by omega
    have h2' : M 114 ((n + 1 : Nat) : Int) = l.getD (l.length - 1 - i) 0 := by rw [h2, ← e3, getD_get (by omega)]
    have h1' : M 114 0 = l.getD i 0 := by rw [h1, q1]; rfl
    have hcut : ∃ M' : dM, vc sc (d + 1) 153 [(2, 107), (0, 1), (0, (n : Int))] (K0, M) = some ([], (K0, M')) ∧ WF 107 29 114 M M' ∧ KV 107 29 114 M' (slc l (i + 1)) := by
      have := cuts_ok (sc := sc) (d := d) hs (l := slc l i) (by omega) hk (n := n) (by omega)
      have e4 := slc_s (l := l) (i := i) (by omega)
      rw [hn, show n + 2 - 2 = n by omega] at e4
      rw [e4] at this
      exact this
    have w1 := w_p (n + 1) (by omega)
    rw [e_X7_pulls_4, if_pos (show og K0 7 107 29 = true from rfl), hk.1, e, if_neg c1, hn, if_pos (show og K0 7 107 28 = true from rfl), hrow, if_pos (ag_wd (by omega) (by omega)), if_pos (show og K0 7 107 28 = true from rfl), if_pos (show og K0 7 107 29 = true from rfl), show w32 (((n + 2 : Nat) : Int) - 1) = ((n + 1 : Nat) : Int) from w1]
    clear w1
    rw [if_pos (ag_wd (by omega) (by omega)), h1', h2', undo_w, Option.bind_some]
    show ∃ M', vr sc (d + 1) c_X7_pulls (32, [(2, 107)], [(0, _)], (K0, M)) = _ ∧ _
    unfold outn
    rw [e_X7_pulls_32]
    by_cases hx : i_xor (l.getD i 0) (l.getD (l.length - 1 - i) 0) = 2
    · obtain ⟨M1, a1, a2, a3⟩ := hcut
      rw [if_pos hx, if_pos hx, if_neg (by decide), if_pos (show og K0 7 107 29 = true from rfl), if_pos (show rg K0 7 107 = true from rfl), hk.1, e, hn, show w32 (((n + 2 : Nat) : Int) - 2) = (n : Int) from w32_e (by omega) (by omega) (by omega), a1, Option.bind_some]
      show ∃ M', vr sc (d + 1) c_X7_pulls (46, [(2, 107)], [], (K0, M1)) = _ ∧ _
      rw [e_X7_pulls_46]
      obtain ⟨M', g1, g2, g3⟩ := ih (i + 1) M1 (by omega) (by omega) (a2.sk Wok_wd hs) a3
      exact ⟨M', g1, a2.tr g2, g3⟩
    · rw [if_neg hx, if_neg hx, if_pos rfl]
      exact ⟨M, rfl, WF.rf _ _ _ _, hk⟩
theorem pulls_ok {sc : dS} {d : Nat} {M : dM} (hs : Sk M) {l : List Int} (hl : l.length ≤ 12) (hk : KV 107 29 114 M l) : ∃ M' : dM, vc sc (d + 3) 152 [(2, 107)] (K0, M) = some ([], (K0, M')) ∧ WF 107 29 114 M M' ∧ KV 107 29 114 M' (pul (redl l)) := by
  rw [vc_s (md := m_X7_pulls) (L := [(2, 107)]) rfl (Nat.le_of_ble_eq_true rfl) rfl]
  show ∃ M', vr sc (d + 2) c_X7_pulls _ = _ ∧ _
  obtain ⟨M1, a1, a2, a3⟩ := reduces_ok (sc := sc) (d := d) hs hl hk
  have hlen := redl_len l
  rw [e_X7_pulls_0, if_pos (show rg K0 7 107 = true from rfl), a1, Option.bind_some]
  show ∃ M', vr sc (d + 2) c_X7_pulls (4, [(2, 107)], [], (K0, M1)) = _ ∧ _
  obtain ⟨M', g1, g2, g3⟩ := pulls_loop (sc := sc) (d := d + 1) (l := redl l) (by omega) ((redl l).length / 2) 0 M1 rfl (by omega) (a2.sk Wok_wd hs) (by rw [slc_0]; exact a3)
  exact ⟨M', g1, a2.tr g2, g3⟩
theorem pulledSize_ok {sc : dS} {d : Nat} {M : dM} (hs : Sk M) {l : List Int} (hl : l.length ≤ 12) (hk : KV 107 29 114 M l) : ∃ M' : dM, vc sc (d + 4) 154 [(2, 107)] (K0, M) = some ([(0, ((pul (redl l)).length : Int))], (K0, M')) ∧ WF 107 29 114 M M' ∧ KV 107 29 114 M' (pul (redl l)) := by
  rw [vc_s (md := m_X7_pulledSize) (L := [(2, 107)]) rfl (Nat.le_of_ble_eq_true rfl) rfl]
  show ∃ M', vr sc (d + 3) c_X7_pulledSize _ = _ ∧ _
  obtain ⟨M1, a1, a2, a3⟩ := pulls_ok (sc := sc) (d := d) hs hl hk
  rw [e_X7_pulledSize_0, if_pos (show rg K0 7 107 = true from rfl), a1, Option.bind_some]
  show ∃ M', vr sc (d + 3) c_X7_pulledSize (4, [(2, 107)], [], (K0, M1)) = _ ∧ _
  rw [e_X7_pulledSize_4, if_pos (show og K0 7 107 29 = true from rfl), a3.1]
  exact ⟨M1, rfl, a2, a3⟩
