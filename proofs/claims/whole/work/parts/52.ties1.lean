/-! what a lad ties, the reference's side -/
theorem w_t3 (n c : Nat) (h : n < 1000) (hc : c < 1000) : w32 (w32 (3 * (n : Int)) + (c : Int)) = ((3 * n + c : Nat) : Int) := by
  have e : w32 (3 * (n : Int)) = ((3 * n : Nat) : Int) := w32_e (by omega) (by omega) (by omega)
  rw [e]
  clear e
  exact w32_e (by omega) (by omega) (by omega)
theorem Sk_m9 {M : dM} (h : Sk M) : M 107 9 = 111 := h (107, 9, 111) (by decide +kernel)
theorem ag_rows {i : Int} (h0 : 0 ≤ i) (h1 : i < 15) : ag K0 8 111 i = true := by
  unfold ag
  rw [show kc K0 111 = some (8, 15) from rfl]
  exact decide_eq_true ⟨rfl, h0, h1⟩
theorem ties1_185 {sc : dS} {d : Nat} {M : dM} {v1 k : Int} {q3 q4 : dV} {l : List Int} (hk : KV 107 29 114 M l) : ∃ M' : dM, vr sc d c_X7_ties1 (185, [(2, 107), (0, v1), (0, k), q3, q4], [], (K0, M)) = some ([], (K0, M')) ∧ WF 107 29 114 M M' ∧ KV 107 29 114 M' l := by
  rw [e_X7_ties1_185]
  exact ⟨M, rfl, WF.rf _ _ _ _, hk⟩
theorem ties1_139 {sc : dS} {d : Nat} {M : dM} {v1 k : Int} {q3 q4 : dV} {l : List Int} (hs : Sk M) (hl : l.length < 12 ∨ k ≠ 4 ∧ l.length ≤ 12) (hk : KV 107 29 114 M l) : ∃ M' : dM, vr sc (d + 2) c_X7_ties1 (139, [(2, 107), (0, v1), (0, k), q3, q4], [], (K0, M)) = some ([], (K0, M')) ∧ WF 107 29 114 M M' ∧ KV 107 29 114 M' (if k = 4 then rep1 l else if k = 5 then redl l else l) := by
  have hrow := Sk_m28 hs
  rw [e_X7_ties1_139]
  by_cases k4 : k = 4
  · have n5 : ¬ k = 5 := by omega
    have hl' : l.length < 12 := by omega
    rw [if_neg (fun z => z k4), if_pos k4, if_pos (show og K0 7 107 29 = true from rfl), hk.1]
    match l, hl', hk with
    | [], hl', hk =>
      rw [if_pos (by decide), if_pos n5]
      exact ties1_185 hk
    | x :: t, hl', hk =>
      have c : ¬ (((x :: t).length : Nat) : Int) ≤ 0 := by rw [List.length_cons]; omega
      have e : M 114 0 = x := hk.get (i := 0) (by rw [List.length_cons]; omega)
      rw [if_neg c, if_pos (show og K0 7 107 28 = true from rfl), if_pos (show og K0 7 107 29 = true from rfl), if_pos (show og K0 7 107 28 = true from rfl), hrow, if_pos (ag_wd (by omega) (by omega)), if_pos (ag_wd (by omega) (by omega)), if_pos (show og K0 7 107 29 = true from rfl), if_pos (show og K0 7 107 29 = true from rfl), d_up_n1 _ (show (107 : Int) ≠ 114 by decide), hk.1, w_s _ (by omega), if_pos ⟨by omega, by omega⟩, if_pos n5, e]
      obtain ⟨M', g1, g2, g3⟩ := ties1_185 (sc := sc) (d := d + 2) (v1 := v1) (k := k) (q3 := q3) (q4 := q4) (hk.snoc (by decide) rfl x)
      exact ⟨M', g1, ((WF.row _ _ _ _ _ _).tr (WF.sz _ _ _ _ _)).tr g2, g3⟩
  · rw [if_pos k4, if_neg k4]
    by_cases k5 : k = 5
    · obtain ⟨M2, b1, b2, b3⟩ := reduces_ok (sc := sc) (d := d) hs (by omega) hk
      rw [if_neg (fun z => z k5), if_pos k5, if_pos (show rg K0 7 107 = true from rfl), b1, Option.bind_some]
      show ∃ M', vr sc (d + 2) c_X7_ties1 (185, [(2, 107), (0, v1), (0, k), q3, q4], [], (K0, M2)) = _ ∧ _
      obtain ⟨M', g1, g2, g3⟩ := ties1_185 (sc := sc) (d := d + 2) (v1 := v1) (k := k) (q3 := q3) (q4 := q4) b3
      exact ⟨M', g1, b2.tr g2, g3⟩
    · rw [if_pos k5, if_neg k5]
      exact ties1_185 hk
theorem ties1_47 {sc : dS} {d : Nat} {M : dM} {v1 k : Int} {q3 q4 : dV} {l : List Int} (hs : Sk M) (hl : l.length ≤ 12) (hk : KV 107 29 114 M l) : ∃ M' : dM, vr sc (d + 2) c_X7_ties1 (47, [(2, 107), (0, v1), (0, k), q3, q4], [], (K0, M)) = some ([], (K0, M')) ∧ WF 107 29 114 M M' ∧ KV 107 29 114 M' (if k = 3 then l.reverse else if k = 2 then l.dropLast else if k = 4 then rep1 l.dropLast else if k = 5 then redl l else l) := by
  rw [e_X7_ties1_47]
  by_cases k3 : k = 3
  · subst k3
    rw [if_neg (by decide), if_pos rfl]
    obtain ⟨M1, q', a1, a2, a3⟩ := turns__loop (sc := sc) (d := d + 2) (v1 := v1) hl (M 114) (l.length / 2) 0 M q4 rfl (by omega) hs hk.1 (fun j h1 h2 => by omega) (fun _ _ _ => rfl) (fun j h1 h2 => by omega)
    rw [hk.2] at a3
    obtain ⟨M', g1, g2, g3⟩ := ties1_139 (sc := sc) (d := d) (v1 := v1) (k := 3) (q3 := (0, ((l.length / 2 : Nat) : Int))) (q4 := q') (a2.sk Wok_wd hs) (Or.inr ⟨by decide, by rw [List.length_reverse]; exact hl⟩) a3
    rw [if_neg (by decide), if_neg (by decide)] at g3
    exact ⟨M', a1.trans g1, a2.tr g2, g3⟩
  rw [if_pos k3, if_neg k3]
  have dl : ∀ (n : Nat), l.length = n + 1 → ∃ M' : dM, vr sc (d + 2) c_X7_ties1 (139, [(2, 107), (0, v1), (0, k), q3, q4], [], (K0, d_up M 107 29 (n : Int))) = some ([], (K0, M')) ∧ WF 107 29 114 M M' ∧ KV 107 29 114 M' (if k = 4 then rep1 l.dropLast else if k = 5 then redl l.dropLast else l.dropLast) := by
    intro n hn
    obtain ⟨M', g1, g2, g3⟩ := ties1_139 (sc := sc) (d := d) (v1 := v1) (k := k) (q3 := q3) (q4 := q4) (l := l.dropLast) ((WF.sz 107 29 114 (n : Int) M).sk Wok_wd hs) (Or.inl (by rw [List.length_dropLast]; omega)) (hk.drop (by decide) (by omega))
    exact ⟨M', g1, (WF.sz _ _ _ _ _).tr g2, g3⟩
  by_cases k2 : k = 2
  · subst k2
    rw [if_pos rfl, if_pos rfl, if_pos (show og K0 7 107 29 = true from rfl), hk.1]
    by_cases c : (l.length : Int) ≤ 0
    · have e : l = [] := List.eq_nil_of_length_eq_zero (by omega)
      subst e
      rw [if_pos c]
      obtain ⟨M', g1, g2, g3⟩ := ties1_139 (sc := sc) (d := d) (v1 := v1) (k := 2) (q3 := q3) (q4 := q4) hs (Or.inr ⟨by decide, hl⟩) hk
      rw [if_neg (by decide), if_neg (by decide)] at g3
      exact ⟨M', g1, g2, g3⟩
    · obtain ⟨n, hn⟩ : ∃ n, l.length = n + 1 := ⟨l.length - 1, by omega⟩
      rw [if_neg c, if_pos (show og K0 7 107 29 = true from rfl), if_pos (show og K0 7 107 29 = true from rfl), hn, w_p n (by omega), if_pos ⟨by omega, by omega⟩]
      have := dl n hn
      rw [if_neg (by decide), if_neg (by decide)] at this
      exact this
  rw [if_neg k2, if_neg k2]
  by_cases k4 : k = 4
  · subst k4
    rw [if_neg (by decide), if_pos rfl, if_pos (show og K0 7 107 29 = true from rfl), hk.1]
    by_cases c : (l.length : Int) ≤ 0
    · have e : l = [] := List.eq_nil_of_length_eq_zero (by omega)
      subst e
      rw [if_pos c]
      obtain ⟨M', g1, g2, g3⟩ := ties1_139 (sc := sc) (d := d) (v1 := v1) (k := 4) (q3 := q3) (q4 := q4) hs (Or.inl (by decide)) hk
      rw [if_pos rfl] at g3
      exact ⟨M', g1, g2, g3⟩
    · obtain ⟨n, hn⟩ : ∃ n, l.length = n + 1 := ⟨l.length - 1, by omega⟩
      rw [if_neg c, if_pos (show og K0 7 107 29 = true from rfl), if_pos (show og K0 7 107 29 = true from rfl), hn, w_p n (by omega), if_pos ⟨by omega, by omega⟩]
      have := dl n hn
      rw [if_pos rfl] at this
      exact this
  rw [if_pos k4, if_neg k4]
  obtain ⟨M', g1, g2, g3⟩ := ties1_139 (sc := sc) (d := d) (v1 := v1) (k := k) (q3 := q3) (q4 := q4) hs (Or.inr ⟨k4, hl⟩) hk
  rw [if_neg k4] at g3
  exact ⟨M', g1, g2, g3⟩
theorem ties1_ok {sc : dS} {d : Nat} {n : Nat} (hn : n < 5) {M : dM} (hs : Sk M) {l : List Int} (hl : l.length ≤ 12) (hk : KV 107 29 114 M l) : ∃ M' : dM, vc sc (d + 3) 155 [(2, 107), (0, (n : Int))] (K0, M) = some ([], (K0, M')) ∧ WF 107 29 114 M M' ∧ KV 107 29 114 M' (tiel (M 111 ((3 * n + 2 : Nat) : Int)) l) := by
  rw [vc_s (md := m_X7_ties1) (L := [(2, 107), (0, (n : Int)), (3, 0), (3, 0), (3, 0)]) rfl (Nat.le_of_ble_eq_true rfl) rfl]
  show ∃ M', vr sc (d + 2) c_X7_ties1 _ = _ ∧ _
  have e9 := Sk_m9 hs
  have w := w_t3 n 2 (by omega) (by omega)
  rw [e_X7_ties1_0, if_pos (show og K0 7 107 9 = true from rfl), e9, show w32 (w32 (3 * (n : Int)) + 2) = ((3 * n + 2 : Nat) : Int) from w, if_pos (ag_rows (by omega) (by omega))]
  clear w
  generalize M 111 ((3 * n + 2 : Nat) : Int) = k
  have sw : ∃ M' : dM, vr sc (d + 2) c_X7_ties1 (23, [(2, 107), (0, (n : Int)), (0, k), (0, 0), (3, 0)], [], (K0, M)) = some ([], (K0, M')) ∧ WF 107 29 114 M M' ∧ KV 107 29 114 M' (if k = 3 then (l.map sw1).reverse else if k = 2 then (l.map sw1).dropLast else if k = 4 then rep1 (l.map sw1).dropLast else if k = 5 then redl (l.map sw1) else l.map sw1) := by
    obtain ⟨M1, a1, a2, a3⟩ := swaps_loop (sc := sc) (d := d + 2) (v1 := (n : Int)) (v2 := k) (q4 := (3, 0)) hl (M 114) l.length 0 M rfl (by omega) hs hk.1 (fun j h1 h2 => by omega) (fun _ _ _ => rfl)
    rw [hk.2] at a3
    obtain ⟨M', g1, g2, g3⟩ := ties1_47 (sc := sc) (d := d) (v1 := (n : Int)) (k := k) (q3 := (0, (l.length : Int))) (q4 := (3, 0)) (a2.sk Wok_wd hs) (by rw [List.length_map]; exact hl) a3
    exact ⟨M', a1.trans g1, a2.tr g2, g3⟩
  unfold tiel
  by_cases k1 : k = 1
  · subst k1
    rw [if_pos rfl, if_pos rfl]
    rw [if_neg (by decide), if_neg (by decide), if_neg (by decide), if_neg (by decide)] at sw
    exact sw
  rw [if_neg k1, if_neg k1]
  by_cases k3 : k = 3
  · subst k3
    rw [if_neg (fun z => z rfl), if_neg (by decide), if_pos rfl]
    rw [if_pos rfl] at sw
    exact sw
  rw [if_pos k3, if_neg k3]
  have := ties1_47 (sc := sc) (d := d) (v1 := (n : Int)) (k := k) (q3 := (3, 0)) (q4 := (3, 0)) hs hl hk
  rw [if_neg k3] at this
  exact this
