/-! coming away, both sides -/
theorem isK_ne {r q : Int} (hr : isK r) (hq : isK q) (h : r ≠ q) : r ≠ q + 1 ∧ r + 1 ≠ q ∧ r + 1 ≠ q + 1 := by
  have key : ∀ r ∈ KNL, ∀ q ∈ KNL, r ≠ q + 1 ∧ r + 1 ≠ q := by decide +kernel
  exact ⟨(key r hr q hq).1, (key r hr q hq).2, by omega⟩
theorem KV.fr {r q : Int} {M M' : dM} {l : List Int} (hk : KV r 1 (r + 1) M l) (hr : isK r) (hq : isK q) (h : r ≠ q) (hw : WF q 1 (q + 1) M M') : KV r 1 (r + 1) M' l := by
  have n := isK_ne hr hq h
  exact hk.up (hw _ _ (fun z => h z.1) n.1) (fun j _ _ => hw _ _ (fun z => n.2.1 z.1) n.2.2)
theorem nz_of {l : List Int} (h : ¬ l = []) : ¬ ((l.length : Nat) : Int) = 0 := fun z => h (List.eq_nil_of_length_eq_zero (by omega))
def kpc (c x : Int) : Bool := !(x == c) && !(i_xor x c == 2)
def awf (c : Int) (l : List Int) : Int := if redl l = [] then 0 else if redl (l.filter (kpc c)) = [] then 1 else 0
theorem away_loop {sc : dS} {d : Nat} {r q c : Int} (hr : isK r) (hq : isK q) (hrq : r ≠ q) {l : List Int} (hl : l.length ≤ 12) : ∀ (m i : Nat) (M : dM), l.length - i = m → i ≤ l.length → Sk M → KV r 1 (r + 1) M l → KV q 1 (q + 1) M ((l.take i).filter (kpc c)) →
    ∃ M' : dM, vr sc (d + 2) c_X0_isAway (25, [(2, r), (0, c), (2, q), (0, (i : Int))], [], (K0, M)) = some ([(0, if redl (l.filter (kpc c)) = [] then 1 else 0)], (K0, M')) ∧ WF q 1 (q + 1) M M' := by
  intro m
  induction m with
  | zero =>
    intro i M hm hi hs hk hk2
    have c1 : (l.length : Int) ≤ i := by omega
    rw [List.take_of_length_le (by omega)] at hk2
    obtain ⟨M1, a1, a2, a3⟩ := reduce_ok (sc := sc) (d := d) hq hs (Nat.le_trans (List.length_filter_le _ _) hl) hk2
    rw [e_X0_isAway_25, if_pos (og_kn hr (by decide)), hk.1, if_pos c1, if_pos (rg_kn hq), a1, Option.bind_some]
    show ∃ M', vr sc (d + 2) c_X0_isAway (76, [(2, r), (0, c), (2, q), (0, (i : Int))], [], (K0, M1)) = _ ∧ _
    rw [e_X0_isAway_76, if_pos (og_kn hq (by decide)), a3.1]
    refine ⟨M1, ?_, a2⟩
    by_cases e : redl (l.filter (kpc c)) = []
    · rw [if_pos e, e, if_neg (fun z => z rfl)]
    · rw [if_neg e, if_pos (nz_of e)]
  | succ m ih =>
    intro i M hm hi hs hk hk2
    have c1 : ¬ (l.length : Int) ≤ i := by omega
    have hi' : i < l.length := by omega
    have hrow := isK_row hs hr
    have hget := hk.get hi'
    have next : ∀ (M1 : dM), WF q 1 (q + 1) M M1 → KV q 1 (q + 1) M1 ((l.take (i + 1)).filter (kpc c)) → ∃ M' : dM, vr sc (d + 2) c_X0_isAway (66, [(2, r), (0, c), (2, q), (0, (i : Int))], [], (K0, M1)) = some ([(0, if redl (l.filter (kpc c)) = [] then 1 else 0)], (K0, M')) ∧ WF q 1 (q + 1) M M' := by
      intro M1 h1 h2
      rw [e_X0_isAway_66, w_s i (by omega)]
      obtain ⟨M', g1, g2⟩ := ih (i + 1) M1 (by omega) (by omega) (h1.sk (Wok_kn hq) hs) (hk.fr hr hq hrq h1) h2
      exact ⟨M', g1, h1.tr g2⟩
    have et : (l.take (i + 1)).filter (kpc c) = (l.take i).filter (kpc c) ++ (if kpc c l[i] = true then [l[i]] else []) := by
      rw [← List.take_append_getElem hi', List.filter_append]
      by_cases h : kpc c l[i] = true
      · rw [if_pos h, List.filter_cons, if_pos h]; rfl
      · rw [if_neg h, List.filter_cons, if_neg h]; rfl
    rw [et] at next
    rw [e_X0_isAway_25, if_pos (og_kn hr (by decide)), hk.1, if_neg c1, if_pos (og_kn hr (by decide)), hrow, if_pos (ag_kn hr (by omega) (by omega)), hget]
    by_cases x1 : l[i] = c
    · rw [if_pos x1]
      refine next M (WF.rf _ _ _ _) ?_
      have e : kpc c l[i] = false := by unfold kpc; simp [x1]
      rw [e, if_neg (by decide), List.append_nil]
      exact hk2
    rw [if_neg x1, if_pos (og_kn hr (by decide)), if_pos (ag_kn hr (by omega) (by omega)), undo_v, Option.bind_some]
    show ∃ M', vr sc (d + 2) c_X0_isAway (53, [(2, r), (0, c), (2, q), (0, (i : Int))], [(0, _)], (K0, M)) = _ ∧ _
    rw [e_X0_isAway_53]
    by_cases x2 : i_xor l[i] c = 2
    · rw [if_pos x2, if_pos (by decide)]
      refine next M (WF.rf _ _ _ _) ?_
      have e : kpc c l[i] = false := by unfold kpc; simp [x2]
      rw [e, if_neg (by decide), List.append_nil]
      exact hk2
    · have e : kpc c l[i] = true := by unfold kpc; simp [x1, x2]
      have hlen : ((l.take i).filter (kpc c)).length ≤ i := Nat.le_trans (List.length_filter_le _ _) (by rw [List.length_take]; omega)
      obtain ⟨M1, a1, a2, a3⟩ := put_ok (sc := sc) (d := d + 1) hq hs (by omega) hk2 l[i]
      rw [if_neg x2, if_neg (fun z => z rfl), if_pos (og_kn hr (by decide)), hrow, if_pos (ag_kn hr (by omega) (by omega)), if_pos (rg_kn hq), hget, a1, Option.bind_some]
      rw [e, if_pos rfl] at next
      exact next M1 a2 a3
theorem isAway_ok {sc : dS} {d : Nat} {r q c : Int} (hr : isK r) (hq : isK q) (hrq : r ≠ q) {M : dM} (hs : Sk M) {l : List Int} (hl : l.length ≤ 12) (hk : KV r 1 (r + 1) M l) : ∃ M' : dM, vc sc (d + 3) 13 [(2, r), (0, c), (2, q)] (K0, M) = some ([(0, awf c l)], (K0, M')) ∧ WF q 1 (q + 1) M M' := by
  rw [vc_s (md := m_X0_isAway) (L := [(2, r), (0, c), (2, q), (3, 0)]) rfl (Nat.le_of_ble_eq_true rfl) rfl]
  show ∃ M', vr sc (d + 2) c_X0_isAway _ = _ ∧ _
  obtain ⟨M1, a1, a2, a3⟩ := become_ok (sc := sc) (d := d + 1) hq hr hs hl hk
  have hs1 := a2.sk (Wok_kn hq) hs
  obtain ⟨M2, b1, b2, b3⟩ := reduce_ok (sc := sc) (d := d) hq hs1 hl a3
  rw [e_X0_isAway_0, if_pos (rg_kn hq), a1, Option.bind_some]
  show ∃ M', vr sc (d + 2) c_X0_isAway (5, [(2, r), (0, c), (2, q), (3, 0)], [], (K0, M1)) = _ ∧ _
  rw [e_X0_isAway_5, if_pos (rg_kn hq), b1, Option.bind_some]
  show ∃ M', vr sc (d + 2) c_X0_isAway (9, [(2, r), (0, c), (2, q), (3, 0)], [], (K0, M2)) = _ ∧ _
  rw [e_X0_isAway_9, if_pos (og_kn hq (by decide)), b3.1]
  unfold awf
  by_cases e : redl l = []
  · rw [if_pos e, e, if_neg (fun z => z rfl)]
    exact ⟨M2, rfl, a2.tr b2⟩
  · rw [if_neg e, if_pos (nz_of e), if_pos (og_kn hq (by decide)), if_pos ⟨by omega, by omega⟩]
    have hw : WF q 1 (q + 1) M (d_up M2 q 1 0) := (a2.tr b2).tr (WF.sz _ _ _ _ _)
    obtain ⟨M', g1, g2⟩ := away_loop (sc := sc) (d := d) (c := c) hr hq hrq hl l.length 0 (d_up M2 q 1 0) rfl (by omega) (hw.sk (Wok_kn hq) hs) (hk.fr hr hq hrq hw) ⟨by rw [d_up_at]; rfl, rfl⟩
    exact ⟨M', g1, hw.tr g2⟩
def kp2 (c x : Int) : Bool := !(w32 ((i_xor x c).tmod 2) == 0)
def awr (c : Int) (l : List Int) : Int := if redl l = [] then 0 else if redl ((redl l).filter (kp2 c)) = [] then 1 else 0
theorem comes_loop {sc : dS} {d : Nat} {c : Int} {n0 : Nat} (hn : n0 ≤ 12) (f0 : Int → Int) : ∀ (m k n : Nat) (M : dM), n0 - k = m → k ≤ n0 → n ≤ k → Sk M → M 107 29 = n0 → (∀ j : Int, k ≤ j → j < 12 → M 114 j = f0 j) → lst (M 114) n = (lst f0 k).filter (kp2 c) →
    ∃ M' : dM, vr sc (d + 2) c_X7_comesAway (17, [(2, 107), (0, c), (0, (n : Int)), (0, (k : Int))], [], (K0, M)) = some ([(0, if redl ((lst f0 n0).filter (kp2 c)) = [] then 1 else 0)], (K0, M')) ∧ WF 107 29 114 M M' := by
  intro m
  induction m with
  | zero =>
    intro k n M hm hk hnk hs hM h2 hacc
    have e : k = n0 := by omega
    subst e
    have hkv : KV 107 29 114 (d_up M 107 29 (n : Int)) ((lst f0 k).filter (kp2 c)) := by
      rw [← hacc]
      have e : lst (M 114) n = lst (d_up M 107 29 (n : Int) 114) n := lst_cg fun j _ _ => (d_up_n1 _ (by decide)).symm
      rw [e]
      exact KV.of (d_up_at _ _ _ _)
    have hs1 := (WF.sz 107 29 114 (n : Int) M).sk Wok_wd hs
    obtain ⟨M1, a1, a2, a3⟩ := reduces_ok (sc := sc) (d := d) hs1 (Nat.le_trans (List.length_filter_le _ _) (by rw [lst_len]; exact hn)) hkv
    rw [e_X7_comesAway_17, if_pos (show og K0 7 107 29 = true from rfl), hM, if_pos (Int.le_refl _), if_pos (show og K0 7 107 29 = true from rfl), if_pos ⟨by omega, by omega⟩, if_pos (show rg K0 7 107 = true from rfl), a1, Option.bind_some]
    show ∃ M', vr sc (d + 2) c_X7_comesAway (68, [(2, 107), (0, c), (0, (n : Int)), (0, (k : Int))], [], (K0, M1)) = _ ∧ _
    rw [e_X7_comesAway_68, if_pos (show og K0 7 107 29 = true from rfl), a3.1]
    refine ⟨M1, ?_, (WF.sz _ _ _ _ _).tr a2⟩
    by_cases e : redl ((lst f0 k).filter (kp2 c)) = []
    · rw [if_pos e, e, if_neg (fun z => z rfl)]
    · rw [if_neg e, if_pos (nz_of e)]
  | succ m ih =>
    intro k n M hm hk hnk hs hM h2 hacc
    have c1 : ¬ (n0 : Int) ≤ k := by omega
    have hrow := Sk_m28 hs
    have hget := h2 k (by omega) (by omega)
    rw [e_X7_comesAway_17, if_pos (show og K0 7 107 29 = true from rfl), hM, if_neg c1, if_pos (show og K0 7 107 28 = true from rfl), hrow, if_pos (ag_wd (by omega) (by omega)), hget]
    by_cases x1 : w32 ((i_xor (f0 k) c).tmod 2) = 0
    · rw [if_pos x1]
      clear hget
      have e : kp2 c (f0 k) = false := by unfold kp2; simp [x1]
      clear x1
      rw [w_s k (by omega)]
      refine ih (k + 1) n M (by omega) (by omega) (by omega) hs hM (fun j q1 q2 => h2 j (by omega) q2) ?_
      rw [lst_s, List.filter_append, hacc, List.filter_cons, e, if_neg (by decide), List.filter_nil, List.append_nil]
    · rw [if_neg x1]
      have e : kp2 c (f0 k) = true := by unfold kp2; simp [x1]
      clear x1
      rw [if_pos (show og K0 7 107 28 = true from rfl), if_pos (show og K0 7 107 28 = true from rfl), if_pos (ag_wd (by omega) (by omega)), if_pos (ag_wd (by omega) (by omega)), w_s k (by omega), w_s n (by omega)]
      obtain ⟨M', g1, g2⟩ := ih (k + 1) (n + 1) (d_up M 114 n (f0 k)) (by omega) (by omega) (by omega) ((WF.row 107 29 114 _ _ _).sk Wok_wd hs) (by rw [d_up_n1 _ (by decide)]; exact hM) (fun j q1 q2 => by rw [d_up_n2 _ (by omega)]; exact h2 j (by omega) q2) (by
        have e2 : lst (d_up M 114 n (f0 k) 114) n = lst (M 114) n := lst_cg fun j _ h => d_up_n2 _ (by omega)
        rw [lst_s, lst_s, d_up_at, e2, List.filter_append, hacc, List.filter_cons, e, if_pos rfl, List.filter_nil])
      exact ⟨M', g1, (WF.row _ _ _ _ _ _).tr g2⟩
theorem comesAway_ok {sc : dS} {d : Nat} {c : Int} {M : dM} (hs : Sk M) {l : List Int} (hl : l.length ≤ 12) (hk : KV 107 29 114 M l) : ∃ M' : dM, vc sc (d + 3) 159 [(2, 107), (0, c)] (K0, M) = some ([(0, awr c l)], (K0, M')) ∧ WF 107 29 114 M M' := by
  rw [vc_s (md := m_X7_comesAway) (L := [(2, 107), (0, c), (3, 0), (3, 0)]) rfl (Nat.le_of_ble_eq_true rfl) rfl]
  show ∃ M', vr sc (d + 2) c_X7_comesAway _ = _ ∧ _
  obtain ⟨M1, a1, a2, a3⟩ := reduces_ok (sc := sc) (d := d) hs hl hk
  have hs1 := a2.sk Wok_wd hs
  have hlen := redl_len l
  rw [e_X7_comesAway_0, if_pos (show rg K0 7 107 = true from rfl), a1, Option.bind_some]
  show ∃ M', vr sc (d + 2) c_X7_comesAway (4, [(2, 107), (0, c), (3, 0), (3, 0)], [], (K0, M1)) = _ ∧ _
  rw [e_X7_comesAway_4, if_pos (show og K0 7 107 29 = true from rfl), a3.1]
  unfold awr
  by_cases e : redl l = []
  · rw [if_pos e, e, if_neg (fun z => z rfl)]
    exact ⟨M1, rfl, a2⟩
  · rw [if_neg e, if_pos (nz_of e)]
    obtain ⟨M', g1, g2⟩ := comes_loop (sc := sc) (d := d) (c := c) (n0 := (redl l).length) (by omega) (M1 114) (redl l).length 0 0 M1 rfl (by omega) (by omega) hs1 a3.1 (fun _ _ _ => rfl) rfl
    rw [a3.2] at g1
    exact ⟨M', g1, a2.tr g2⟩
theorem Sk_58 {M : dM} (h : Sk M) : M 58 4 = 62 := h (58, 4, 62) (by decide +kernel)
theorem isK_62 : isK 62 := (by decide +kernel : (62 : Int) ∈ KNL)
theorem turns_ok {sc : dS} {d : Nat} {q : Int} (hq : isK q) {M : dM} (hs : Sk M) {l : List Int} (hl : l.length ≤ 12) (hk : KV q 1 (q + 1) M l) : ∃ M' : dM, vc sc (d + 4) 33 [(2, 58), (2, q)] (K0, M) = some ([(0, ((pul (redl l)).length : Int))], (K0, M')) ∧ WF 62 1 63 M M' := by
  rw [vc_s (md := m_X2_turns) (L := [(2, 58), (2, q)]) rfl (Nat.le_of_ble_eq_true rfl) rfl]
  show ∃ M', vr sc (d + 3) c_X2_turns _ = _ ∧ _
  obtain ⟨M1, a1, a2, a3⟩ := become_ok (sc := sc) (d := d + 2) isK_62 hq hs hl hk
  have hs1 := a2.sk (Wok_kn isK_62) hs
  obtain ⟨M2, b1, b2, b3⟩ := pull_ok (sc := sc) (d := d) isK_62 hs1 hl a3
  rw [e_X2_turns_0, if_pos (show og K0 2 58 4 = true from rfl), Sk_58 hs, if_pos (rg_kn isK_62), a1, Option.bind_some]
  show ∃ M', vr sc (d + 3) c_X2_turns (8, [(2, 58), (2, q)], [], (K0, M1)) = _ ∧ _
  rw [e_X2_turns_8, if_pos (show og K0 2 58 4 = true from rfl), Sk_58 hs1, if_pos (rg_kn isK_62), b1, Option.bind_some]
  show ∃ M', vr sc (d + 3) c_X2_turns (15, [(2, 58), (2, q)], [], (K0, M2)) = _ ∧ _
  rw [e_X2_turns_15, if_pos (show og K0 2 58 4 = true from rfl), Sk_58 (b2.sk (Wok_kn isK_62) hs1), if_pos (og_kn isK_62 (by decide)), b3.1]
  exact ⟨M2, rfl, a2.tr b2⟩
def CL4 : List Int := [0, 1, 2, 3]
theorem CL4_of {x : Int} (h : 0 ≤ x ∧ x < 4) : x ∈ CL4 := by
  have : x = 0 ∨ x = 1 ∨ x = 2 ∨ x = 3 := by omega
  rcases this with rfl | rfl | rfl | rfl <;> decide
theorem kp_same : ∀ c ∈ CL4, ∀ x ∈ CL4, kpc c x = kp2 c x := by decide +kernel
theorem kp_undo : ∀ c ∈ CL4, ∀ x ∈ CL4, ∀ y ∈ CL4, i_xor y x = 2 → kp2 c y = kp2 c x := by decide +kernel
theorem xor_un : ∀ x ∈ CL4, ∀ y ∈ CL4, ∀ z ∈ CL4, i_xor z y = 2 → i_xor y x = 2 → z = x := by decide +kernel
def rp (a : List Int) (x : Int) : List Int := match a with
  | [] => [x]
  | z :: t => if i_xor z x = 2 then t else x :: z :: t
theorem rp_c (z : Int) (t : List Int) (x : Int) : rp (z :: t) x = if i_xor z x = 2 then t else x :: z :: t := rfl
theorem rp_push (a : List Int) (x : Int) : rpush a x = (rp a.reverse x).reverse := by
  rw [← List.reverse_reverse a]
  generalize a.reverse = b
  rw [List.reverse_reverse]
  cases b with
  | nil => rfl
  | cons z t =>
    unfold rpush rp
    rw [List.reverse_cons, List.getLast?_append]
    simp only [List.getLast?_singleton, Option.some_or]
    split
    · simp
    · simp
theorem rp_fold : ∀ (l a : List Int), l.foldl rpush a = (l.foldl rp a.reverse).reverse := by
  intro l
  induction l with
  | nil => intro a; simp
  | cons x t ih =>
    intro a
    rw [List.foldl_cons, List.foldl_cons, ih, rp_push, List.reverse_reverse]
theorem redl_rp (l : List Int) : redl l = (l.foldl rp []).reverse := by unfold redl; rw [rp_fold]; rfl
def rdc (a : List Int) : Prop := match a with
  | [] => True
  | [_] => True
  | x :: y :: t => i_xor y x ≠ 2 ∧ rdc (y :: t)
theorem rdc_tl {x : Int} {t : List Int} (h : rdc (x :: t)) : rdc t := by
  cases t with
  | nil => trivial
  | cons y t => exact h.2
theorem rdc_rp {a : List Int} (h : rdc a) (x : Int) : rdc (rp a x) := by
  cases a with
  | nil => trivial
  | cons z t =>
    rw [rp_c]
    split
    · exact rdc_tl h
    · next q => exact ⟨q, h⟩
theorem all_rp {a : List Int} (h : ∀ y ∈ a, y ∈ CL4) {x : Int} (hx : x ∈ CL4) : ∀ y ∈ rp a x, y ∈ CL4 := by
  cases a with
  | nil => intro y hy; rw [show rp [] x = [x] from rfl] at hy; rw [List.mem_singleton.mp hy]; exact hx
  | cons z t =>
    rw [rp_c]
    split
    · exact fun y hy => h y (List.mem_cons_of_mem _ hy)
    · intro y hy
      rcases List.mem_cons.mp hy with q | q
      · rw [q]; exact hx
      · exact h y q
theorem rp_rp {a : List Int} (h : rdc a) (hc : ∀ y ∈ a, y ∈ CL4) {x y : Int} (hx : x ∈ CL4) (hy : y ∈ CL4) (e : i_xor y x = 2) : rp (rp a y) x = a := by
  cases a with
  | nil => show rp [y] x = []; rw [rp_c, if_pos e]
  | cons z t =>
    by_cases q : i_xor z y = 2
    · have hz := xor_un x hx y hy z (hc z List.mem_cons_self) q e
      subst hz
      rw [show rp (z :: t) y = t by rw [rp_c, if_pos q]]
      cases t with
      | nil => rfl
      | cons w t' => rw [rp_c, if_neg h.1]
    · rw [show rp (z :: t) y = y :: z :: t by rw [rp_c, if_neg q]]
      rw [rp_c, if_pos e]
theorem fold_rdc {l : List Int} (hl : ∀ y ∈ l, y ∈ CL4) : ∀ {a : List Int}, rdc a → (∀ y ∈ a, y ∈ CL4) → rdc (l.foldl rp a) ∧ ∀ y ∈ l.foldl rp a, y ∈ CL4 := by
  induction l with
  | nil => intro a h1 h2; exact ⟨h1, h2⟩
  | cons x t ih =>
    intro a h1 h2
    exact ih (fun y hy => hl y (List.mem_cons_of_mem _ hy)) (rdc_rp h1 x) (all_rp h2 (hl x List.mem_cons_self))
def fF (p : Int → Bool) (a : List Int) : List Int := (a.reverse.filter p).foldl rp []
theorem fF_cons (p : Int → Bool) (x : Int) (a : List Int) : fF p (x :: a) = if p x = true then rp (fF p a) x else fF p a := by
  unfold fF
  rw [List.reverse_cons, List.filter_append, List.foldl_append, List.filter_cons]
  split <;> rfl
theorem fF_rp {c : Int} (hc : c ∈ CL4) {a : List Int} (ha : ∀ y ∈ a, y ∈ CL4) {x : Int} (hx : x ∈ CL4) : fF (kp2 c) (rp a x) = if kp2 c x = true then rp (fF (kp2 c) a) x else fF (kp2 c) a := by
  cases a with
  | nil => exact fF_cons (kp2 c) x []
  | cons z t =>
    by_cases q : i_xor z x = 2
    · have hz := ha z List.mem_cons_self
      have ht : ∀ y ∈ t, y ∈ CL4 := fun y hy => ha y (List.mem_cons_of_mem _ hy)
      have e := kp_undo c hc x hx z hz q
      rw [show rp (z :: t) x = t by rw [rp_c, if_pos q], fF_cons, e]
      by_cases k : kp2 c x = true
      · have h2 := fold_rdc (l := t.reverse.filter (kp2 c)) (fun y hy => ht y (List.mem_reverse.mp (List.mem_filter.mp hy).1)) (a := []) trivial (fun y hy => by cases hy)
        rw [if_pos k, if_pos k]
        exact (rp_rp h2.1 h2.2 hx hz q).symm
      · rw [if_neg k, if_neg k]
    · rw [show rp (z :: t) x = x :: z :: t by rw [rp_c, if_neg q], fF_cons]
theorem fF_fold {c : Int} (hc : c ∈ CL4) : ∀ {l a : List Int}, (∀ y ∈ l, y ∈ CL4) → (∀ y ∈ a, y ∈ CL4) → fF (kp2 c) (l.foldl rp a) = (l.filter (kp2 c)).foldl rp (fF (kp2 c) a) := by
  intro l
  induction l with
  | nil => intro a _ _; rfl
  | cons x t ih =>
    intro a h1 h2
    have hx := h1 x List.mem_cons_self
    rw [List.foldl_cons, ih (fun y hy => h1 y (List.mem_cons_of_mem _ hy)) (all_rp h2 hx), fF_rp hc h2 hx, List.filter_cons]
    split <;> rfl
theorem aw_same {c : Int} (hc : c ∈ CL4) {l : List Int} (hl : ∀ y ∈ l, y ∈ CL4) : awf c l = awr c l := by
  unfold awf awr
  have e1 : l.filter (kpc c) = l.filter (kp2 c) := List.filter_congr fun x hx => kp_same c hc x (hl x hx)
  have e2 : redl ((redl l).filter (kp2 c)) = redl (l.filter (kp2 c)) := by
    have := fF_fold hc (a := []) hl (fun y hy => by cases hy)
    rw [redl_rp (l.filter (kp2 c)), redl_rp ((redl l).filter (kp2 c)), redl_rp l]
    exact congrArg List.reverse this
  rw [e1, e2]
