/-! sheets: what is heard of them -/
def sO (s : Nat) : Int := 99 + 2 * (s : Int)
theorem sO_kc {s : Nat} (h : s < 4) : kc K0 (sO s) = some (3, 3) ∧ kc K0 (sO s + 1) = some (8, 40) := by
  have key : ∀ s ∈ List.range 4, kc K0 (sO s) = some (3, 3) ∧ kc K0 (sO s + 1) = some (8, 40) := by decide +kernel
  exact key s (List.mem_range.mpr h)
theorem og_of {K : List (Nat × Nat)} {tag n b : Nat} {r : Int} (h : kc K r = some (tag, n)) (ht : tag < 8) (hb : b < n) : og K tag r b = true := by
  unfold og
  rw [h]
  exact decide_eq_true ⟨rfl, ht, hb⟩
theorem rg_of {K : List (Nat × Nat)} {tag n : Nat} {r : Int} (h : kc K r = some (tag, n)) : rg K tag r = true := by
  unfold rg
  rw [h]
  exact decide_eq_true rfl
theorem ag_of {K : List (Nat × Nat)} {tag n : Nat} {r i : Int} (h : kc K r = some (tag, n)) (h0 : 0 ≤ i) (h1 : i < n) : ag K tag r i = true := by
  unfold ag
  rw [h]
  exact decide_eq_true ⟨rfl, h0, h1⟩
theorem og_s {s : Nat} (h : s < 4) {b : Nat} (hb : b < 3) : og K0 3 (sO s) b = true := og_of (sO_kc h).1 (by decide) hb
theorem rg_s {s : Nat} (h : s < 4) : rg K0 3 (sO s) = true := rg_of (sO_kc h).1
theorem ag_s {s : Nat} (h : s < 4) {i : Int} (h0 : 0 ≤ i) (h1 : i < 40) : ag K0 8 (sO s + 1) i = true := ag_of (sO_kc h).2 h0 h1
theorem ag_ss {i : Int} (h0 : 0 ≤ i) (h1 : i < 4) : ag K0 12 90 i = true := by
  unfold ag
  rw [show kc K0 90 = some (12, 4) from rfl]
  exact decide_eq_true ⟨rfl, h0, h1⟩
theorem Sk_s {M : dM} (hs : Sk M) {s : Nat} (h : s < 4) : M 90 s = sO s ∧ M (sO s) 0 = sO s + 1 := by
  have key : ∀ s ∈ List.range 4, (90, ((s : Nat) : Int), sO s) ∈ SKL ∧ (sO s, 0, sO s + 1) ∈ SKL := by decide +kernel
  have k := key s (List.mem_range.mpr h)
  exact ⟨hs _ k.1, hs _ k.2⟩
theorem Sk_06 {M : dM} (h : Sk M) : M 0 6 = 90 := h (0, 6, 90) (by decide +kernel)
theorem Sk_07 {M : dM} (h : Sk M) : M 0 7 = 91 := h (0, 7, 91) (by decide +kernel)
theorem isK_90s : ∀ r ∈ ([91, 93, 95] : List Int), r ∈ KNL := by decide +kernel
theorem isK_91 : isK 91 := isK_90s 91 (by simp)
theorem isK_93 : isK 93 := isK_90s 93 (by simp)
theorem isK_95 : isK 95 := isK_90s 95 (by simp)
/-- a sheet of a sort (-1: missing), its items: the class's and the reference's -/
def cS (M : dM) (s : Nat) (o : Int) (l : List Int) : Prop := M (sO s) 1 = o ∧ KV (sO s) 2 (sO s + 1) M l
def rS (M : dM) (s : Nat) (o : Int) (l : List Int) : Prop := M 121 s = bi (0 ≤ o) ∧ (0 ≤ o → M 122 s = o ∧ M 123 s = l.length ∧ ∀ (i : Nat) (h : i < l.length), M 124 ((40 * s + i : Nat) : Int) = l[i])
def okC (x : Int) : Bool := decide (0 ≤ x ∧ x < 4)
def hearc (o : Int) (l : List Int) : Int := if o = -1 then -11 else if 12 < l.length then -2 else if l.all okC = true then 0 else -2
theorem isMissing_ok {sc : dS} {d : Nat} {M : dM} {s : Nat} (h : s < 4) : vc sc (d + 1) 45 [(2, sO s)] (K0, M) = some ([(0, bi (M (sO s) 1 = -1))], (K0, M)) := by
  rw [vc_s (md := m_X3_isMissing) (L := [(2, sO s)]) rfl (Nat.le_of_ble_eq_true rfl) rfl]
  show vr sc d c_X3_isMissing (0, [(2, sO s)], [], (K0, M)) = _
  rw [e_X3_isMissing_0, if_pos (og_s h (by decide))]
  by_cases p : M (sO s) 1 = -1
  · rw [if_neg (fun z => z p), bi_t p]
  · rw [if_pos p, bi_f p]
theorem sO_n {s : Nat} (h : s < 4) : sO s ≠ 92 ∧ sO s + 1 ≠ 92 ∧ sO s ≠ 91 ∧ sO s + 1 ≠ 91 := by
  unfold sO
  omega
theorem hear_loop {sc : dS} {d : Nat} {s : Nat} (h : s < 4) {l : List Int} (hl : l.length ≤ 12) : ∀ (m i : Nat) (M : dM), l.length - i = m → i ≤ l.length → Sk M → KV (sO s) 2 (sO s + 1) M l → KV 91 1 92 M (l.take i) →
    ∃ M' : dM, vr sc (d + 1) c_X6_hear (39, [(2, 0), (0, (s : Int)), (2, sO s), (0, (i : Int))], [], (K0, M)) = some ([(0, if (l.drop i).all okC = true then 0 else -2)], (K0, M')) ∧ WF 91 1 92 M M' ∧ ((l.drop i).all okC = true → KV 91 1 92 M' l) := by
  intro m
  induction m with
  | zero =>
    intro i M hm hi hs hk hk2
    have c1 : (l.length : Int) ≤ i := by omega
    rw [e_X6_hear_39, if_pos (og_s h (by decide)), hk.1, if_pos c1, List.drop_eq_nil_of_le (by omega)]
    rw [List.take_of_length_le (by omega)] at hk2
    exact ⟨M, rfl, WF.rf _ _ _ _, fun _ => hk2⟩
  | succ m ih =>
    intro i M hm hi hs hk hk2
    have c1 : ¬ (l.length : Int) ≤ i := by omega
    have hi' : i < l.length := by omega
    have hget := hk.get hi'
    have hrow := (Sk_s hs h).2
    have nn := sO_n h
    rw [e_X6_hear_39, if_pos (og_s h (by decide)), hk.1, if_neg c1, if_pos (og_s h (by decide)), hrow, if_pos (ag_s h (by omega) (by omega)), hget, isCrossing_ok, Option.bind_some]
    show ∃ M', vr sc (d + 1) c_X6_hear (56, [(2, 0), (0, (s : Int)), (2, sO s), (0, (i : Int))], [(0, _)], (K0, M)) = _ ∧ _
    rw [e_X6_hear_56, List.drop_eq_getElem_cons hi', List.all_cons]
    by_cases p : 0 ≤ l[i] ∧ l[i] < 4
    · have e : okC l[i] = true := decide_eq_true p
      have hlen : (l.take i).length < 12 := by rw [List.length_take]; omega
      obtain ⟨M1, a1, a2, a3⟩ := put_ok (sc := sc) (d := d) isK_91 hs hlen hk2 l[i]
      rw [List.take_append_getElem hi'] at a3
      have hk' : KV (sO s) 2 (sO s + 1) M1 l := hk.up (a2 _ _ (fun z => nn.2.2.1 z.1) nn.1) (fun j _ _ => a2 _ _ (fun z => nn.2.2.2 z.1) nn.2.1)
      obtain ⟨M', g1, g2, g3⟩ := ih (i + 1) M1 (by omega) (by omega) (a2.sk (Wok_kn isK_91) hs) hk' a3
      rw [bi_t p, if_pos (by decide), if_pos (show og K0 6 0 7 = true from rfl), if_pos (og_s h (by decide)), hrow, if_pos (ag_s h (by omega) (by omega)), Sk_07 hs, if_pos (rg_kn isK_91), hget, a1, Option.bind_some, e, Bool.true_and]
      show ∃ M', vr sc (d + 1) c_X6_hear (75, [(2, 0), (0, (s : Int)), (2, sO s), (0, (i : Int))], [], (K0, M1)) = _ ∧ _
      rw [e_X6_hear_75, w_s i (by omega)]
      exact ⟨M', g1, a2.tr g2, g3⟩
    · have e : okC l[i] = false := decide_eq_false p
      rw [bi_f p, if_neg (fun z => z rfl), e, Bool.false_and]
      exact ⟨M, rfl, WF.rf _ _ _ _, fun z => by cases z⟩
theorem hear_ok {sc : dS} {d : Nat} {M : dM} (hs : Sk M) {s : Nat} (h : s < 4) {o : Int} {l : List Int} (hc : cS M s o l) : ∃ M' : dM, vc sc (d + 2) 74 [(2, 0), (0, (s : Int))] (K0, M) = some ([(0, hearc o l)], (K0, M')) ∧ WF 91 1 92 M M' ∧ (hearc o l = 0 → KV 91 1 92 M' l) := by
  rw [vc_s (md := m_X6_hear) (L := [(2, 0), (0, (s : Int)), (3, 0), (3, 0)]) rfl (Nat.le_of_ble_eq_true rfl) rfl]
  show ∃ M', vr sc (d + 1) c_X6_hear (0, [(2, 0), (0, (s : Int)), (3, 0), (3, 0)], [], (K0, M)) = _ ∧ _
  have nn := sO_n h
  rw [e_X6_hear_0, if_pos (show og K0 6 0 6 = true from rfl), Sk_06 hs, if_pos (ag_ss (by omega) (by omega)), (Sk_s hs h).1, if_pos (rg_s h), isMissing_ok h, hc.1, Option.bind_some]
  show ∃ M', vr sc (d + 1) c_X6_hear (11, [(2, 0), (0, (s : Int)), (2, sO s), (3, 0)], [(0, _)], (K0, M)) = _ ∧ _
  rw [e_X6_hear_11]
  unfold hearc
  by_cases p : o = -1
  · rw [bi_t p, if_neg (by decide), if_pos p]
    exact ⟨M, rfl, WF.rf _ _ _ _, fun z => by cases z⟩
  rw [bi_f p, if_pos rfl, if_neg p, if_pos (og_s h (by decide)), hc.2.1]
  by_cases q : 12 < l.length
  · rw [if_pos q, if_neg (by omega)]
    exact ⟨M, rfl, WF.rf _ _ _ _, fun z => by cases z⟩
  rw [if_neg q, if_pos (by omega), if_pos (show og K0 6 0 7 = true from rfl), Sk_07 hs, if_pos (og_kn isK_91 (by decide)), if_pos ⟨by omega, by omega⟩]
  have hw : WF 91 1 92 M (d_up M 91 1 0) := WF.sz _ _ _ _ _
  have hk' : KV (sO s) 2 (sO s + 1) (d_up M 91 1 0) l := hc.2.up (hw _ _ (fun z => nn.2.2.1 z.1) nn.1) (fun j _ _ => hw _ _ (fun z => nn.2.2.2 z.1) nn.2.1)
  obtain ⟨M', g1, g2, g3⟩ := hear_loop (sc := sc) (d := d) h (by omega) l.length 0 (d_up M 91 1 0) rfl (by omega) (hw.sk (Wok_kn isK_91) hs) hk' ⟨by rw [d_up_at]; rfl, rfl⟩
  refine ⟨M', g1, hw.tr g2, fun z => g3 ?_⟩
  show l.all okC = true
  by_cases k : l.all okC = true
  · exact k
  · rw [if_neg k] at z; cases z
theorem Sk_m42 {M : dM} (h : Sk M) : M 107 42 = 121 ∧ M 107 43 = 122 ∧ M 107 44 = 123 ∧ M 107 45 = 124 := by
  have key : ((107, 42, 121) : Int × Int × Int) ∈ SKL ∧ (107, 43, 122) ∈ SKL ∧ (107, 44, 123) ∈ SKL ∧ (107, 45, 124) ∈ SKL := by decide +kernel
  exact ⟨h _ key.1, h _ key.2.1, h _ key.2.2.1, h _ key.2.2.2⟩
theorem ag_121 {i : Int} (h0 : 0 ≤ i) (h1 : i < 4) : ag K0 9 121 i = true := ag_of (n := 4) rfl h0 h1
theorem ag_122 {i : Int} (h0 : 0 ≤ i) (h1 : i < 4) : ag K0 8 122 i = true := ag_of (n := 4) rfl h0 h1
theorem ag_123 {i : Int} (h0 : 0 ≤ i) (h1 : i < 4) : ag K0 8 123 i = true := ag_of (n := 4) rfl h0 h1
theorem ag_124 {i : Int} (h0 : 0 ≤ i) (h1 : i < 160) : ag K0 8 124 i = true := ag_of (n := 160) rfl h0 h1
theorem w_t40 (s k : Nat) (h : s < 1000) (hc : k < 1000) : w32 (w32 (40 * (s : Int)) + (k : Int)) = ((40 * s + k : Nat) : Int) := by
  have e : w32 (40 * (s : Int)) = ((40 * s : Nat) : Int) := w32_e (by omega) (by omega) (by omega)
  rw [e]
  clear e
  exact w32_e (by omega) (by omega) (by omega)
theorem bad_loop {sc : dS} {d : Nat} {s : Nat} (h : s < 4) {M : dM} (hs : Sk M) {l : List Int} (hl : l.length ≤ 12) (h3 : M 123 s = l.length) (h4 : ∀ (i : Nat) (h : i < l.length), M 124 ((40 * s + i : Nat) : Int) = l[i]) : ∀ (m i : Nat), l.length - i = m → i ≤ l.length →
    vr sc (d + 1) c_X7_wordBad (28, [(2, 107), (0, (s : Int)), (0, (i : Int))], [], (K0, M)) = some ([(0, if (l.drop i).all okC = true then 0 else -2)], (K0, M)) := by
  have k := Sk_m42 hs
  intro m
  induction m with
  | zero =>
    intro i hm hi
    have c1 : (l.length : Int) ≤ i := by omega
    rw [e_X7_wordBad_28, if_pos (show og K0 7 107 44 = true from rfl), k.2.2.1, if_pos (ag_123 (by omega) (by omega)), h3, if_pos c1, List.drop_eq_nil_of_le (by omega)]
    rfl
  | succ m ih =>
    intro i hm hi
    have c1 : ¬ (l.length : Int) ≤ i := by omega
    have hi' : i < l.length := by omega
    rw [e_X7_wordBad_28, if_pos (show og K0 7 107 44 = true from rfl), k.2.2.1, if_pos (ag_123 (by omega) (by omega)), h3, if_neg c1, if_pos (show og K0 7 107 45 = true from rfl), k.2.2.2, w_t40 s i (by omega) (by omega), if_pos (ag_124 (by omega) (by omega)), h4 i hi', in_ok, Option.bind_some]
    show vr sc (d + 1) c_X7_wordBad (57, [(2, 107), (0, (s : Int)), (0, (i : Int))], [(0, _)], (K0, M)) = _
    rw [e_X7_wordBad_57, List.drop_eq_getElem_cons hi', List.all_cons]
    by_cases p : 0 ≤ l[i] ∧ l[i] ≤ 3
    · have e : okC l[i] = true := decide_eq_true (by omega)
      rw [bi_t p, if_pos (by decide), e, Bool.true_and, w_s i (by omega)]
      exact ih (i + 1) (by omega) (by omega)
    · have e : okC l[i] = false := decide_eq_false (by omega)
      rw [bi_f p, if_neg (fun z => z rfl), e, Bool.false_and]
      rfl
theorem wordBad_ok {sc : dS} {d : Nat} {M : dM} (hs : Sk M) {s : Nat} (h : s < 4) {o : Int} {l : List Int} (ho : -1 ≤ o) (hr : rS M s o l) : vc sc (d + 2) 156 [(2, 107), (0, (s : Int))] (K0, M) = some ([(0, hearc o l)], (K0, M)) := by
  rw [vc_s (md := m_X7_wordBad) (L := [(2, 107), (0, (s : Int)), (3, 0)]) rfl (Nat.le_of_ble_eq_true rfl) rfl]
  show vr sc (d + 1) c_X7_wordBad (0, [(2, 107), (0, (s : Int)), (3, 0)], [], (K0, M)) = _
  have k := Sk_m42 hs
  rw [e_X7_wordBad_0, if_pos (show og K0 7 107 42 = true from rfl), k.1, if_pos (ag_121 (by omega) (by omega)), hr.1]
  unfold hearc
  by_cases p : o = -1
  · rw [bi_f (by omega), if_neg (fun z => z rfl), if_pos p]
  · have h2 := hr.2 (by omega)
    rw [bi_t (by omega), if_pos (by decide), if_neg p, if_pos (show og K0 7 107 44 = true from rfl), k.2.2.1, if_pos (ag_123 (by omega) (by omega)), h2.2.1]
    by_cases q : 12 < l.length
    · rw [if_pos q, if_neg (by omega)]
    · rw [if_neg q, if_pos (by omega)]
      exact bad_loop h hs (by omega) h2.2.1 h2.2.2 l.length 0 rfl (by omega)
theorem takes_loop {sc : dS} {d : Nat} {s : Nat} (h : s < 4) {l : List Int} (hl : l.length ≤ 12) : ∀ (m i : Nat) (M : dM), l.length - i = m → i ≤ l.length → Sk M → M 107 29 = l.length → (∀ (i : Nat) (h : i < l.length), M 124 ((40 * s + i : Nat) : Int) = l[i]) → (∀ (j : Nat) (h : j < l.length), j < i → M 114 j = l[j]) →
    ∃ M' : dM, vr sc d c_X7_takesSheet (12, [(2, 107), (0, (s : Int)), (0, (i : Int))], [], (K0, M)) = some ([], (K0, M')) ∧ WF 107 29 114 M M' ∧ KV 107 29 114 M' l := by
  intro m
  induction m with
  | zero =>
    intro i M hm hi hs hM h4 h1
    have c1 : (l.length : Int) ≤ i := by omega
    rw [e_X7_takesSheet_12, if_pos (show og K0 7 107 29 = true from rfl), hM, if_pos c1]
    exact ⟨M, rfl, WF.rf _ _ _ _, hM, lst_of fun j hj => h1 j hj (by omega)⟩
  | succ m ih =>
    intro i M hm hi hs hM h4 h1
    have c1 : ¬ (l.length : Int) ≤ i := by omega
    have hi' : i < l.length := by omega
    have k := Sk_m42 hs
    rw [e_X7_takesSheet_12, if_pos (show og K0 7 107 29 = true from rfl), hM, if_neg c1, if_pos (show og K0 7 107 28 = true from rfl), if_pos (show og K0 7 107 45 = true from rfl), k.2.2.2, Sk_m28 hs, w_t40 s i (by omega) (by omega), if_pos (ag_124 (by omega) (by omega)), if_pos (ag_wd (by omega) (by omega)), h4 i hi', w_s i (by omega)]
    obtain ⟨M', g1, g2, g3⟩ := ih (i + 1) (d_up M 114 i l[i]) (by omega) (by omega) ((WF.row 107 29 114 _ _ _).sk Wok_wd hs) (by rw [d_up_n1 _ (by decide)]; exact hM) (fun j hj => by rw [d_up_n1 _ (by decide)]; exact h4 j hj) (fun j hj hji => by
      by_cases q : j = i
      · subst q; rw [d_up_at]
      · rw [d_up_n2 _ (by omega)]; exact h1 j hj (by omega))
    exact ⟨M', g1, (WF.row _ _ _ _ _ _).tr g2, g3⟩
theorem takesSheet_ok {sc : dS} {d : Nat} {M : dM} (hs : Sk M) {s : Nat} (h : s < 4) {o : Int} {l : List Int} (ho : 0 ≤ o) (hl : l.length ≤ 12) (hr : rS M s o l) : ∃ M' : dM, vc sc (d + 1) 148 [(2, 107), (0, (s : Int))] (K0, M) = some ([], (K0, M')) ∧ WF 107 29 114 M M' ∧ KV 107 29 114 M' l := by
  rw [vc_s (md := m_X7_takesSheet) (L := [(2, 107), (0, (s : Int)), (3, 0)]) rfl (Nat.le_of_ble_eq_true rfl) rfl]
  show ∃ M', vr sc d c_X7_takesSheet (0, [(2, 107), (0, (s : Int)), (3, 0)], [], (K0, M)) = _ ∧ _
  have k := Sk_m42 hs
  have h2 := hr.2 ho
  rw [e_X7_takesSheet_0, if_pos (show og K0 7 107 44 = true from rfl), k.2.2.1, if_pos (ag_123 (by omega) (by omega)), if_pos (show og K0 7 107 29 = true from rfl), h2.2.1, if_pos ⟨by omega, by omega⟩]
  have hw : WF 107 29 114 M (d_up M 107 29 (l.length : Int)) := WF.sz _ _ _ _ _
  obtain ⟨M', g1, g2, g3⟩ := takes_loop (sc := sc) (d := d) h hl l.length 0 (d_up M 107 29 (l.length : Int)) rfl (by omega) (hw.sk Wok_wd hs) (d_up_at _ _ _ _) (fun i hi => by rw [d_up_n1 _ (by decide)]; exact h2.2.2 i hi) (fun j hj hji => absurd hji (by omega))
  exact ⟨M', g1, hw.tr g2, g3⟩
