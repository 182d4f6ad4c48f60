/-! sheet, reference side; cell, both sides -/
def FRs (s : Nat) (M M' : dM) : Prop := ∀ x k : Int, (x = 121 ∨ x = 122 ∨ x = 123 → k ≠ s) → (x = 124 → k < 40 * (s : Int) ∨ 40 * (s : Int) + 40 ≤ k) → M' x k = M x k
def FSR (M M' : dM) : Prop := ∀ x k : Int, (x < 121 ∨ 124 < x) → M' x k = M x k
theorem FRs.rf (s : Nat) (M : dM) : FRs s M M := fun _ _ _ _ => rfl
theorem FRs.tr {s : Nat} {M M1 M2 : dM} (h1 : FRs s M M1) (h2 : FRs s M1 M2) : FRs s M M2 := fun x k g0 g1 => (h2 x k g0 g1).trans (h1 x k g0 g1)
theorem FRs.fr {s : Nat} {M M' : dM} (h : FRs s M M') : FSR M M' := fun x k g => h x k (by omega) (by omega)
theorem FRs.sk {s : Nat} {M M' : dM} (h : FRs s M M') (hs : Sk M) : Sk M' := Sk_of hs fun x k hq => by
  have e : ∀ a : Int, SKL.all (fun q => !(q.1 == a)) = true → x ≠ a := fun a ha z => by rw [z, isRf_cell ha] at hq; cases hq
  have e1 := e 121 (by decide +kernel)
  have e2 := e 122 (by decide +kernel)
  have e3 := e 123 (by decide +kernel)
  have e4 := e 124 (by decide +kernel)
  exact h x k (by omega) (by omega)
theorem FRs.c {s : Nat} {M : dM} {x : Int} (h : x = 121 ∨ x = 122 ∨ x = 123) (v : Int) : FRs s M (d_up M x s v) := fun y k g0 _ => by
  refine if_neg ?_
  rintro ⟨rfl, rfl⟩
  exact g0 h rfl
theorem FRs.i {s : Nat} {M : dM} {k : Int} (h : 40 * (s : Int) ≤ k ∧ k < 40 * (s : Int) + 40) (v : Int) : FRs s M (d_up M 124 k v) := fun y j _ g1 => by
  refine if_neg ?_
  rintro ⟨rfl, rfl⟩
  have := g1 rfl
  omega
theorem rS_far {s n : Nat} (hn : n ≠ s) {M M' : dM} (hf : FRs s M M') {o : Int} {l : List Int} (hl : l.length ≤ 40) (hc : rS M n o l) : rS M' n o l :=
  ⟨(hf _ _ (fun _ => by omega) (by omega)).trans hc.1, fun ho => ⟨(hf _ _ (fun _ => by omega) (by omega)).trans (hc.2 ho).1, (hf _ _ (fun _ => by omega) (by omega)).trans (hc.2 ho).2.1, fun i hi => (hf _ _ (by omega) (fun _ => by omega)).trans ((hc.2 ho).2.2 i hi)⟩⟩
theorem rS_upd {so : Nat → Int} {sl : Nat → List Int} {M M' : dM} (hok : okS so sl) (hc : ∀ n : Nat, n < 4 → rS M n (so n) (sl n)) {s : Nat} (h : s < 4) (hf : FRs s M M') {o : Int} {l : List Int} (hn : rS M' s o l) : ∀ n : Nat, n < 4 → rS M' n (upf so s o n) (upf sl s l n) := fun n hn4 => by
  by_cases q : n = s
  · subst q
    rw [upd_at, upd_at]
    exact hn
  · rw [upd_n q, upd_n q]
    exact rS_far q hf (hok n hn4).2.2 (hc n hn4)
theorem okS_sheet {so : Nat → Int} {sl : Nat → List Int} (h : okS so sl) (s o n : Int) : okS (sheetO so s o n) (sheetL sl s o n) := by
  unfold sheetO sheetL
  by_cases p : sheetB s o n = true
  · have q := of_decide_eq_true p
    rw [if_pos p, if_pos p]
    intro j hj
    by_cases z : j = s.toNat
    · subst z
      rw [upd_at, upd_at]
      refine ⟨by omega, by omega, ?_⟩
      by_cases o1 : o = -1
      · rw [if_pos o1]; exact Nat.zero_le _
      · rw [if_neg o1, List.length_replicate]; omega
    · rw [upd_n z, upd_n z]
      exact h j hj
  · rw [if_neg p, if_neg p]
    exact h
theorem sheet_r {sc : dS} {d : Nat} {M : dM} (hs : Sk M) {so : Nat → Int} {sl : Nat → List Int} (hok : okS so sl) (hc : ∀ n : Nat, n < 4 → rS M n (so n) (sl n)) (s o n : Int) (hn : -2147483648 ≤ n ∧ n < 2147483648) : ∃ M' : dM, vc sc (d + 3) 197 [(2, 107), (0, s), (0, o), (0, n)] (K0, M) = some ([(0, sheetF s o n)], (K0, M')) ∧ Sk M' ∧ FSR M M' ∧ ∀ j : Nat, j < 4 → rS M' j (sheetO so s o n j) (sheetL sl s o n j) := by
  rw [vc_s (md := m_X7_sheet) (L := [(2, 107), (0, s), (0, o), (0, n), (3, 0)]) rfl (Nat.le_of_ble_eq_true rfl) rfl]
  show ∃ M', vr sc (d + 2) c_X7_sheet (0, [(2, 107), (0, s), (0, o), (0, n), (3, 0)], [], (K0, M)) = _ ∧ _
  rw [e_X7_sheet_0, isSheet7_ok, Option.bind_some]
  show ∃ M', vr sc (d + 2) c_X7_sheet (4, [(2, 107), (0, s), (0, o), (0, n), (3, 0)], [(0, _)], (K0, M)) = _ ∧ _
  rw [e_X7_sheet_4]
  unfold sheetF sheetO sheetL
  have no : ¬ ((0 ≤ s ∧ s < 4) ∧ (o = -1 ∨ (0 ≤ o ∧ o ≤ 2 ∧ 0 ≤ n ∧ n ≤ 40))) → ¬ sheetB s o n = true := fun z y => z (of_decide_eq_true y)
  have yes : ((0 ≤ s ∧ s < 4) ∧ (o = -1 ∨ (0 ≤ o ∧ o ≤ 2 ∧ 0 ≤ n ∧ n ≤ 40))) → sheetB s o n = true := fun z => decide_eq_true z
  have same : FSR M M := fun _ _ _ => rfl
  by_cases p : ¬ (0 ≤ s ∧ s < 4)
  · rw [bi_f p, if_pos rfl, if_neg p, if_neg (no (by omega)), if_neg (no (by omega))]
    exact ⟨M, rfl, hs, same, hc⟩
  have p := Classical.not_not.mp p
  obtain ⟨i, rfl⟩ : ∃ j : Nat, s = j := ⟨s.toNat, by omega⟩
  have hi : i < 4 := by omega
  rw [bi_t p, if_neg (by decide), if_pos p, Int.toNat_natCast, in_ok, Option.bind_some]
  show ∃ M', vr sc (d + 2) c_X7_sheet (18, [(2, 107), (0, (i : Int)), (0, o), (0, n), (3, 0)], [(0, _)], (K0, M)) = _ ∧ _
  rw [e_X7_sheet_18]
  by_cases q : ¬ (-1 ≤ o ∧ o ≤ 2)
  · rw [bi_f q, if_pos rfl, if_neg (show ¬ o = -1 by omega), if_neg (show ¬ (0 ≤ o ∧ o < 3) by omega), if_neg (no (by omega)), if_neg (no (by omega))]
    exact ⟨M, rfl, hs, same, hc⟩
  have q := Classical.not_not.mp q
  rw [bi_t q, if_neg (by decide)]
  have sm := Sk_m42 hs
  have g42 : og K0 7 107 42 = true := rfl
  have g43 : og K0 7 107 43 = true := rfl
  have g44 : og K0 7 107 44 = true := rfl
  have a1 := ag_121 (i := (i : Int)) (by omega) (by omega)
  have a2 := ag_122 (i := (i : Int)) (by omega) (by omega)
  have a3 := ag_123 (i := (i : Int)) (by omega) (by omega)
  have h45 : ∀ v : Int, v = bi (0 ≤ o) → (∃ N : dM, vr sc (d + 2) c_X7_sheet (45, [(2, 107), (0, (i : Int)), (0, o), (0, n), (3, 0)], [], (K0, M)) = vr sc (d + 2) c_X7_sheet (77, [(2, 107), (0, (i : Int)), (0, o), (0, n), (0, 0)], [], (K0, N)) ∧ FRs i M N ∧ N 121 i = v ∧ N 122 i = o ∧ N 123 i = n) := by
    intro v hv
    have f1 : FRs i M (d_up M 121 (i : Int) v) := FRs.c (Or.inl rfl) v
    have f2 : FRs i (d_up M 121 (i : Int) v) (d_up (d_up M 121 (i : Int) v) 122 (i : Int) o) := FRs.c (Or.inr (Or.inl rfl)) o
    have f3 : FRs i (d_up (d_up M 121 (i : Int) v) 122 (i : Int) o) (d_up (d_up (d_up M 121 (i : Int) v) 122 (i : Int) o) 123 (i : Int) n) := FRs.c (Or.inr (Or.inr rfl)) n
    refine ⟨d_up (d_up (d_up M 121 (i : Int) v) 122 (i : Int) o) 123 (i : Int) n, ?_, (f1.tr f2).tr f3, (d_up_n1 _ (by decide)).trans ((d_up_n1 _ (by decide)).trans (d_up_at _ _ _ _)), (d_up_n1 _ (by decide)).trans (d_up_at _ _ _ _), d_up_at _ _ _ _⟩
    rw [e_X7_sheet_45, if_pos g42, sm.1]
    by_cases o0 : o < 0
    · have v0 : v = 0 := hv.trans (bi_f (by omega))
      subst v0
      rw [if_pos o0, if_pos a1, if_pos (Or.inl rfl), if_pos g43, (Sk_m42 (f1.sk hs)).2.1, if_pos a2, if_pos g44, (Sk_m42 (f2.sk (f1.sk hs))).2.2.1, if_pos a3]
    · have v1 : v = 1 := hv.trans (bi_t (by omega))
      subst v1
      rw [if_neg o0, if_pos a1, if_pos (Or.inr rfl), if_pos g43, (Sk_m42 (f1.sk hs)).2.1, if_pos a2, if_pos g44, (Sk_m42 (f2.sk (f1.sk hs))).2.2.1, if_pos a3]
  obtain ⟨N, b1, b2, b3, b4, b5⟩ := h45 _ rfl
  by_cases o1 : o = -1
  · have yy := yes (by omega)
    rw [if_pos (show o < 0 by omega), if_pos (show o < 0 by omega), b1, if_pos o1, if_pos yy, if_pos yy, if_pos o1]
    refine ⟨N, ?_, b2.sk hs, b2.fr, rS_upd hok hc hi b2 ⟨b3, fun z => by omega⟩⟩
    rw [e_X7_sheet_77]
    by_cases z : n ≤ 0
    · rw [if_pos z]
    · rw [if_neg z, if_pos (show o < 0 by omega)]
  rw [if_neg (show ¬ o < 0 by omega), if_neg o1, if_pos (show 0 ≤ o ∧ o < 3 by omega)]
  by_cases r : ¬ n ≤ 40
  · rw [if_neg r, if_neg r, if_neg (no (by omega)), if_neg (no (by omega))]
    exact ⟨M, rfl, hs, same, hc⟩
  have r := Classical.not_not.mp r
  rw [if_pos r, if_neg (show ¬ o < 0 by omega), if_pos r]
  by_cases u : ¬ 0 ≤ n
  · rw [if_neg u, if_neg u, if_neg (no (by omega)), if_neg (no (by omega))]
    exact ⟨M, rfl, hs, same, hc⟩
  have u := Classical.not_not.mp u
  obtain ⟨k, rfl⟩ : ∃ j : Nat, n = j := ⟨n.toNat, by omega⟩
  have yy := yes (by omega)
  rw [if_pos u, if_pos u, b1, if_pos yy, if_pos yy, if_neg o1, Int.toNat_natCast]
  have key : ∀ (m j : Nat) (N : dM), k - j = m → j ≤ k → Sk N → ∃ N' : dM, vr sc (d + 2) c_X7_sheet (77, [(2, 107), (0, (i : Int)), (0, o), (0, (k : Int)), (0, (j : Int))], [], (K0, N)) = some ([(0, 1)], (K0, N')) ∧ FRs i N N' ∧ N' 121 i = N 121 i ∧ N' 122 i = N 122 i ∧ N' 123 i = N 123 i ∧ (∀ a : Nat, j ≤ a → a < k → N' 124 ((40 * i + a : Nat) : Int) = 0) ∧ ∀ a : Nat, a < j → N' 124 ((40 * i + a : Nat) : Int) = N 124 ((40 * i + a : Nat) : Int) := by
    intro m
    induction m with
    | zero =>
      intro j N hm hj hs
      rw [e_X7_sheet_77, if_pos (by omega)]
      exact ⟨N, rfl, FRs.rf _ _, rfl, rfl, rfl, fun a h0 h1 => by omega, fun _ _ => rfl⟩
    | succ m ih =>
      intro j N hm hj hs
      have f1 : FRs i N (d_up N 124 ((40 * i + j : Nat) : Int) 0) := FRs.i (by omega) 0
      obtain ⟨N', a1, a2, a3, a4, a5, a6, a7⟩ := ih (j + 1) (d_up N 124 ((40 * i + j : Nat) : Int) 0) (by omega) (by omega) (f1.sk hs)
      have w := w_t40 i j (by omega) (by omega)
      rw [e_X7_sheet_77, if_neg (by clear w; omega), if_neg (by clear w; omega), if_pos (show og K0 7 107 45 = true from rfl), (Sk_m42 hs).2.2.2, w]
      clear w
      rw [if_pos (ag_124 (by omega) (by omega)), w_s j (by omega)]
      refine ⟨N', a1, f1.tr a2, a3.trans (d_up_n1 _ (by decide)), a4.trans (d_up_n1 _ (by decide)), a5.trans (d_up_n1 _ (by decide)), fun a h0 h1 => ?_, fun a h0 => (a7 a (by omega)).trans (d_up_n2 _ (by omega))⟩
      by_cases z : a = j
      · subst z
        rw [a7 a (by omega), d_up_at]
      · exact a6 a (by omega) h1
  obtain ⟨N', c1, c2, c3, c4, c5, c6, c7⟩ := key k 0 N rfl (by omega) (b2.sk hs)
  have f := b2.tr c2
  refine ⟨N', c1, f.sk hs, f.fr, rS_upd hok hc hi f ⟨c3.trans b3, fun _ => ⟨c4.trans b4, ?_, fun a ha => ?_⟩⟩⟩
  · rw [c5, b5, List.length_replicate]
  · rw [List.length_replicate] at ha
    rw [c6 a (by omega) ha, List.getElem_replicate]
