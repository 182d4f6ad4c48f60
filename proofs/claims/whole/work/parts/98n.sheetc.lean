/-! sheet and cell, both sides -/
def upf {α : Type} (f : Nat → α) (s : Nat) (v : α) (n : Nat) : α := if n = s then v else f n
theorem upd_at {α : Type} (f : Nat → α) (s : Nat) (v : α) : upf f s v s = v := if_pos rfl
theorem upd_n {α : Type} {f : Nat → α} {s n : Nat} {v : α} (h : n ≠ s) : upf f s v n = f n := if_neg h
def okS (so : Nat → Int) (sl : Nat → List Int) : Prop := ∀ n : Nat, n < 4 → -1 ≤ so n ∧ so n ≤ 2 ∧ (sl n).length ≤ 40
def FSh (s : Nat) (M M' : dM) : Prop := ∀ x k : Int, x ≠ sO s + 1 → (x = sO s → k ≠ 1 ∧ k ≠ 2) → M' x k = M x k
theorem FSh.sk {s : Nat} (h : s < 4) {M M' : dM} (hf : FSh s M M') (hs : Sk M) : Sk M' := by
  have key : ∀ s ∈ List.range 4, SKL.all (fun q => !(q.1 == sO s + 1)) = true ∧ isRf (sO s) 1 = false ∧ isRf (sO s) 2 = false := by decide +kernel
  obtain ⟨k0, k1, k2⟩ := key s (List.mem_range.mpr h)
  exact Sk_of hs fun x k hq => hf x k (fun z => by rw [z, isRf_cell k0] at hq; cases hq) fun z => ⟨fun y => (by rw [z, y, k1] at hq; cases hq), fun y => (by rw [z, y, k2] at hq; cases hq)⟩
theorem FSh.tr {s : Nat} {M M1 M2 : dM} (h1 : FSh s M M1) (h2 : FSh s M1 M2) : FSh s M M2 := fun x k g0 g1 => (h2 x k g0 g1).trans (h1 x k g0 g1)
theorem cS_far {s n : Nat} (hn : n ≠ s) {M M' : dM} (hf : FSh s M M') {o : Int} {l : List Int} (hc : cS M n o l) : cS M' n o l := by
  have e : ∀ k : Int, M' (sO n) k = M (sO n) k := fun k => hf _ _ (by unfold sO; omega) (fun z => by unfold sO at z; omega)
  have e1 : ∀ k : Int, M' (sO n + 1) k = M (sO n + 1) k := fun k => hf _ _ (by unfold sO; omega) (fun z => by unfold sO at z; omega)
  exact ⟨(e 1).trans hc.1, hc.2.up (e 2) fun j _ _ => e1 j⟩
theorem lst_rep0 (n : Nat) : lst (fun _ => (0 : Int)) n = List.replicate n 0 := by
  induction n with
  | zero => rfl
  | succ n ih => rw [lst_s, ih, List.replicate_succ']
theorem sbecome_ok {sc : dS} {d : Nat} {M : dM} (hs : Sk M) {s : Nat} (h : s < 4) {o : Int} (ho : -1 ≤ o ∧ o ≤ 2) {n : Nat} (hn : n ≤ 40) : ∃ M' : dM, vc sc (d + 2) 46 [(2, sO s), (0, o), (0, (n : Int))] (K0, M) = some ([], (K0, M')) ∧ FSh s M M' ∧ cS M' s o (List.replicate n 0) := by
  rw [vc_s (md := m_X3_become) (L := [(2, sO s), (0, o), (0, (n : Int))]) rfl (Nat.le_of_ble_eq_true rfl) rfl]
  show ∃ M', vr sc (d + 1) c_X3_become (0, [(2, sO s), (0, o), (0, (n : Int))], [], (K0, M)) = _ ∧ _
  have hkey : ∀ s ∈ List.range 4, lg_ K0 (sO s + 1) = true ∧ kn K0 (sO s + 1) = 40 := by decide +kernel
  obtain ⟨k1, k2⟩ := hkey s (List.mem_range.mpr h)
  have f0 : FSh s M (d_up (d_up M (sO s) 1 o) (sO s) 2 (n : Int)) := fun x k _ g1 => by
    have e : ∀ (N : dM) (j v : Int), (j = 1 ∨ j = 2) → d_up N (sO s) j v x k = N x k := fun N j v hj => if_neg (by
      rintro ⟨rfl, rfl⟩
      have := g1 rfl
      omega)
    rw [e _ _ _ (Or.inr rfl), e _ _ _ (Or.inl rfl)]
  have hs0 := f0.sk h hs
  rw [e_X3_become_0, if_pos (og_s h (by decide)), if_pos ⟨by omega, by omega⟩, if_pos (og_s h (by decide)), if_pos ⟨by omega, by omega⟩, if_pos (og_s h (by decide)), (Sk_s hs0 h).2]
  have m1 : (d_up (d_up M (sO s) 1 o) (sO s) 2 (n : Int)) (sO s) 1 = o := (d_up_n2 _ (by decide)).trans (d_up_at _ _ _ _)
  have m2 : (d_up (d_up M (sO s) 1 o) (sO s) 2 (n : Int)) (sO s) 2 = (n : Int) := d_up_at _ _ _ _
  generalize d_up (d_up M (sO s) 1 o) (sO s) 2 (n : Int) = M0 at *
  rw [vc_s (md := m_J7_fill_53178) (L := [(2, sO s + 1), (0, 0), (3, 0), (3, 0)]) rfl (Nat.le_of_ble_eq_true rfl) rfl]
  show ∃ M', (vr sc d c_J7_fill_53178 (0, [(2, sO s + 1), (0, 0), (3, 0), (3, 0)], [], (K0, M0))).bind _ = _ ∧ _
  have key : ∀ (m i : Nat) (N : dM), 40 - i = m → i ≤ 40 → ∃ N' : dM, vr sc d c_J7_fill_53178 (5, [(2, sO s + 1), (0, 0), (0, (i : Int)), (0, 40)], [], (K0, N)) = some ([], (K0, N')) ∧ (∀ x k : Int, x ≠ sO s + 1 → N' x k = N x k) ∧ (∀ k : Int, k < i → N' (sO s + 1) k = N (sO s + 1) k) ∧ ∀ j : Nat, i ≤ j → j < 40 → N' (sO s + 1) j = 0 := by
    intro m
    induction m with
    | zero =>
      intro i N hm hi
      rw [e_J7_fill_53178_5, if_pos (by omega)]
      exact ⟨N, rfl, fun _ _ _ => rfl, fun _ _ => rfl, fun j h0 h1 => by omega⟩
    | succ m ih =>
      intro i N hm hi
      obtain ⟨N', a1, a2, a3, a4⟩ := ih (i + 1) (d_up N (sO s + 1) (i : Int) 0) (by omega) (by omega)
      rw [e_J7_fill_53178_5, if_neg (by omega), if_pos (ag_s h (by omega) (by omega)), w_s i (by omega)]
      refine ⟨N', a1, fun x k hx => (a2 x k hx).trans (d_up_n1 _ hx), fun k hk => (a3 k (by omega)).trans (d_up_n2 _ (by omega)), fun j h0 h1 => ?_⟩
      by_cases q : j = i
      · subst q
        rw [a3 _ (by omega), d_up_at]
      · exact a4 j (by omega) h1
  obtain ⟨N, a1, a2, a3, a4⟩ := key 40 0 M0 rfl (by omega)
  rw [e_J7_fill_53178_0, if_pos k1, k2, show vr sc d c_J7_fill_53178 (5, [(2, sO s + 1), (0, 0), (0, 0), (0, 40)], [], (K0, M0)) = _ from a1, Option.bind_some]
  show ∃ M', vr sc (d + 1) c_X3_become (18, [(2, sO s), (0, o), (0, (n : Int))], [], (K0, N)) = _ ∧ _
  have eo : ∀ k : Int, N (sO s) k = M0 (sO s) k := fun k => a2 _ _ (by omega)
  rw [e_X3_become_18]
  refine ⟨N, rfl, fun x k g0 g1 => (a2 x k g0).trans (f0 x k g0 g1), (eo 1).trans m1, ?_, ?_⟩
  · rw [eo 2, m2, List.length_replicate]
  · rw [List.length_replicate, ← lst_rep0]
    exact lst_cg fun j h0 h1 => by
      have := a4 j.toNat (by omega) (by omega)
      rw [show ((j.toNat : Nat) : Int) = j by omega] at this
      exact this
def sheetB (s o n : Int) : Bool := decide ((0 ≤ s ∧ s < 4) ∧ (o = -1 ∨ (0 ≤ o ∧ o ≤ 2 ∧ 0 ≤ n ∧ n ≤ 40)))
def sheetF (s o n : Int) : Int := if 0 ≤ s ∧ s < 4 then (if o = -1 then 1 else if 0 ≤ o ∧ o < 3 then (if n ≤ 40 then (if 0 ≤ n then 1 else -14) else -2) else -2) else -2
def sheetO (so : Nat → Int) (s o n : Int) : Nat → Int := if sheetB s o n = true then upf so s.toNat o else so
def sheetL (sl : Nat → List Int) (s o n : Int) : Nat → List Int := if sheetB s o n = true then upf sl s.toNat (if o = -1 then [] else List.replicate n.toNat 0) else sl
def FSA (M M' : dM) : Prop := ∀ x k : Int, (x < 99 ∨ 106 < x) → M' x k = M x k
theorem FSh.fa {s : Nat} (h : s < 4) {M M' : dM} (hf : FSh s M M') : FSA M M' := fun x k hx => hf x k (by unfold sO; omega) (fun z => by unfold sO at z; omega)
theorem cS_upd {so : Nat → Int} {sl : Nat → List Int} {M M' : dM} (hc : ∀ n : Nat, n < 4 → cS M n (so n) (sl n)) {s : Nat} (h : s < 4) (hf : FSh s M M') {o : Int} {l : List Int} (hn : cS M' s o l) : ∀ n : Nat, n < 4 → cS M' n (upf so s o n) (upf sl s l n) := fun n hn4 => by
  by_cases q : n = s
  · subst q
    rw [upd_at, upd_at]
    exact hn
  · rw [upd_n q, upd_n q]
    exact cS_far q hf (hc n hn4)
theorem sheet_c {sc : dS} {d : Nat} {M : dM} (hs : Sk M) {so : Nat → Int} {sl : Nat → List Int} (hc : ∀ n : Nat, n < 4 → cS M n (so n) (sl n)) (s o n : Int) : ∃ M' : dM, vc sc (d + 3) 101 [(2, 0), (0, s), (0, o), (0, n)] (K0, M) = some ([(0, sheetF s o n)], (K0, M')) ∧ Sk M' ∧ FSA M M' ∧ ∀ j : Nat, j < 4 → cS M' j (sheetO so s o n j) (sheetL sl s o n j) := by
  rw [vc_s (md := m_X6_sheet) (L := [(2, 0), (0, s), (0, o), (0, n)]) rfl (Nat.le_of_ble_eq_true rfl) rfl]
  show ∃ M', vr sc (d + 2) c_X6_sheet (0, [(2, 0), (0, s), (0, o), (0, n)], [], (K0, M)) = _ ∧ _
  rw [e_X6_sheet_0, isSheet_ok, Option.bind_some]
  show ∃ M', vr sc (d + 2) c_X6_sheet (4, [(2, 0), (0, s), (0, o), (0, n)], [(0, _)], (K0, M)) = _ ∧ _
  rw [e_X6_sheet_4]
  unfold sheetF sheetO sheetL
  have no : ¬ ((0 ≤ s ∧ s < 4) ∧ (o = -1 ∨ (0 ≤ o ∧ o ≤ 2 ∧ 0 ≤ n ∧ n ≤ 40))) → ¬ sheetB s o n = true := fun z y => z (of_decide_eq_true y)
  have yes : ((0 ≤ s ∧ s < 4) ∧ (o = -1 ∨ (0 ≤ o ∧ o ≤ 2 ∧ 0 ≤ n ∧ n ≤ 40))) → sheetB s o n = true := fun z => decide_eq_true z
  have same : FSA M M := fun _ _ _ => rfl
  by_cases p : ¬ (0 ≤ s ∧ s < 4)
  · rw [bi_f p, if_pos rfl, if_neg p, if_neg (no (by omega)), if_neg (no (by omega))]
    exact ⟨M, rfl, hs, same, hc⟩
  have p := Classical.not_not.mp p
  obtain ⟨i, rfl⟩ : ∃ j : Nat, s = j := ⟨s.toNat, by omega⟩
  have hi : i < 4 := by omega
  have g6 : og K0 6 0 6 = true := rfl
  have a90 : ag K0 12 90 (i : Int) = true := ag_of (n := 4) rfl (by omega) (by omega)
  rw [bi_t p, if_neg (by decide), if_pos p, Int.toNat_natCast]
  by_cases o1 : o = -1
  · obtain ⟨M1, a1, a2, a3⟩ := sbecome_ok (sc := sc) (d := d) hs hi (o := -1) (by decide) (n := 0) (by omega)
    have yy := yes (by omega)
    rw [if_pos o1, if_pos o1, e_X6_sheet_22, if_neg (fun z => z o1), if_pos g6, Sk_06 hs, if_pos a90, (Sk_s hs hi).1, if_pos (rg_s hi), show vc sc (d + 2) 46 [(2, sO i), (0, -1), (0, 0)] (K0, M) = _ from a1, Option.bind_some, if_pos yy, if_pos yy, if_pos o1, o1]
    show ∃ M', vr sc (d + 2) c_X6_sheet (38, [(2, 0), (0, (i : Int)), (0, -1), (0, n)], [], (K0, M1)) = _ ∧ _
    rw [e_X6_sheet_38]
    exact ⟨M1, rfl, a2.sk hi hs, a2.fa hi, cS_upd hc hi a2 a3⟩
  rw [if_neg o1, if_neg o1, isSort_ok, Option.bind_some]
  show ∃ M', vr sc (d + 2) c_X6_sheet (16, [(2, 0), (0, (i : Int)), (0, o), (0, n)], [(0, _)], (K0, M)) = _ ∧ _
  rw [e_X6_sheet_16]
  by_cases q : ¬ (0 ≤ o ∧ o < 3)
  · rw [bi_f q, if_neg (fun z => z rfl), if_neg q, if_neg (no (by omega)), if_neg (no (by omega))]
    exact ⟨M, rfl, hs, same, hc⟩
  have q := Classical.not_not.mp q
  rw [bi_t q, if_pos (by decide), if_pos q, e_X6_sheet_22, if_pos o1]
  by_cases r : ¬ n ≤ 40
  · rw [if_neg r, if_neg r, if_neg (no (by omega)), if_neg (no (by omega))]
    exact ⟨M, rfl, hs, same, hc⟩
  have r := Classical.not_not.mp r
  rw [if_pos r, if_pos r]
  by_cases u : ¬ 0 ≤ n
  · rw [if_neg u, if_neg u, if_neg (no (by omega)), if_neg (no (by omega))]
    exact ⟨M, rfl, hs, same, hc⟩
  have u := Classical.not_not.mp u
  obtain ⟨k, rfl⟩ : ∃ j : Nat, n = j := ⟨n.toNat, by omega⟩
  obtain ⟨M1, a1, a2, a3⟩ := sbecome_ok (sc := sc) (d := d) hs hi (o := o) (by omega) (n := k) (by omega)
  have yy := yes (by omega)
  rw [if_pos u, if_pos u, if_pos g6, Sk_06 hs, if_pos a90, (Sk_s hs hi).1, if_pos (rg_s hi), a1, Option.bind_some, if_pos yy, if_pos yy, if_neg o1, Int.toNat_natCast]
  show ∃ M', vr sc (d + 2) c_X6_sheet (67, [(2, 0), (0, (i : Int)), (0, o), (0, (k : Int))], [], (K0, M1)) = _ ∧ _
  rw [e_X6_sheet_67]
  exact ⟨M1, rfl, a2.sk hi hs, a2.fa hi, cS_upd hc hi a2 a3⟩
