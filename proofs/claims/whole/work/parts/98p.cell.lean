/-! cell and film, both sides -/
theorem KV.set {o s a : Int} {M : dM} {l : List Int} (hk : KV o s a M l) (ho : o ≠ a) {i : Nat} (v : Int) : KV o s a (d_up M a (i : Int) v) (l.set i v) := by
  refine ⟨by rw [d_up_n1 _ ho, List.length_set]; exact hk.1, lst_of fun j hj => ?_⟩
  rw [List.length_set] at hj
  rw [List.getElem_set]
  by_cases q : i = j
  · subst q
    rw [d_up_at, if_pos rfl]
  · rw [d_up_n2 _ (by omega), if_neg q]
    exact hk.get hj
def cst (o v : Int) : Int := if o = 0 then i_b v else if o = 1 then i_s v else v
def cellB (so : Nat → Int) (sl : Nat → List Int) (s i : Int) : Bool := decide ((0 ≤ s ∧ s < 4) ∧ ¬ so s.toNat = -1 ∧ 0 ≤ i ∧ i < ((sl s.toNat).length : Int))
def cellF (so : Nat → Int) (sl : Nat → List Int) (s i : Int) : Int := if 0 ≤ s ∧ s < 4 then (if so s.toNat = -1 then -11 else if 0 ≤ i ∧ i < ((sl s.toNat).length : Int) then 1 else -12) else -2
def cellL (so : Nat → Int) (sl : Nat → List Int) (s i v : Int) : Nat → List Int := if cellB so sl s i = true then upf sl s.toNat ((sl s.toNat).set i.toNat (cst (so s.toNat) v)) else sl
theorem upf_self {α : Type} (f : Nat → α) (s : Nat) : upf f s (f s) = f := by
  funext n
  by_cases q : n = s
  · rw [q, upd_at]
  · rw [upd_n q]
theorem okS_cell {so : Nat → Int} {sl : Nat → List Int} (h : okS so sl) (s i v : Int) : okS so (cellL so sl s i v) := by
  unfold cellL
  by_cases p : cellB so sl s i = true
  · rw [if_pos p]
    intro j hj
    by_cases z : j = s.toNat
    · subst z
      rw [upd_at, List.length_set]
      exact h _ hj
    · rw [upd_n z]
      exact h j hj
  · rw [if_neg p]
    exact h
theorem spans_ok {sc : dS} {d : Nat} {M : dM} {s : Nat} (h : s < 4) {o : Int} {l : List Int} (hc : cS M s o l) (hl : l.length ≤ 40) {i n : Int} (hn : -2147483648 ≤ n ∧ n < 2147483648) : vc sc (d + 1) 47 [(2, sO s), (0, i), (0, n)] (K0, M) = some ([(0, bi (0 ≤ i ∧ 0 ≤ n ∧ n ≤ (l.length : Int) ∧ i ≤ (l.length : Int) - n))], (K0, M)) := by
  rw [vc_s (md := m_X3_spans) (L := [(2, sO s), (0, i), (0, n)]) rfl (Nat.le_of_ble_eq_true rfl) rfl]
  show vr sc d c_X3_spans (0, [(2, sO s), (0, i), (0, n)], [], (K0, M)) = _
  rw [e_X3_spans_0, hc.2.1]
  by_cases a : i < 0
  · rw [if_pos a, bi_f (by omega)]
  rw [if_neg a]
  by_cases b : n < 0
  · rw [if_pos b, bi_f (by omega)]
  rw [if_neg b, if_pos (og_s h (by decide))]
  by_cases c : (l.length : Int) < n
  · rw [if_pos c, bi_f (by omega)]
  have ew : w32 ((l.length : Int) - n) = (l.length : Int) - n := w32_i (by omega) (by omega)
  rw [if_neg c, if_pos (og_s h (by decide)), ew]
  clear ew
  by_cases e : (l.length : Int) - n < i
  · rw [if_pos e, bi_f (by omega)]
  · rw [if_neg e, bi_t (by omega)]
theorem cell_c {sc : dS} {d : Nat} {M : dM} (hs : Sk M) {so : Nat → Int} {sl : Nat → List Int} (hok : okS so sl) (hc : ∀ n : Nat, n < 4 → cS M n (so n) (sl n)) (s i v : Int) : ∃ M' : dM, vc sc (d + 2) 102 [(2, 0), (0, s), (0, i), (0, v)] (K0, M) = some ([(0, cellF so sl s i)], (K0, M')) ∧ Sk M' ∧ FSA M M' ∧ ∀ j : Nat, j < 4 → cS M' j (so j) (cellL so sl s i v j) := by
  rw [vc_s (md := m_X6_cell) (L := [(2, 0), (0, s), (0, i), (0, v), (3, 0)]) rfl (Nat.le_of_ble_eq_true rfl) rfl]
  show ∃ M', vr sc (d + 1) c_X6_cell (0, [(2, 0), (0, s), (0, i), (0, v), (3, 0)], [], (K0, M)) = _ ∧ _
  rw [e_X6_cell_0, isSheet_ok, Option.bind_some]
  show ∃ M', vr sc (d + 1) c_X6_cell (4, [(2, 0), (0, s), (0, i), (0, v), (3, 0)], [(0, _)], (K0, M)) = _ ∧ _
  rw [e_X6_cell_4]
  have same : FSA M M := fun _ _ _ => rfl
  unfold cellF cellL
  by_cases p : ¬ (0 ≤ s ∧ s < 4)
  · rw [bi_f p, if_neg (fun z => z rfl), if_neg p, if_neg (fun z => p (of_decide_eq_true z).1)]
    exact ⟨M, rfl, hs, same, hc⟩
  have p := Classical.not_not.mp p
  obtain ⟨n, rfl⟩ : ∃ j : Nat, s = j := ⟨s.toNat, by omega⟩
  have hn : n < 4 := by omega
  have cn := hc n hn
  have on := hok n hn
  have a90 : ag K0 12 90 (n : Int) = true := ag_of (n := 4) rfl (by omega) (by omega)
  rw [bi_t p, if_pos (by decide), if_pos p, Int.toNat_natCast, if_pos (show og K0 6 0 6 = true from rfl), Sk_06 hs, if_pos a90, (Sk_s hs hn).1, if_pos (rg_s hn), isMissing_ok hn, Option.bind_some, cn.1]
  show ∃ M', vr sc (d + 1) c_X6_cell (23, [(2, 0), (0, (n : Int)), (0, i), (0, v), (2, sO n)], [(0, bi (so n = -1))], (K0, M)) = _ ∧ _
  rw [e_X6_cell_23]
  have noB : ¬ (¬ so n = -1 ∧ 0 ≤ i ∧ i < ((sl n).length : Int)) → ¬ cellB so sl (n : Int) i = true := fun z y => z (by have := of_decide_eq_true y; rw [Int.toNat_natCast] at this; exact this.2)
  by_cases o1 : so n = -1
  · rw [bi_t o1, if_neg (by decide), if_pos o1, if_neg (noB (fun z => z.1 o1))]
    exact ⟨M, rfl, hs, same, hc⟩
  rw [bi_f o1, if_pos rfl, if_neg o1, if_pos (rg_s hn), spans_ok hn cn on.2.2 ⟨by decide, by decide⟩, Option.bind_some]
  show ∃ M', vr sc (d + 1) c_X6_cell (36, [(2, 0), (0, (n : Int)), (0, i), (0, v), (2, sO n)], [(0, _)], (K0, M)) = _ ∧ _
  rw [e_X6_cell_36]
  by_cases q : ¬ (0 ≤ i ∧ i < ((sl n).length : Int))
  · rw [bi_f (by omega), if_neg (fun z => z rfl), if_neg q, if_neg (noB (fun z => q z.2))]
    exact ⟨M, rfl, hs, same, hc⟩
  have q := Classical.not_not.mp q
  obtain ⟨k, rfl⟩ : ∃ j : Nat, i = j := ⟨i.toNat, by omega⟩
  have yB : cellB so sl (n : Int) (k : Int) = true := decide_eq_true ⟨p, by rw [Int.toNat_natCast]; exact ⟨o1, q⟩⟩
  have f1 : FSh n M (d_up M (sO n + 1) (k : Int) (cst (so n) v)) := fun x j g0 _ => d_up_n1 _ g0
  have hput : vc sc (d + 1) 48 [(2, sO n), (0, (k : Int)), (0, v)] (K0, M) = some ([], (K0, d_up M (sO n + 1) (k : Int) (cst (so n) v))) := by
    rw [vc_s (md := m_X3_put) (L := [(2, sO n), (0, (k : Int)), (0, v)]) rfl (Nat.le_of_ble_eq_true rfl) rfl]
    show vr sc d c_X3_put (0, [(2, sO n), (0, (k : Int)), (0, v)], [], (K0, M)) = _
    have ai : ag K0 8 (sO n + 1) (k : Int) = true := ag_s hn (by omega) (by omega)
    rw [e_X3_put_0, if_pos (og_s hn (by decide)), cn.1, (Sk_s hs hn).2]
    unfold cst
    by_cases s0 : so n = 0
    · rw [if_neg (fun z => z s0), if_pos (og_s hn (by decide)), if_pos ai, if_pos s0]
    rw [if_pos s0, if_pos (og_s hn (by decide)), if_neg s0]
    by_cases s1 : so n = 1
    · rw [if_neg (fun z => z s1), if_pos (og_s hn (by decide)), if_pos ai, if_pos s1]
    · rw [if_pos s1, if_pos (og_s hn (by decide)), if_pos ai, if_neg s1]
  rw [bi_t (by omega), if_pos (by decide), if_pos q, if_pos yB, if_pos (rg_s hn), hput, Option.bind_some, Int.toNat_natCast]
  show ∃ M', vr sc (d + 1) c_X6_cell (49, [(2, 0), (0, (n : Int)), (0, (k : Int)), (0, v), (2, sO n)], [], (K0, _)) = _ ∧ _
  rw [e_X6_cell_49]
  have hnew : cS (d_up M (sO n + 1) (k : Int) (cst (so n) v)) n (so n) ((sl n).set k (cst (so n) v)) := ⟨(d_up_n1 _ (by omega)).trans cn.1, cn.2.set (by omega) _⟩
  have hall := cS_upd hc hn f1 hnew
  rw [upf_self] at hall
  exact ⟨_, rfl, f1.sk hn hs, f1.fa hn, hall⟩
theorem cell_r {sc : dS} {d : Nat} {M : dM} (hs : Sk M) {so : Nat → Int} {sl : Nat → List Int} (hok : okS so sl) (hc : ∀ n : Nat, n < 4 → rS M n (so n) (sl n)) (s i v : Int) : ∃ M' : dM, vc sc (d + 3) 198 [(2, 107), (0, s), (0, i), (0, v)] (K0, M) = some ([(0, cellF so sl s i)], (K0, M')) ∧ Sk M' ∧ FSR M M' ∧ ∀ j : Nat, j < 4 → rS M' j (so j) (cellL so sl s i v j) := by
  rw [vc_s (md := m_X7_cell) (L := [(2, 107), (0, s), (0, i), (0, v)]) rfl (Nat.le_of_ble_eq_true rfl) rfl]
  show ∃ M', vr sc (d + 2) c_X7_cell (0, [(2, 107), (0, s), (0, i), (0, v)], [], (K0, M)) = _ ∧ _
  rw [e_X7_cell_0, isSheet7_ok, Option.bind_some]
  show ∃ M', vr sc (d + 2) c_X7_cell (4, [(2, 107), (0, s), (0, i), (0, v)], [(0, _)], (K0, M)) = _ ∧ _
  rw [e_X7_cell_4]
  have same : FSR M M := fun _ _ _ => rfl
  unfold cellF cellL
  by_cases p : ¬ (0 ≤ s ∧ s < 4)
  · rw [bi_f p, if_neg (fun z => z rfl), if_neg p, if_neg (fun z => p (of_decide_eq_true z).1)]
    exact ⟨M, rfl, hs, same, hc⟩
  have p := Classical.not_not.mp p
  obtain ⟨n, rfl⟩ : ∃ j : Nat, s = j := ⟨s.toNat, by omega⟩
  have hn : n < 4 := by omega
  have cn := hc n hn
  have on := hok n hn
  have sm := Sk_m42 hs
  rw [bi_t p, if_pos (by decide), if_pos p, Int.toNat_natCast, if_pos (show og K0 7 107 42 = true from rfl), sm.1, if_pos (ag_121 (by omega) (by omega)), cn.1]
  have noB : ¬ (¬ so n = -1 ∧ 0 ≤ i ∧ i < ((sl n).length : Int)) → ¬ cellB so sl (n : Int) i = true := fun z y => z (by have := of_decide_eq_true y; rw [Int.toNat_natCast] at this; exact this.2)
  by_cases o1 : so n = -1
  · rw [bi_f (by omega), if_neg (fun z => z rfl), if_pos o1, if_neg (noB (fun z => z.1 o1))]
    exact ⟨M, rfl, hs, same, hc⟩
  have ho : 0 ≤ so n := by omega
  have rn := cn.2 ho
  have ew : w32 (((sl n).length : Int) - 1) = ((sl n).length : Int) - 1 := w32_i (by omega) (by omega)
  rw [bi_t ho, if_pos (by decide), if_neg o1, if_pos (show og K0 7 107 44 = true from rfl), sm.2.2.1, if_pos (ag_123 (by clear ew; omega) (by clear ew; omega)), rn.2.1, ew, in_ok, Option.bind_some]
  clear ew
  show ∃ M', vr sc (d + 2) c_X7_cell (37, [(2, 107), (0, (n : Int)), (0, i), (0, v)], [(0, _)], (K0, M)) = _ ∧ _
  rw [e_X7_cell_37]
  by_cases q : ¬ (0 ≤ i ∧ i < ((sl n).length : Int))
  · rw [bi_f (by omega), if_neg (fun z => z rfl), if_neg q, if_neg (noB (fun z => q z.2))]
    exact ⟨M, rfl, hs, same, hc⟩
  have q := Classical.not_not.mp q
  obtain ⟨k, rfl⟩ : ∃ j : Nat, i = j := ⟨i.toNat, by omega⟩
  have yB : cellB so sl (n : Int) (k : Int) = true := decide_eq_true ⟨p, by rw [Int.toNat_natCast]; exact ⟨o1, q⟩⟩
  have f1 : FRs n M (d_up M 124 ((40 * n + k : Nat) : Int) (cst (so n) v)) := FRs.i (by omega) _
  have w := w_t40 n k (by omega) (by omega)
  have ai : ag K0 8 124 ((40 * n + k : Nat) : Int) = true := ag_124 (by clear w; omega) (by clear w; omega)
  have hnew : rS (d_up M 124 ((40 * n + k : Nat) : Int) (cst (so n) v)) n (so n) ((sl n).set k (cst (so n) v)) := by
    clear w
    refine ⟨(d_up_n1 _ (by decide)).trans cn.1, fun _ => ⟨(d_up_n1 _ (by decide)).trans rn.1, ?_, fun a ha => ?_⟩⟩
    · rw [d_up_n1 _ (by decide), List.length_set]; exact rn.2.1
    · rw [List.length_set] at ha
      rw [List.getElem_set]
      by_cases z : k = a
      · subst z
        rw [d_up_at, if_pos rfl]
      · rw [d_up_n2 _ (by omega), if_neg z]
        exact rn.2.2 a ha
  have hall := rS_upd hok hc hn f1 hnew
  rw [upf_self] at hall
  rw [bi_t (by clear w; omega), if_pos (by decide), if_pos q, if_pos yB, if_pos (show og K0 7 107 45 = true from rfl), if_pos (show og K0 7 107 43 = true from rfl), sm.2.1, sm.2.2.2, if_pos (ag_122 (by clear w; omega) (by clear w; omega)), rn.1, w, Int.toNat_natCast]
  clear w
  refine ⟨d_up M 124 ((40 * n + k : Nat) : Int) (cst (so n) v), ?_, f1.sk hs, f1.fr, hall⟩
  unfold cst
  by_cases s0 : so n = 0
  · rw [if_neg (fun z => z s0), if_pos ai, if_pos s0]
  rw [if_pos s0, if_pos (show og K0 7 107 43 = true from rfl), if_pos (ag_122 (by omega) (by omega)), if_neg s0]
  by_cases s1 : so n = 1
  · rw [if_neg (fun z => z s1), if_pos ai, if_pos s1]
  · rw [if_pos s1, if_pos ai, if_neg s1]
