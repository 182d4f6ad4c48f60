/-! knot, on both sides -/
theorem hearc_0 {o : Int} {l : List Int} (h : hearc o l = 0) : o ≠ -1 ∧ l.length ≤ 12 ∧ ∀ y ∈ l, y ∈ CL4 := by
  unfold hearc at h
  by_cases p : o = -1
  · rw [if_pos p] at h; cases h
  rw [if_neg p] at h
  by_cases q : 12 < l.length
  · rw [if_pos q] at h; cases h
  rw [if_neg q] at h
  by_cases r : l.all okC = true
  · exact ⟨p, by omega, fun y hy => CL4_of (of_decide_eq_true (List.all_eq_true.mp r y hy))⟩
  · rw [if_neg r] at h; cases h
def knot1 (w : Int) (l : List Int) : Int := if w = 0 then numl l else if w = 1 then numl (redl l) else if w = 2 then numl (pul (redl l)) else if w = 3 then ((pul (redl l)).length : Int) else abC l 0 0 4
def knotf (so : Nat → Int) (sl : Nat → List Int) (s w : Int) : Int := if 0 ≤ s ∧ s < 4 then (if 0 ≤ w ∧ w ≤ 4 then (if hearc (so s.toNat) (sl s.toNat) = 0 then knot1 w (sl s.toNat) else hearc (so s.toNat) (sl s.toNat)) else -2) else -2
theorem Sk_04 {M : dM} (h : Sk M) : M 0 4 = 58 := h (0, 4, 58) (by decide +kernel)
theorem knot_c {sc : dS} {d : Nat} {M : dM} (hs : Sk M) {so : Nat → Int} {sl : Nat → List Int} (hc : ∀ n, n < 4 → cS M n (so n) (sl n)) (s w : Int) : ∃ M' : dM, vc sc (d + 5) 69 [(2, 0), (0, s), (0, w)] (K0, M) = some ([(0, knotf so sl s w)], (K0, M')) ∧ Fr M M' := by
  rw [vc_s (md := m_X6_knot) (L := [(2, 0), (0, s), (0, w), (3, 0)]) rfl (Nat.le_of_ble_eq_true rfl) rfl]
  show ∃ M', vr sc (d + 4) c_X6_knot (0, [(2, 0), (0, s), (0, w), (3, 0)], [], (K0, M)) = _ ∧ _
  rw [e_X6_knot_0, isSheet_ok, Option.bind_some]
  show ∃ M', vr sc (d + 4) c_X6_knot (4, [(2, 0), (0, s), (0, w), (3, 0)], [(0, _)], (K0, M)) = _ ∧ _
  rw [e_X6_knot_4]
  unfold knotf
  by_cases p : ¬ (0 ≤ s ∧ s < 4)
  · rw [bi_f p, if_pos rfl, if_neg p]
    exact ⟨M, rfl, Fr.rf _⟩
  have p := Classical.not_not.mp p
  rw [bi_t p, if_neg (by decide), if_pos p, isWithin_ok, Option.bind_some]
  show ∃ M', vr sc (d + 4) c_X6_knot (12, [(2, 0), (0, s), (0, w), (3, 0)], [(0, _)], (K0, M)) = _ ∧ _
  rw [e_X6_knot_12]
  by_cases q : ¬ (0 ≤ w ∧ w ≤ 4)
  · rw [bi_f q, if_neg (fun z => z rfl), if_neg q]
    exact ⟨M, rfl, Fr.rf _⟩
  have q := Classical.not_not.mp q
  obtain ⟨n, rfl⟩ : ∃ n : Nat, s = n := ⟨s.toNat, by omega⟩
  have hn : n < 4 := by omega
  have hcn := hc n hn
  rw [show ((n : Nat) : Int).toNat = n from rfl]
  generalize so n = o at hcn ⊢
  generalize sl n = l at hcn ⊢
  obtain ⟨M1, a1, a2, a3⟩ := hear_ok (sc := sc) (d := d + 2) hs hn hcn
  rw [bi_t q, if_pos (by decide), if_pos (show rg K0 6 0 = true from rfl), a1, Option.bind_some, if_pos q]
  show ∃ M', vr sc (d + 4) c_X6_knot (23, [(2, 0), (0, (n : Int)), (0, w), (3, 0)], [(0, _)], (K0, M1)) = _ ∧ _
  rw [e_X6_knot_23]
  by_cases hh : ¬ hearc o l = 0
  · rw [if_neg hh, if_neg hh]
    exact ⟨M1, rfl, a2.s91⟩
  have hh := Classical.not_not.mp hh
  have hl := (hearc_0 hh).2.1
  have hk := a3 hh
  have hs1 := a2.s91.sk hs
  rw [if_pos hh, if_pos hh, hh]
  unfold knot1
  by_cases w0 : w = 0
  · rw [if_pos w0, if_pos w0, if_pos (show og K0 6 0 7 = true from rfl), Sk_07 hs1, if_pos (rg_kn isK_91), number_ok isK_91 hs1 hl hk, Option.bind_some]
    show ∃ M', vr sc (d + 4) c_X6_knot (67, [(2, 0), (0, (n : Int)), (0, w), (0, 0)], [(0, _)], (K0, M1)) = _ ∧ _
    rw [e_X6_knot_67]
    exact ⟨M1, rfl, a2.s91⟩
  rw [if_neg w0, if_neg w0]
  by_cases w1 : w = 1
  · obtain ⟨M2, b1, b2, b3⟩ := reduce_ok (sc := sc) (d := d + 2) isK_91 hs1 hl hk
    have hs2 := b2.s91.sk hs1
    rw [if_pos w1, if_pos w1, if_pos (show og K0 6 0 7 = true from rfl), Sk_07 hs1, if_pos (rg_kn isK_91), b1, Option.bind_some]
    show ∃ M', vr sc (d + 4) c_X6_knot (75, [(2, 0), (0, (n : Int)), (0, w), (0, 0)], [], (K0, M2)) = _ ∧ _
    rw [e_X6_knot_75, if_pos (show og K0 6 0 7 = true from rfl), Sk_07 hs2, if_pos (rg_kn isK_91), number_ok isK_91 hs2 (Nat.le_trans (redl_len l) hl) b3, Option.bind_some]
    show ∃ M', vr sc (d + 4) c_X6_knot (82, [(2, 0), (0, (n : Int)), (0, w), (0, 0)], [(0, _)], (K0, M2)) = _ ∧ _
    rw [e_X6_knot_82]
    exact ⟨M2, rfl, a2.s91.tr b2.s91⟩
  rw [if_neg w1, if_neg w1]
  by_cases w2 : w = 2
  · obtain ⟨M2, b1, b2, b3⟩ := pull_ok (sc := sc) (d := d + 1) isK_91 hs1 hl hk
    have hs2 := b2.s91.sk hs1
    rw [if_pos w2, if_pos w2, if_pos (show og K0 6 0 7 = true from rfl), Sk_07 hs1, if_pos (rg_kn isK_91), b1, Option.bind_some]
    show ∃ M', vr sc (d + 4) c_X6_knot (90, [(2, 0), (0, (n : Int)), (0, w), (0, 0)], [], (K0, M2)) = _ ∧ _
    rw [e_X6_knot_90, if_pos (show og K0 6 0 7 = true from rfl), Sk_07 hs2, if_pos (rg_kn isK_91), number_ok isK_91 hs2 (Nat.le_trans (pul_len _) (Nat.le_trans (redl_len l) hl)) b3, Option.bind_some]
    show ∃ M', vr sc (d + 4) c_X6_knot (97, [(2, 0), (0, (n : Int)), (0, w), (0, 0)], [(0, _)], (K0, M2)) = _ ∧ _
    rw [e_X6_knot_97]
    exact ⟨M2, rfl, a2.s91.tr b2.s91⟩
  rw [if_neg w2, if_neg w2]
  by_cases w3 : w = 3
  · obtain ⟨M2, b1, b2⟩ := turns_ok (sc := sc) (d := d) isK_91 hs1 hl hk
    rw [if_pos w3, if_pos w3, if_pos (show og K0 6 0 4 = true from rfl), if_pos (show og K0 6 0 7 = true from rfl), Sk_07 hs1, Sk_04 hs1, if_pos (show rg K0 2 58 = true from rfl), b1, Option.bind_some]
    show ∃ M', vr sc (d + 4) c_X6_knot (109, [(2, 0), (0, (n : Int)), (0, w), (0, 0)], [(0, _)], (K0, M2)) = _ ∧ _
    rw [e_X6_knot_109]
    exact ⟨M2, rfl, a2.s91.tr b2.s62⟩
  rw [if_neg w3, if_neg w3]
  obtain ⟨M2, b1, b2⟩ := awayBits_ok (sc := sc) (d := d) hs1 hl hk
  rw [if_pos (show rg K0 6 0 = true from rfl), b1, Option.bind_some]
  show ∃ M', vr sc (d + 4) c_X6_knot (114, [(2, 0), (0, (n : Int)), (0, w), (0, 0)], [(0, _)], (K0, M2)) = _ ∧ _
  rw [e_X6_knot_114]
  exact ⟨M2, rfl, a2.s91.tr b2⟩
theorem knot_84 {sc : dS} {d : Nat} {M : dM} {v1 v2 v3 x : Int} : vr sc d c_X7_knot (84, [(2, 107), (0, v1), (0, v2), (0, v3)], [(0, x)], (K0, M)) = some ([(0, x)], (K0, M)) := e_X7_knot_84
theorem knot_68 {sc : dS} {d : Nat} {M : dM} (hs : Sk M) {v1 w v3 : Int} {l : List Int} (hl : l.length ≤ 12) (hk : KV 107 29 114 M l) : vr sc (d + 1) c_X7_knot (68, [(2, 107), (0, v1), (0, w), (0, v3)], [], (K0, M)) = some ([(0, if w = 3 then (l.length : Int) else numl l)], (K0, M)) := by
  rw [e_X7_knot_68]
  by_cases w3 : w = 3
  · rw [if_neg (fun z => z w3), if_pos w3, if_pos (show og K0 7 107 29 = true from rfl), knot_84, hk.1]
  · rw [if_pos w3, if_neg w3, if_pos (show rg K0 7 107 = true from rfl), wordNumber_ok hs hl hk, Option.bind_some]
    show vr sc (d + 1) c_X7_knot (84, [(2, 107), (0, v1), (0, w), (0, v3)], [(0, _)], (K0, M)) = _
    rw [knot_84]
theorem knot_r {sc : dS} {d : Nat} {M : dM} (hs : Sk M) {so : Nat → Int} {sl : Nat → List Int} (hc : ∀ n, n < 4 → -1 ≤ so n ∧ rS M n (so n) (sl n)) (s w : Int) : ∃ M' : dM, vc sc (d + 5) 161 [(2, 107), (0, s), (0, w)] (K0, M) = some ([(0, knotf so sl s w)], (K0, M')) ∧ Fr M M' := by
  rw [vc_s (md := m_X7_knot) (L := [(2, 107), (0, s), (0, w), (3, 0)]) rfl (Nat.le_of_ble_eq_true rfl) rfl]
  show ∃ M', vr sc (d + 4) c_X7_knot (0, [(2, 107), (0, s), (0, w), (3, 0)], [], (K0, M)) = _ ∧ _
  rw [e_X7_knot_0, isSheet7_ok, Option.bind_some]
  show ∃ M', vr sc (d + 4) c_X7_knot (4, [(2, 107), (0, s), (0, w), (3, 0)], [(0, _)], (K0, M)) = _ ∧ _
  rw [e_X7_knot_4]
  unfold knotf
  by_cases p : ¬ (0 ≤ s ∧ s < 4)
  · rw [bi_f p, if_pos rfl, if_neg p]
    exact ⟨M, rfl, Fr.rf _⟩
  have p := Classical.not_not.mp p
  rw [bi_t p, if_neg (by decide), if_pos p, in_ok, Option.bind_some]
  show ∃ M', vr sc (d + 4) c_X7_knot (16, [(2, 107), (0, s), (0, w), (3, 0)], [(0, _)], (K0, M)) = _ ∧ _
  rw [e_X7_knot_16]
  by_cases q : ¬ (0 ≤ w ∧ w ≤ 4)
  · rw [bi_f q, if_neg (fun z => z rfl), if_neg q]
    exact ⟨M, rfl, Fr.rf _⟩
  have q := Classical.not_not.mp q
  obtain ⟨n, rfl⟩ : ∃ n : Nat, s = n := ⟨s.toNat, by omega⟩
  have hn : n < 4 := by omega
  have hcn := hc n hn
  rw [show ((n : Nat) : Int).toNat = n from rfl]
  generalize so n = o at hcn ⊢
  generalize sl n = l at hcn ⊢
  rw [bi_t q, if_pos (by decide), if_pos (show rg K0 7 107 = true from rfl), wordBad_ok hs hn hcn.1 hcn.2, Option.bind_some, if_pos q]
  show ∃ M', vr sc (d + 4) c_X7_knot (27, [(2, 107), (0, (n : Int)), (0, w), (3, 0)], [(0, _)], (K0, M)) = _ ∧ _
  rw [e_X7_knot_27]
  by_cases hh : ¬ hearc o l = 0
  · rw [if_neg hh, if_neg hh]
    exact ⟨M, rfl, Fr.rf _⟩
  have hh := Classical.not_not.mp hh
  have h0 := hearc_0 hh
  have hl := h0.2.1
  have ho : 0 ≤ o := by have := hcn.1; have := h0.1; omega
  rw [if_pos hh, if_pos hh, hh]
  unfold knot1
  by_cases w4 : w = 4
  · obtain ⟨M2, b1, b2⟩ := awaySet_ok (sc := sc) (d := d) hs hn ho hl hcn.2
    rw [if_neg (fun z => z w4), if_pos (show rg K0 7 107 = true from rfl), b1, Option.bind_some]
    show ∃ M', vr sc (d + 4) c_X7_knot (44, [(2, 107), (0, (n : Int)), (0, w), (0, 0)], [(0, _)], (K0, M2)) = _ ∧ _
    rw [e_X7_knot_44, if_neg (show ¬ w = 0 by omega), if_neg (show ¬ w = 1 by omega), if_neg (show ¬ w = 2 by omega), if_neg (show ¬ w = 3 by omega), ab_same h0.2.2]
    exact ⟨M2, rfl, b2⟩
  obtain ⟨M1, a1, a2, a3⟩ := takesSheet_ok (sc := sc) (d := d + 3) hs hn ho hl hcn.2
  have hs1 := a2.s107.sk hs
  rw [if_pos w4, if_pos (show rg K0 7 107 = true from rfl), a1, Option.bind_some]
  show ∃ M', vr sc (d + 4) c_X7_knot (50, [(2, 107), (0, (n : Int)), (0, w), (0, 0)], [], (K0, M1)) = _ ∧ _
  rw [e_X7_knot_50]
  by_cases w1 : w = 1
  · obtain ⟨M2, b1, b2, b3⟩ := reduces_ok (sc := sc) (d := d + 2) hs1 hl a3
    have hs2 := b2.s107.sk hs1
    rw [if_neg (fun z => z w1), if_pos (show rg K0 7 107 = true from rfl), b1, Option.bind_some]
    show ∃ M', vr sc (d + 4) c_X7_knot (59, [(2, 107), (0, (n : Int)), (0, w), (0, 0)], [], (K0, M2)) = _ ∧ _
    rw [e_X7_knot_59, if_pos (show w ≤ 1 by omega), knot_68 hs2 (Nat.le_trans (redl_len l) hl) b3, if_neg (show ¬ w = 3 by omega), if_neg (show ¬ w = 0 by omega), if_pos w1]
    exact ⟨M2, rfl, a2.s107.tr b2.s107⟩
  rw [if_pos w1, e_X7_knot_59]
  by_cases w0 : w = 0
  · rw [if_pos (show w ≤ 1 by omega), knot_68 hs1 hl a3, if_neg (show ¬ w = 3 by omega), if_pos w0]
    exact ⟨M1, rfl, a2.s107⟩
  obtain ⟨M2, b1, b2, b3⟩ := pulls_ok (sc := sc) (d := d + 1) hs1 hl a3
  have hs2 := b2.s107.sk hs1
  rw [if_neg (show ¬ w ≤ 1 by omega), if_pos (show rg K0 7 107 = true from rfl), b1, Option.bind_some]
  show ∃ M', vr sc (d + 4) c_X7_knot (68, [(2, 107), (0, (n : Int)), (0, w), (0, 0)], [], (K0, M2)) = _ ∧ _
  rw [knot_68 hs2 (Nat.le_trans (pul_len _) (Nat.le_trans (redl_len l) hl)) b3, if_neg w0, if_neg w1]
  refine ⟨M2, ?_, a2.s107.tr b2.s107⟩
  by_cases w3 : w = 3
  · rw [if_pos w3, if_neg (show ¬ w = 2 by omega), if_pos w3]
  · rw [if_neg w3, if_pos (show w = 2 by omega)]
