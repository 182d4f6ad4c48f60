/-! the reference reads and reckons: each rank -/
theorem term_r {sc : dS} {d : Nat} {ns : Nat → Int} {t : Nat} {b : List Int} (ht : t < 6) (hb : okB b) {F : Ps → Ps} {op n : Nat} (hsub : SimR sc (d + 4) ns t b 135 op n F) : SimR sc (d + 5) ns t b 136 op (n + 1) (fun x => lp b F 4 160 (F x)) := by
  have rg1 : rg K0 7 107 = true := rfl
  refine rankR (D := d + 4) (m := 136) (r := 4) (H := fun M v _ _ => vr sc (d + 4) c_X7_term (5, [(2, 107), (0, v)], [], (K0, M))) hb hsub (fun M M1 v e => ?_) (fun M x v q2 q3 h hn => ?_) (fun M x v q2 q3 h g iv j => ?_)
  · refine ⟨(3, 0), (3, 0), ?_⟩
    rw [vc_s (md := m_X7_term) (L := [(2, 107), (3, 0)]) rfl (Nat.le_of_ble_eq_true rfl) rfl]
    show vr sc (d + 4) c_X7_term (0, [(2, 107), (3, 0)], [], (K0, M)) = _
    rw [e_X7_term_0, if_pos rg1, e, Option.bind_some]
    show vr sc (d + 4) c_X7_term (4, [(2, 107), (3, 0)], [(0, v)], (K0, M1)) = _
    rw [e_X7_term_4]
  · show vr sc (d + 4) c_X7_term (5, [(2, 107), (0, v)], [], (K0, M)) = _
    rw [e_X7_term_5, if_pos rg1, sign_r (d := d + 3) h (by decide), Option.bind_some]
    show vr sc (d + 4) c_X7_term (11, [(2, 107), (0, v)], [(0, bi (pF x = -1 ∧ pK x = 42))], (K0, M)) = _
    rw [e_X7_term_11, bi_f (fun z => hn ⟨z.1, decide_eq_true z.2⟩), if_pos rfl]
  · have k42 : pK x = 42 := of_decide_eq_true j
    have iv' := Iv_stp iv (jn_k j).1.1
    obtain ⟨M1, a1, a2, a3⟩ := next_q (sc := sc) (d := d + 2) ht hb h g (jn_k j).1
    obtain ⟨M2, w, b1, b2, b3, b4⟩ := hsub M1 (stp b x) a2 g iv'.1
    refine ⟨M2, w, (3, 0), (3, 0), ?_, b2, a3.tr b3, b4⟩
    show vr sc (d + 4) c_X7_term (5, [(2, 107), (0, v)], [], (K0, M)) = vr sc (d + 4) c_X7_term (5, [(2, 107), (0, njoin (pK x) v w)], [], (K0, M2))
    rw [e_X7_term_5, if_pos rg1, sign_r (d := d + 3) h (by decide), Option.bind_some]
    show vr sc (d + 4) c_X7_term (11, [(2, 107), (0, v)], [(0, bi (pF x = -1 ∧ pK x = 42))], (K0, M)) = _
    rw [e_X7_term_11, bi_t ⟨g, k42⟩, if_neg (by decide), if_pos rg1, a1, Option.bind_some]
    show vr sc (d + 4) c_X7_term (18, [(2, 107), (0, v)], [], (K0, M1)) = _
    rw [e_X7_term_18, if_pos rg1, b1, Option.bind_some]
    show vr sc (d + 4) c_X7_term (23, [(2, 107), (0, v)], [(0, w), (0, v)], (K0, M2)) = _
    rw [e_X7_term_23, k42]
    rfl
theorem both_r {sc : dS} {d : Nat} {ns : Nat → Int} {t : Nat} {b : List Int} (ht : t < 6) (hb : okB b) {F : Ps → Ps} {op n : Nat} (hsub : SimR sc (d + 4) ns t b 138 op n F) : SimR sc (d + 5) ns t b 139 op (n + 1) (fun x => lp b F 1 160 (F x)) := by
  have rg1 : rg K0 7 107 = true := rfl
  have wq : ∀ {M : dM} {x : Ps}, RQ ns t b M x op → vc sc (d + 4) 131 [(2, 107), (0, 97), (0, 110), (0, 100), (0, 0), (0, 0), (0, 0), (0, 0), (0, 0)] (K0, M) = some ([(0, bi (pF x = -1 ∧ jn 1 (pK x) = true))], (K0, M)) := fun h => by
    have := word_r (sc := sc) (d := d + 1) ht hb h (q := 10) (by decide)
    exact this
  refine rankR (D := d + 4) (m := 139) (r := 1) (H := fun M v q2 _ => vr sc (d + 4) c_X7_both (5, [(2, 107), (0, v), q2], [], (K0, M))) hb hsub (fun M M1 v e => ?_) (fun M x v q2 q3 h hn => ?_) (fun M x v q2 q3 h g iv j => ?_)
  · refine ⟨(3, 0), (3, 0), ?_⟩
    rw [vc_s (md := m_X7_both) (L := [(2, 107), (3, 0), (3, 0)]) rfl (Nat.le_of_ble_eq_true rfl) rfl]
    show vr sc (d + 4) c_X7_both (0, [(2, 107), (3, 0), (3, 0)], [], (K0, M)) = _
    rw [e_X7_both_0, if_pos rg1, e, Option.bind_some]
    show vr sc (d + 4) c_X7_both (4, [(2, 107), (3, 0), (3, 0)], [(0, v)], (K0, M1)) = _
    rw [e_X7_both_4]
  · show vr sc (d + 4) c_X7_both (5, [(2, 107), (0, v), q2], [], (K0, M)) = _
    rw [e_X7_both_5, if_pos rg1, wq h, Option.bind_some]
    show vr sc (d + 4) c_X7_both (20, [(2, 107), (0, v), q2], [(0, bi (pF x = -1 ∧ jn 1 (pK x) = true))], (K0, M)) = _
    rw [e_X7_both_20, bi_f hn, if_pos rfl]
  · have k14 : pK x = 14 := of_decide_eq_true j
    have iv' := Iv_stp iv (jn_k j).1.1
    obtain ⟨M1, a1, a2, a3⟩ := next_q (sc := sc) (d := d + 2) ht hb h g (jn_k j).1
    obtain ⟨M2, w, b1, b2, b3, b4⟩ := hsub M1 (stp b x) a2 g iv'.1
    refine ⟨M2, w, (0, w), (3, 0), ?_, b2, a3.tr b3, b4⟩
    show vr sc (d + 4) c_X7_both (5, [(2, 107), (0, v), q2], [], (K0, M)) = vr sc (d + 4) c_X7_both (5, [(2, 107), (0, njoin (pK x) v w), (0, w)], [], (K0, M2))
    rw [e_X7_both_5, if_pos rg1, wq h, Option.bind_some]
    show vr sc (d + 4) c_X7_both (20, [(2, 107), (0, v), q2], [(0, bi (pF x = -1 ∧ jn 1 (pK x) = true))], (K0, M)) = _
    rw [e_X7_both_20, bi_t ⟨g, j⟩, if_neg (by decide), if_pos rg1, a1, Option.bind_some]
    show vr sc (d + 4) c_X7_both (27, [(2, 107), (0, v), q2], [], (K0, M1)) = _
    rw [e_X7_both_27, if_pos rg1, b1, Option.bind_some]
    show vr sc (d + 4) c_X7_both (31, [(2, 107), (0, v), q2], [(0, w)], (K0, M2)) = _
    rw [e_X7_both_31, k14, show njoin 14 v w = bi (v ≠ 0 ∧ w ≠ 0) from rfl]
    by_cases v0 : v = 0
    · rw [if_pos v0, bi_f (fun z => z.1 v0)]
    · rw [if_neg v0]
      by_cases w0 : w = 0
      · rw [if_pos w0, bi_f (fun z => z.2 w0)]
      · rw [if_neg w0, bi_t ⟨v0, w0⟩]
theorem either_r {sc : dS} {d : Nat} {ns : Nat → Int} {t : Nat} {b : List Int} (ht : t < 6) (hb : okB b) {F : Ps → Ps} {op n : Nat} (hsub : SimR sc (d + 4) ns t b 139 op n F) : SimR sc (d + 5) ns t b 140 op (n + 1) (fun x => lp b F 0 160 (F x)) := by
  have rg1 : rg K0 7 107 = true := rfl
  have wq : ∀ {M : dM} {x : Ps}, RQ ns t b M x op → vc sc (d + 4) 131 [(2, 107), (0, 111), (0, 114), (0, 0), (0, 0), (0, 0), (0, 0), (0, 0), (0, 0)] (K0, M) = some ([(0, bi (pF x = -1 ∧ jn 0 (pK x) = true))], (K0, M)) := fun h => by
    have := word_r (sc := sc) (d := d + 1) ht hb h (q := 9) (by decide)
    exact this
  refine rankR (D := d + 4) (m := 140) (r := 0) (H := fun M v q2 _ => vr sc (d + 4) c_X7_either (5, [(2, 107), (0, v), q2], [], (K0, M))) hb hsub (fun M M1 v e => ?_) (fun M x v q2 q3 h hn => ?_) (fun M x v q2 q3 h g iv j => ?_)
  · refine ⟨(3, 0), (3, 0), ?_⟩
    rw [vc_s (md := m_X7_either) (L := [(2, 107), (3, 0), (3, 0)]) rfl (Nat.le_of_ble_eq_true rfl) rfl]
    show vr sc (d + 4) c_X7_either (0, [(2, 107), (3, 0), (3, 0)], [], (K0, M)) = _
    rw [e_X7_either_0, if_pos rg1, e, Option.bind_some]
    show vr sc (d + 4) c_X7_either (4, [(2, 107), (3, 0), (3, 0)], [(0, v)], (K0, M1)) = _
    rw [e_X7_either_4]
  · show vr sc (d + 4) c_X7_either (5, [(2, 107), (0, v), q2], [], (K0, M)) = _
    rw [e_X7_either_5, if_pos rg1, wq h, Option.bind_some]
    show vr sc (d + 4) c_X7_either (19, [(2, 107), (0, v), q2], [(0, bi (pF x = -1 ∧ jn 0 (pK x) = true))], (K0, M)) = _
    rw [e_X7_either_19, bi_f hn, if_pos rfl]
  · have k13 : pK x = 13 := of_decide_eq_true j
    have iv' := Iv_stp iv (jn_k j).1.1
    obtain ⟨M1, a1, a2, a3⟩ := next_q (sc := sc) (d := d + 2) ht hb h g (jn_k j).1
    obtain ⟨M2, w, b1, b2, b3, b4⟩ := hsub M1 (stp b x) a2 g iv'.1
    refine ⟨M2, w, (0, w), (3, 0), ?_, b2, a3.tr b3, b4⟩
    show vr sc (d + 4) c_X7_either (5, [(2, 107), (0, v), q2], [], (K0, M)) = vr sc (d + 4) c_X7_either (5, [(2, 107), (0, njoin (pK x) v w), (0, w)], [], (K0, M2))
    rw [e_X7_either_5, if_pos rg1, wq h, Option.bind_some]
    show vr sc (d + 4) c_X7_either (19, [(2, 107), (0, v), q2], [(0, bi (pF x = -1 ∧ jn 0 (pK x) = true))], (K0, M)) = _
    rw [e_X7_either_19, bi_t ⟨g, j⟩, if_neg (by decide), if_pos rg1, a1, Option.bind_some]
    show vr sc (d + 4) c_X7_either (26, [(2, 107), (0, v), q2], [], (K0, M1)) = _
    rw [e_X7_either_26, if_pos rg1, b1, Option.bind_some]
    show vr sc (d + 4) c_X7_either (30, [(2, 107), (0, v), q2], [(0, w)], (K0, M2)) = _
    rw [e_X7_either_30, k13, show njoin 13 v w = bi (v ≠ 0 ∨ w ≠ 0) from rfl]
    by_cases v0 : v = 0
    · rw [if_neg (fun z => z v0)]
      by_cases w0 : w = 0
      · rw [if_pos w0, bi_f (fun z => z.elim (fun y => y v0) (fun y => y w0))]
      · rw [if_neg w0, bi_t (Or.inr w0)]
    · rw [if_pos v0, bi_t (Or.inl v0)]
theorem rK_worth {b : List Int} {M : dM} {k v : Int} {s p : Nat} (h : rK b M k v s p) (hk : 40 ≤ k) : M 107 24 = k := by
  rcases rK_tok h with z | z | z | z | z
  · omega
  · omega
  · omega
  · exact z.2.2.2.1
  · omega
theorem added_r {sc : dS} {d : Nat} {ns : Nat → Int} {t : Nat} {b : List Int} (ht : t < 6) (hb : okB b) {F : Ps → Ps} {op n : Nat} (hsub : SimR sc (d + 4) ns t b 136 op n F) : SimR sc (d + 5) ns t b 137 op (n + 1) (fun x => lp b F 3 160 (F x)) := by
  have rg1 : rg K0 7 107 = true := rfl
  refine rankR (D := d + 4) (m := 137) (r := 3) (H := fun M v q2 q3 => vr sc (d + 4) c_X7_added (5, [(2, 107), (0, v), q2, q3], [], (K0, M))) hb hsub (fun M M1 v e => ?_) (fun M x v q2 q3 h hn => ?_) (fun M x v q2 q3 h g iv j => ?_)
  · refine ⟨(3, 0), (3, 0), ?_⟩
    rw [vc_s (md := m_X7_added) (L := [(2, 107), (3, 0), (3, 0), (3, 0)]) rfl (Nat.le_of_ble_eq_true rfl) rfl]
    show vr sc (d + 4) c_X7_added (0, [(2, 107), (3, 0), (3, 0), (3, 0)], [], (K0, M)) = _
    rw [e_X7_added_0, if_pos rg1, e, Option.bind_some]
    show vr sc (d + 4) c_X7_added (4, [(2, 107), (3, 0), (3, 0), (3, 0)], [(0, v)], (K0, M1)) = _
    rw [e_X7_added_4]
  · show vr sc (d + 4) c_X7_added (5, [(2, 107), (0, v), q2, q3], [], (K0, M)) = _
    rw [e_X7_added_5, if_pos rg1, sign_r (d := d + 3) h (by decide), Option.bind_some]
    show vr sc (d + 4) c_X7_added (11, [(2, 107), (0, v), q2, q3], [(0, bi (pF x = -1 ∧ pK x = 43))], (K0, M)) = _
    rw [e_X7_added_11, bi_f (fun z => hn ⟨z.1, decide_eq_true (Or.inl z.2)⟩), if_neg (fun z => z rfl), if_pos rg1, sign_r (d := d + 3) h (by decide), Option.bind_some]
    show vr sc (d + 4) c_X7_added (20, [(2, 107), (0, v), q2, q3], [(0, bi (pF x = -1 ∧ pK x = 45))], (K0, M)) = _
    rw [e_X7_added_20, bi_f (fun z => hn ⟨z.1, decide_eq_true (Or.inr z.2)⟩), if_pos rfl]
  · have k34 : pK x = 43 ∨ pK x = 45 := of_decide_eq_true j
    have iv' := Iv_stp iv (jn_k j).1.1
    have hw := rK_worth (h.good g).2 (by omega)
    obtain ⟨M1, a1, a2, a3⟩ := next_q (sc := sc) (d := d + 2) ht hb h g (jn_k j).1
    obtain ⟨M2, w, b1, b2, b3, b4⟩ := hsub M1 (stp b x) a2 g iv'.1
    by_cases k43 : pK x = 43
    · refine ⟨M2, w, (0, 1), (0, w), ?_, b2, a3.tr b3, b4⟩
      show vr sc (d + 4) c_X7_added (5, [(2, 107), (0, v), q2, q3], [], (K0, M)) = vr sc (d + 4) c_X7_added (5, [(2, 107), (0, njoin (pK x) v w), (0, 1), (0, w)], [], (K0, M2))
      rw [e_X7_added_5, if_pos rg1, sign_r (d := d + 3) h (by decide), Option.bind_some]
      show vr sc (d + 4) c_X7_added (11, [(2, 107), (0, v), q2, q3], [(0, bi (pF x = -1 ∧ pK x = 43))], (K0, M)) = _
      rw [e_X7_added_11, bi_t ⟨g, k43⟩, if_pos (by decide), if_pos (show og K0 7 107 24 = true from rfl), hw, k43, if_neg (fun z => z ((i_cmp_0 _ _).mpr rfl)), if_pos rg1, a1, Option.bind_some]
      show vr sc (d + 4) c_X7_added (44, [(2, 107), (0, v), (0, 1), q3], [], (K0, M1)) = _
      rw [e_X7_added_44, if_pos rg1, b1, Option.bind_some]
      show vr sc (d + 4) c_X7_added (48, [(2, 107), (0, v), (0, 1), q3], [(0, w)], (K0, M2)) = _
      rw [e_X7_added_48, if_neg (by decide)]
      rfl
    · have k45 : pK x = 45 := k34.elim (fun z => absurd z k43) id
      refine ⟨M2, w, (0, 0), (0, w), ?_, b2, a3.tr b3, b4⟩
      show vr sc (d + 4) c_X7_added (5, [(2, 107), (0, v), q2, q3], [], (K0, M)) = vr sc (d + 4) c_X7_added (5, [(2, 107), (0, njoin (pK x) v w), (0, 0), (0, w)], [], (K0, M2))
      rw [e_X7_added_5, if_pos rg1, sign_r (d := d + 3) h (by decide), Option.bind_some]
      show vr sc (d + 4) c_X7_added (11, [(2, 107), (0, v), q2, q3], [(0, bi (pF x = -1 ∧ pK x = 43))], (K0, M)) = _
      rw [e_X7_added_11, bi_f (fun z => k43 z.2), if_neg (fun z => z rfl), if_pos rg1, sign_r (d := d + 3) h (by decide), Option.bind_some]
      show vr sc (d + 4) c_X7_added (20, [(2, 107), (0, v), q2, q3], [(0, bi (pF x = -1 ∧ pK x = 45))], (K0, M)) = _
      rw [e_X7_added_20, bi_t ⟨g, k45⟩, if_neg (by decide), if_pos (show og K0 7 107 24 = true from rfl), hw, k45, if_pos (fun z => absurd ((i_cmp_0 _ _).mp z) (by decide)), if_pos rg1, a1, Option.bind_some]
      show vr sc (d + 4) c_X7_added (44, [(2, 107), (0, v), (0, 0), q3], [], (K0, M1)) = _
      rw [e_X7_added_44, if_pos rg1, b1, Option.bind_some]
      show vr sc (d + 4) c_X7_added (48, [(2, 107), (0, v), (0, 0), q3], [(0, w)], (K0, M2)) = _
      rw [e_X7_added_48, if_pos rfl]
      rfl
