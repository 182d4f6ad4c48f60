/-! the reference's token at hand, and what it is asked of it -/
def rK (b : List Int) (M : dM) (k v : Int) (s p : Nat) : Prop := M 107 23 = s ∧ ((k = 0 ∧ M 107 22 = 0) ∨ (M 107 22 = 1 ∧ M 107 21 = p ∧ s < p ∧ p ≤ b.length ∧ k = (wk (slc2 b s p)).1 ∧ v = (wk (slc2 b s p)).2 ∧ ∀ c ∈ slc2 b s p, isLow c = true) ∨ (k = 2 ∧ M 107 22 = 2 ∧ M 107 24 = v ∧ M 107 21 = p ∧ 0 ≤ v ∧ v < 10000) ∨ (isSg k = true ∧ M 107 22 = 3 ∧ M 107 24 = k ∧ M 107 21 = p) ∨ (k = 1 ∧ M 107 22 = 4))
theorem next_r {sc : dS} {d : Nat} {t : Nat} {b : List Int} (ht : t < 6) (hb : okB b) {M : dM} (h : rB t b M) {p : Nat} (hp : p ≤ b.length) (h21 : M 107 21 = p) : ∃ M' : dM, vc sc (d + 2) 128 [(2, 107)] (K0, M) = some ([], (K0, M')) ∧ LN M M' ∧ rK b M' (scn b p).1 (scn b p).2.1 (scn b p).2.2.1 (scn b p).2.2.2 := by
  have hbl := hb.1
  rw [vc_s (md := m_X7_next) (L := [(2, 107), (3, 0), (3, 0)]) rfl (Nat.le_of_ble_eq_true rfl) rfl]
  show ∃ M', vr sc (d + 1) c_X7_next (0, [(2, 107), (3, 0), (3, 0)], [], (K0, M)) = _ ∧ _
  obtain ⟨M1, a1, a2, a3, a4⟩ := next_sp (sc := sc) (d := d) ht hbl (q1 := (3, 0)) (q2 := (3, 0)) (b.length - p) p M rfl hp h h21
  rw [a1]
  have g1 := eol_ge isSp (b.drop p) p
  have g2 := eol_le isSp (b.drop p) p
  rw [List.length_drop] at g2
  unfold scn
  dsimp only
  generalize eol isSp (b.drop p) p = s at *
  have hB1 := h.rn a2.rn
  rw [e_X7_next_55, if_pos (show og K0 7 107 22 = true from rfl), if_pos (by decide)]
  by_cases c : b.length ≤ s
  · have es : s = b.length := by omega
    rw [gdx_out c, if_neg (by decide), if_pos (show og K0 7 107 22 = true from rfl), if_pos (by decide), if_pos (show og K0 7 107 20 = true from rfl), if_pos (show og K0 7 107 23 = true from rfl), d_up_n2 _ (show (20 : Int) ≠ 22 by decide), d_up_n2 _ (show (20 : Int) ≠ 22 by decide), hB1.2.2.1, if_pos ⟨by omega, by omega⟩, if_pos c]
    refine ⟨_, rfl, a2.tr (((LN.up (by decide) _).tr (LN.up (by decide) _)).tr (LN.up (by decide) _)), ?_, Or.inl ⟨rfl, ?_⟩⟩
    · rw [d_up_at, es]
    · rw [d_up_n2 _ (by decide), d_up_at]
  have hsb : s < b.length := by omega
  have lx : LN M1 (d_up M1 107 22 4) := LN.up (by decide) _
  have hB2 := hB1.rn lx.rn
  have f21 : (d_up M1 107 22 4) 107 21 = ((s : Nat) : Int) := by rw [d_up_n2 _ (by decide)]; exact a3
  have f23 : (d_up M1 107 22 4) 107 23 = ((s : Nat) : Int) := by rw [d_up_n2 _ (by decide)]; exact a4
  have f22 : (d_up M1 107 22 4) 107 22 = 4 := d_up_at _ _ _ _
  have hc0 := hb.2 b[s] (List.getElem_mem hsb)
  rw [gdx_in hsb, if_pos (by omega), in_ok, Option.bind_some, if_neg c, gdx_0 hsb]
  have a2 := a2.tr lx
  generalize d_up M1 107 22 4 = M2 at *
  show ∃ M', vr sc (d + 1) c_X7_next (92, [(2, 107), (0, b[s]), (3, 0)], [(0, bi _)], (K0, M2)) = _ ∧ _
  rw [e_X7_next_92]
  have l1 := eol_gt (P := isLow) (c := b[s]) (l := b.drop (s + 1)) (i := s)
  have d1 := eol_gt (P := isDig) (c := b[s]) (l := b.drop (s + 1)) (i := s)
  rw [← List.drop_eq_getElem_cons hsb] at l1 d1
  have l2 := eol_le isLow (b.drop s) s
  have d2 := eol_le isDig (b.drop s) s
  have l3 := eol_all isLow (b.drop s) s
  have d3 := eol_all isDig (b.drop s) s
  rw [List.length_drop] at l2 d2
  by_cases q : 97 ≤ b[s] ∧ b[s] ≤ 122
  · have ql : isLow b[s] = true := decide_eq_true q
    have l1 := l1 ql
    have lx1 : LN M2 (d_up M2 107 22 1) := LN.up (by decide) _
    rw [bi_t q, if_neg (by decide), if_pos (show og K0 7 107 22 = true from rfl), if_pos (by decide), if_pos ql]
    obtain ⟨M', b1, b2, b3, b4, b5⟩ := low_loop (sc := sc) (d := d) ht hbl (v1 := b[s]) (q2 := (3, 0)) (b.length - s) s (d_up M2 107 22 1) rfl (by omega) (hB2.rn lx1.rn) (by rw [d_up_n2 _ (by decide)]; exact f21)
    refine ⟨M', b1, a2.tr (lx1.tr b2), ?_, Or.inr (Or.inl ⟨?_, b3, l1, (show eol isLow (b.drop s) s ≤ b.length by omega), rfl, rfl, l3⟩)⟩
    · rw [b4, d_up_n2 _ (by decide)]; exact f23
    · rw [b5, d_up_at]
  have ql : isLow b[s] = false := decide_eq_false q
  rw [bi_f q, if_pos rfl, in_ok, Option.bind_some, ql, if_neg (show ¬ false = true by decide)]
  show ∃ M', vr sc (d + 1) c_X7_next (145, [(2, 107), (0, b[s]), (3, 0)], [(0, bi _)], (K0, M2)) = _ ∧ _
  rw [e_X7_next_145]
  by_cases r : 48 ≤ b[s] ∧ b[s] ≤ 57
  · have rl : isDig b[s] = true := decide_eq_true r
    have d1 := d1 rl
    have lx1 : LN M2 (d_up (d_up M2 107 22 2) 107 24 0) := (LN.up (by decide) _).tr (LN.up (by decide) _)
    rw [bi_t r, if_neg (by decide), if_pos (show og K0 7 107 22 = true from rfl), if_pos (by decide), if_pos (show og K0 7 107 24 = true from rfl), if_pos (by decide), if_pos rl]
    obtain ⟨M', b1, b2, b3, b4, b5, b6⟩ := dig_loop (sc := sc) (d := d) ht hbl (v1 := b[s]) (s := s) (b.length - s) s (d_up (d_up M2 107 22 2) 107 24 0) rfl (Nat.le_refl _) (by omega) (hB2.rn lx1.rn) (by rw [d_up_n2 _ (by decide), d_up_n2 _ (by decide)]; exact f21) (by rw [slc2_0]; intro c hc; cases hc) (by rw [d_up_at, slc2_0]; rfl)
    rw [Nat.sub_self] at b1
    refine ⟨M', b1, a2.tr (lx1.tr b2), ?_, ?_⟩
    · rw [b4, d_up_n2 _ (by decide), d_up_n2 _ (by decide)]; exact f23
    · generalize eol isDig (b.drop s) s = e at *
      have hlen : (slc2 b s e).length = e - s := by unfold slc2; rw [List.length_take, List.length_drop]; omega
      by_cases z : 4 < e - s
      · rw [if_pos z] at b5
        rw [if_pos z, if_pos z]
        exact Or.inr (Or.inr (Or.inr (Or.inr ⟨rfl, b5⟩)))
      · rw [if_neg z] at b5
        rw [if_neg z, if_neg z]
        rw [List.take_of_length_le (by omega)] at b6
        have hv := dval_lt (l := slc2 b s e) d3 (by omega)
        exact Or.inr (Or.inr (Or.inl ⟨rfl, b5, b6, b3, hv.1, hv.2⟩))
  have rl : isDig b[s] = false := decide_eq_false r
  rw [bi_f r, if_pos rfl, rl, if_neg (show ¬ false = true by decide)]
  have h300 : isSg b[s] = true → ∃ M', vr sc (d + 1) c_X7_next (300, [(2, 107), (0, b[s]), (3, 0)], [], (K0, M2)) = some ([], (K0, M')) ∧ LN M M' ∧ rK b M' (if isSg b[s] = true then b[s] else 1) 0 s (s + 1) := by
    intro g
    rw [e_X7_next_300, if_pos (show og K0 7 107 22 = true from rfl), if_pos (by decide), if_pos (show og K0 7 107 24 = true from rfl), if_pos ⟨by omega, by omega⟩, if_pos (show og K0 7 107 21 = true from rfl), if_pos (show og K0 7 107 21 = true from rfl), d_up_n2 _ (show (21 : Int) ≠ 24 by decide), d_up_n2 _ (show (21 : Int) ≠ 22 by decide), f21, w_s s (by omega), if_pos ⟨by omega, by omega⟩, if_pos g]
    refine ⟨_, rfl, a2.tr (((LN.up (by decide) _).tr (LN.up (by decide) _)).tr (LN.up (by decide) _)), ?_, Or.inr (Or.inr (Or.inr (Or.inl ⟨g, ?_, ?_, d_up_at _ _ _ _⟩)))⟩
    · rw [d_up_n2 _ (by decide), d_up_n2 _ (by decide), d_up_n2 _ (by decide)]; exact f23
    · rw [d_up_n2 _ (by decide), d_up_n2 _ (by decide), d_up_at]
    · rw [d_up_n2 _ (by decide), d_up_at]
  by_cases s1 : b[s] = 40
  · rw [if_pos s1]; exact h300 (decide_eq_true (by omega))
  rw [if_neg s1]
  by_cases s2 : b[s] = 41
  · rw [if_pos s2]; exact h300 (decide_eq_true (by omega))
  rw [if_neg s2]
  by_cases s3 : b[s] = 59
  · rw [if_pos s3]; exact h300 (decide_eq_true (by omega))
  rw [if_neg s3]
  by_cases s4 : b[s] = 43
  · rw [if_pos s4]; exact h300 (decide_eq_true (by omega))
  rw [if_neg s4]
  by_cases s5 : b[s] = 45
  · rw [if_pos s5]; exact h300 (decide_eq_true (by omega))
  rw [if_neg s5]
  by_cases s6 : b[s] = 42
  · rw [if_pos s6]; exact h300 (decide_eq_true (by omega))
  rw [if_neg s6]
  by_cases s7 : b[s] = 60
  · rw [if_pos s7]; exact h300 (decide_eq_true (by omega))
  rw [if_neg s7]
  by_cases s8 : b[s] = 61
  · rw [if_neg (fun z => z s8)]; exact h300 (decide_eq_true (by omega))
  · rw [if_pos s8, show isSg b[s] = false from decide_eq_false (by omega), if_neg (show ¬ false = true by decide)]
    exact ⟨M2, rfl, a2, f23, Or.inr (Or.inr (Or.inr (Or.inr ⟨rfl, f22⟩)))⟩
/-! words asked -/
theorem letter_ok {sc : dS} {d : Nat} {t : Nat} {b : List Int} (ht : t < 6) (hb : b.length ≤ 160) {M : dM} (h : rB t b M) {s p : Nat} (h23 : M 107 23 = s) (h21 : M 107 21 = p) (hsp : s ≤ p) (hp : p ≤ b.length) {i : Nat} (hi : i < 8) (a : Int) : vc sc (d + 2) 130 [(2, 107), (0, (i : Int)), (0, a)] (K0, M) = some ([(0, bi ((slc2 b s p).getD i 0 = a))], (K0, M)) := by
  rw [vc_s (md := m_X7_isLetter) (L := [(2, 107), (0, (i : Int)), (0, a)]) rfl (Nat.le_of_ble_eq_true rfl) rfl]
  show vr sc (d + 1) c_X7_isLetter _ = _
  have hlen : (slc2 b s p).length = p - s := by unfold slc2; rw [List.length_take, List.length_drop]; omega
  rw [e_X7_isLetter_0, if_pos (show og K0 7 107 23 = true from rfl), if_pos (show og K0 7 107 21 = true from rfl), h23, h21, w_ad s i (by omega) (by omega)]
  by_cases q : p ≤ s + i
  · rw [if_pos (by omega), show (slc2 b s p).getD i 0 = 0 by rw [List.getD_eq_getElem?_getD, List.getElem?_eq_none (by omega)]; rfl]
    by_cases z : a = 0
    · rw [if_neg (fun y => y z), bi_t z.symm]
    · rw [if_pos z, bi_f (fun y => z y.symm)]
  · have e : (slc2 b s p).getD i 0 = b[s + i]'(by omega) := by
      rw [List.getD_eq_getElem?_getD, List.getElem?_eq_getElem (by omega)]
      unfold slc2
      simp
    rw [if_neg (by omega), if_pos (show og K0 7 107 23 = true from rfl), if_pos (show rg K0 7 107 = true from rfl), byteAt_ok ht hb h, Option.bind_some, gdx_in (show s + i < b.length by omega), e]
    show vr sc (d + 1) c_X7_isLetter (23, [(2, 107), (0, (i : Int)), (0, a)], [(0, b[s + i])], (K0, M)) = _
    rw [e_X7_isLetter_23]
    by_cases z : b[s + i]'(by omega) = a
    · rw [if_neg (fun y => y z), bi_t z]
    · rw [if_pos z, bi_f z]
theorem isWord_ok {sc : dS} {d : Nat} {t : Nat} {b : List Int} (ht : t < 6) (hb : b.length ≤ 160) {M : dM} (h : rB t b M) {s p : Nat} (h26 : M 107 26 = 0) (h22 : M 107 22 = 1) (h23 : M 107 23 = s) (h21 : M 107 21 = p) (hsp : s ≤ p) (hp : p ≤ b.length) (a0 a1 a2 a3 a4 a5 a6 a7 : Int) : vc sc (d + 3) 131 [(2, 107), (0, a0), (0, a1), (0, a2), (0, a3), (0, a4), (0, a5), (0, a6), (0, a7)] (K0, M) = some ([(0, bi (p ≤ s + 8 ∧ (slc2 b s p).getD 0 0 = a0 ∧ (slc2 b s p).getD 1 0 = a1 ∧ (slc2 b s p).getD 2 0 = a2 ∧ (slc2 b s p).getD 3 0 = a3 ∧ (slc2 b s p).getD 4 0 = a4 ∧ (slc2 b s p).getD 5 0 = a5 ∧ (slc2 b s p).getD 6 0 = a6 ∧ (slc2 b s p).getD 7 0 = a7))], (K0, M)) := by
  rw [vc_s (md := m_X7_isWord) (L := [(2, 107), (0, a0), (0, a1), (0, a2), (0, a3), (0, a4), (0, a5), (0, a6), (0, a7)]) rfl (Nat.le_of_ble_eq_true rfl) rfl]
  show vr sc (d + 2) c_X7_isWord _ = _
  have lt := fun (i : Nat) (hi : i < 8) (a : Int) => letter_ok (sc := sc) (d := d) ht hb h h23 h21 hsp hp hi a
  generalize slc2 b s p = w at *
  have e8 : w32 ((s : Int) + 8) = ((s + 8 : Nat) : Int) := w32_e (by omega) (by omega) (by omega)
  rw [e_X7_isWord_0, if_pos (show og K0 7 107 26 = true from rfl), h26, if_neg (by decide), if_pos (show og K0 7 107 22 = true from rfl), h22, if_neg (by decide), if_pos (show og K0 7 107 21 = true from rfl), if_pos (show og K0 7 107 23 = true from rfl), h23, h21, e8]
  clear e8
  by_cases q : p ≤ s + 8
  · rw [if_neg (by omega), if_pos (show rg K0 7 107 = true from rfl), show vc sc (d + 2) 130 [(2, 107), (0, 0), (0, a0)] (K0, M) = _ from lt 0 (by decide) a0, Option.bind_some]
    show vr sc (d + 2) c_X7_isWord (35, [(2, 107), (0, a0), (0, a1), (0, a2), (0, a3), (0, a4), (0, a5), (0, a6), (0, a7)], [(0, bi (w.getD 0 0 = a0))], (K0, M)) = _
    rw [e_X7_isWord_35]
    by_cases z0 : ¬ w.getD 0 0 = a0
    · rw [bi_f z0, if_pos rfl, bi_f (fun y => z0 y.2.1)]
    have z0 := Classical.not_not.mp z0
    rw [bi_t z0, if_neg (by decide), if_pos (show rg K0 7 107 = true from rfl), show vc sc (d + 2) 130 [(2, 107), (0, 1), (0, a1)] (K0, M) = _ from lt 1 (by decide) a1, Option.bind_some]
    show vr sc (d + 2) c_X7_isWord (44, [(2, 107), (0, a0), (0, a1), (0, a2), (0, a3), (0, a4), (0, a5), (0, a6), (0, a7)], [(0, bi (w.getD 1 0 = a1))], (K0, M)) = _
    rw [e_X7_isWord_44]
    by_cases z1 : ¬ w.getD 1 0 = a1
    · rw [bi_f z1, if_pos rfl, bi_f (fun y => z1 y.2.2.1)]
    have z1 := Classical.not_not.mp z1
    rw [bi_t z1, if_neg (by decide), if_pos (show rg K0 7 107 = true from rfl), show vc sc (d + 2) 130 [(2, 107), (0, 2), (0, a2)] (K0, M) = _ from lt 2 (by decide) a2, Option.bind_some]
    show vr sc (d + 2) c_X7_isWord (53, [(2, 107), (0, a0), (0, a1), (0, a2), (0, a3), (0, a4), (0, a5), (0, a6), (0, a7)], [(0, bi (w.getD 2 0 = a2))], (K0, M)) = _
    rw [e_X7_isWord_53]
    by_cases z2 : ¬ w.getD 2 0 = a2
    · rw [bi_f z2, if_pos rfl, bi_f (fun y => z2 y.2.2.2.1)]
    have z2 := Classical.not_not.mp z2
    rw [bi_t z2, if_neg (by decide), if_pos (show rg K0 7 107 = true from rfl), show vc sc (d + 2) 130 [(2, 107), (0, 3), (0, a3)] (K0, M) = _ from lt 3 (by decide) a3, Option.bind_some]
    show vr sc (d + 2) c_X7_isWord (63, [(2, 107), (0, a0), (0, a1), (0, a2), (0, a3), (0, a4), (0, a5), (0, a6), (0, a7)], [(0, bi (w.getD 3 0 = a3))], (K0, M)) = _
    rw [e_X7_isWord_63]
    by_cases z3 : ¬ w.getD 3 0 = a3
    · rw [bi_f z3, if_pos rfl, bi_f (fun y => z3 y.2.2.2.2.1)]
    have z3 := Classical.not_not.mp z3
    rw [bi_t z3, if_neg (by decide), if_pos (show rg K0 7 107 = true from rfl), show vc sc (d + 2) 130 [(2, 107), (0, 4), (0, a4)] (K0, M) = _ from lt 4 (by decide) a4, Option.bind_some]
    show vr sc (d + 2) c_X7_isWord (73, [(2, 107), (0, a0), (0, a1), (0, a2), (0, a3), (0, a4), (0, a5), (0, a6), (0, a7)], [(0, bi (w.getD 4 0 = a4))], (K0, M)) = _
    rw [e_X7_isWord_73]
    by_cases z4 : ¬ w.getD 4 0 = a4
    · rw [bi_f z4, if_pos rfl, bi_f (fun y => z4 y.2.2.2.2.2.1)]
    have z4 := Classical.not_not.mp z4
    rw [bi_t z4, if_neg (by decide), if_pos (show rg K0 7 107 = true from rfl), show vc sc (d + 2) 130 [(2, 107), (0, 5), (0, a5)] (K0, M) = _ from lt 5 (by decide) a5, Option.bind_some]
    show vr sc (d + 2) c_X7_isWord (83, [(2, 107), (0, a0), (0, a1), (0, a2), (0, a3), (0, a4), (0, a5), (0, a6), (0, a7)], [(0, bi (w.getD 5 0 = a5))], (K0, M)) = _
    rw [e_X7_isWord_83]
    by_cases z5 : ¬ w.getD 5 0 = a5
    · rw [bi_f z5, if_pos rfl, bi_f (fun y => z5 y.2.2.2.2.2.2.1)]
    have z5 := Classical.not_not.mp z5
    rw [bi_t z5, if_neg (by decide), if_pos (show rg K0 7 107 = true from rfl), show vc sc (d + 2) 130 [(2, 107), (0, 6), (0, a6)] (K0, M) = _ from lt 6 (by decide) a6, Option.bind_some]
    show vr sc (d + 2) c_X7_isWord (94, [(2, 107), (0, a0), (0, a1), (0, a2), (0, a3), (0, a4), (0, a5), (0, a6), (0, a7)], [(0, bi (w.getD 6 0 = a6))], (K0, M)) = _
    rw [e_X7_isWord_94]
    by_cases z6 : ¬ w.getD 6 0 = a6
    · rw [bi_f z6, if_pos rfl, bi_f (fun y => z6 y.2.2.2.2.2.2.2.1)]
    have z6 := Classical.not_not.mp z6
    rw [bi_t z6, if_neg (by decide), if_pos (show rg K0 7 107 = true from rfl), show vc sc (d + 2) 130 [(2, 107), (0, 7), (0, a7)] (K0, M) = _ from lt 7 (by decide) a7, Option.bind_some]
    show vr sc (d + 2) c_X7_isWord (105, [(2, 107), (0, a0), (0, a1), (0, a2), (0, a3), (0, a4), (0, a5), (0, a6), (0, a7)], [(0, bi (w.getD 7 0 = a7))], (K0, M)) = _
    rw [e_X7_isWord_105]
    by_cases z7 : ¬ w.getD 7 0 = a7
    · rw [bi_f z7, if_pos rfl, bi_f (fun y => z7 y.2.2.2.2.2.2.2.2)]
    have z7 := Classical.not_not.mp z7
    rw [bi_t z7, if_neg (by decide), bi_t ⟨q, z0, z1, z2, z3, z4, z5, z6, z7⟩]
  · rw [if_pos (by omega), bi_f (fun y => q y.1)]
