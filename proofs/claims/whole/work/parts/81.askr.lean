/-! the reference's questions to its token -/
def wcb (q : Nat) (k v : Int) : Bool := if q < 6 then decide (k = 3 ∧ v = (q : Int)) else decide (k = (q : Int) + 4)
theorem wcb_iff {q : Nat} {k v : Int} : wcb q k v = true ↔ wcd q k v := by
  unfold wcb wcd
  split <;> simp
theorem word_r {sc : dS} {d : Nat} {ns : Nat → Int} {t : Nat} {b : List Int} (ht : t < 6) (hb : okB b) {M : dM} {x : Ps} {op : Nat} (h : RQ ns t b M x op) {q : Nat} (hq : q < 12) : vc sc (d + 3) 131 [(2, 107), (0, (WT.getD q []).getD 0 0), (0, (WT.getD q []).getD 1 0), (0, (WT.getD q []).getD 2 0), (0, (WT.getD q []).getD 3 0), (0, (WT.getD q []).getD 4 0), (0, (WT.getD q []).getD 5 0), (0, (WT.getD q []).getD 6 0), (0, (WT.getD q []).getD 7 0)] (K0, M) = some ([(0, bi (pF x = -1 ∧ wcb q (pK x) (pV x) = true))], (K0, M)) := by
  have hno : ∀ (a0 a1 a2 a3 a4 a5 a6 a7 : Int), (¬ M 107 26 = 0 ∨ (M 107 26 = 0 ∧ ¬ M 107 22 = 1)) → vc sc (d + 3) 131 [(2, 107), (0, a0), (0, a1), (0, a2), (0, a3), (0, a4), (0, a5), (0, a6), (0, a7)] (K0, M) = some ([(0, 0)], (K0, M)) := by
    intro a0 a1 a2 a3 a4 a5 a6 a7 z
    rw [vc_s (md := m_X7_isWord) (L := [(2, 107), (0, a0), (0, a1), (0, a2), (0, a3), (0, a4), (0, a5), (0, a6), (0, a7)]) rfl (Nat.le_of_ble_eq_true rfl) rfl]
    show vr sc (d + 2) c_X7_isWord _ = _
    rw [e_X7_isWord_0, if_pos (show og K0 7 107 26 = true from rfl)]
    rcases z with z | z
    · rw [if_pos z]
    · rw [if_neg (show ¬ ¬ M 107 26 = 0 from fun y => y z.1), if_pos (show og K0 7 107 22 = true from rfl), if_pos z.2]
  by_cases g : ¬ pF x = -1
  · have k := (h.bad g).1
    rw [hno _ _ _ _ _ _ _ _ (Or.inl (by rw [k]; decide)), bi_f (fun z => g z.1)]
  have g := Classical.not_not.mp g
  obtain ⟨h26, hK⟩ := h.good g
  have h23 := hK.1
  have hk0 : wcb q (pK x) (pV x) = true → pK x = 3 ∨ 10 ≤ pK x ∧ pK x ≤ 15 := fun z => by
    have := wcb_iff.mp z
    unfold wcd at this
    split at this <;> omega
  rcases rK_tok hK with z | z | z | z | z
  · rw [hno _ _ _ _ _ _ _ _ (Or.inr ⟨h26, by rw [z.1]; decide⟩), bi_f (fun y => by have := hk0 y.2; omega)]
  · obtain ⟨h22, zr, h21, hsp, hp, ek, ev1, hlow⟩ := z
    rw [isWord_ok ht hb.1 h.1 h26 h22 h23 h21 (by omega) hp]
    refine congrArg (fun v => some ([((0 : Nat), v)], (K0, M))) (bi_iff ?_)
    have hq' := wt_ok q (List.mem_range.mpr hq)
    have hlen : (slc2 b (pS x) (pP x)).length = pP x - pS x := by unfold slc2; rw [List.length_take, List.length_drop]; omega
    have ki := wk_iff (w := slc2 b (pS x) (pP x)) hq
    rw [← ek, ← ev1] at ki
    rw [wcb_iff, ← ki]
    constructor
    · intro y
      refine ⟨g, pad_eq (fun c hc => ?_) hq'.1 (by omega) hq'.2 fun i hi => ?_⟩
      · have := of_decide_eq_true (hlow c hc)
        omega
      · rcases (show i = 0 ∨ i = 1 ∨ i = 2 ∨ i = 3 ∨ i = 4 ∨ i = 5 ∨ i = 6 ∨ i = 7 by omega) with rfl | rfl | rfl | rfl | rfl | rfl | rfl | rfl
        · exact y.2.1
        · exact y.2.2.1
        · exact y.2.2.2.1
        · exact y.2.2.2.2.1
        · exact y.2.2.2.2.2.1
        · exact y.2.2.2.2.2.2.1
        · exact y.2.2.2.2.2.2.2.1
        · exact y.2.2.2.2.2.2.2.2
    · intro y
      have e := y.2
      have l8 := hq'.2
      rw [← e, hlen] at l8
      rw [e]
      exact ⟨by omega, rfl, rfl, rfl, rfl, rfl, rfl, rfl, rfl⟩
  · rw [hno _ _ _ _ _ _ _ _ (Or.inr ⟨h26, by rw [z.1]; decide⟩), bi_f (fun y => by have := hk0 y.2; omega)]
  · rw [hno _ _ _ _ _ _ _ _ (Or.inr ⟨h26, by rw [z.1]; decide⟩), bi_f (fun y => by have := hk0 y.2; omega)]
  · rw [hno _ _ _ _ _ _ _ _ (Or.inr ⟨h26, by rw [z.1]; decide⟩), bi_f (fun y => by have := hk0 y.2; omega)]
theorem i_cmp_0 (x y : Int) : (i_cmp x y = 0) ↔ x = y := by
  unfold i_cmp
  split
  · omega
  · split <;> omega
theorem sign_r {sc : dS} {d : Nat} {ns : Nat → Int} {t : Nat} {b : List Int} {M : dM} {x : Ps} {op : Nat} (h : RQ ns t b M x op) {c : Int} (hc : 40 ≤ c) : vc sc (d + 1) 132 [(2, 107), (0, c)] (K0, M) = some ([(0, bi (pF x = -1 ∧ pK x = c))], (K0, M)) := by
  rw [vc_s (md := m_X7_isSign) (L := [(2, 107), (0, c)]) rfl (Nat.le_of_ble_eq_true rfl) rfl]
  show vr sc d c_X7_isSign _ = _
  rw [e_X7_isSign_0, if_pos (show og K0 7 107 26 = true from rfl)]
  by_cases g : ¬ pF x = -1
  · rw [if_pos (by rw [(h.bad g).1]; decide), bi_f (fun z => g z.1)]
  have g := Classical.not_not.mp g
  obtain ⟨h26, hK⟩ := h.good g
  rw [h26, if_neg (by decide), if_pos (show og K0 7 107 22 = true from rfl)]
  rcases rK_tok hK with z | z | z | z | z
  · rw [if_pos (by rw [z.1]; decide), bi_f (fun y => by have := y.2; omega)]
  · rw [if_pos (by rw [z.1]; decide), bi_f (fun y => by have := y.2; omega)]
  · rw [if_pos (by rw [z.1]; decide), bi_f (fun y => by have := y.2; omega)]
  · rw [if_neg (by rw [z.1]; decide), if_pos (show og K0 7 107 24 = true from rfl), z.2.2.2.1]
    by_cases e : pK x = c
    · rw [if_neg (fun y => y ((i_cmp_0 _ _).mpr e)), bi_t ⟨g, e⟩]
    · rw [if_pos (fun y => e ((i_cmp_0 _ _).mp y)), bi_f (fun y => e y.2)]
  · rw [if_pos (by rw [z.1]; decide), bi_f (fun y => by have := y.2; omega)]
theorem fail_r {sc : dS} {d : Nat} {ns : Nat → Int} {t : Nat} {b : List Int} (hb : okB b) {M : dM} {x : Ps} {op : Nat} (h : RQ ns t b M x op) : ∃ M' : dM, vc sc (d + 1) 129 [(2, 107)] (K0, M) = some ([], (K0, M')) ∧ RQ ns t b M' (fai x) op ∧ RN M M' := by
  rw [vc_s (md := m_X7_fail) (L := [(2, 107)]) rfl (Nat.le_of_ble_eq_true rfl) rfl]
  show ∃ M', vr sc d c_X7_fail (0, [(2, 107)], [], (K0, M)) = _ ∧ _
  rw [e_X7_fail_0, if_pos (show og K0 7 107 26 = true from rfl)]
  by_cases g : ¬ pF x = -1
  · rw [if_pos (by rw [(h.bad g).1]; decide)]
    refine ⟨M, rfl, ⟨h.1, h.2.1, h.2.2.1, h.2.2.2.1, Or.inr ?_⟩, RN.rf _⟩
    have e : pF (fai x) = pF x := if_neg g
    rw [e]
    exact ⟨g, h.bad g⟩
  have g := Classical.not_not.mp g
  obtain ⟨h26, hK⟩ := h.good g
  have hbl := hb.1
  have hsp := h.2.2.2.1
  rw [h26, if_neg (by decide), if_pos (show og K0 7 107 26 = true from rfl), if_pos (show og K0 7 107 23 = true from rfl), if_pos (show og K0 7 107 27 = true from rfl), d_up_n2 _ (show (23 : Int) ≠ 26 by decide), hK.1, if_pos ⟨by omega, by omega⟩]
  have rn : RN M (d_up (d_up M 107 26 1) 107 27 (pS x : Int)) := (RN.up (by decide) _).tr (RN.up (by decide) _)
  have e : pF (fai x) = (pS x : Int) := if_pos g
  refine ⟨_, rfl, ⟨h.1.rn rn, fun i hi => (rn 107 _ (fun _ => by omega)).trans (h.2.1 i hi), ?_, h.2.2.2.1, Or.inr ⟨by rw [e]; omega, ?_, ?_⟩⟩, rn⟩
  · rw [d_up_n2 _ (by decide), d_up_n2 _ (by decide)]; exact h.2.2.1
  · rw [d_up_n2 _ (by decide), d_up_at]
  · rw [e, d_up_at]
def nxt (k : Int) : Prop := k ≠ 0 ∧ k ≠ 1
theorem rK_here {b : List Int} {M : dM} {k v : Int} {s p : Nat} (h : rK b M k v s p) (hk : nxt k) : M 107 21 = p := by
  rcases rK_tok h with z | z | z | z | z
  · exact absurd z.2 hk.1
  · exact z.2.2.1
  · exact z.2.2.2.1
  · exact z.2.2.2.2
  · exact absurd z.2 hk.2
theorem next_q {sc : dS} {d : Nat} {ns : Nat → Int} {t : Nat} {b : List Int} (ht : t < 6) (hb : okB b) {M : dM} {x : Ps} {op : Nat} (h : RQ ns t b M x op) (g : pF x = -1) (hk : nxt (pK x)) : ∃ M' : dM, vc sc (d + 2) 128 [(2, 107)] (K0, M) = some ([], (K0, M')) ∧ RQ ns t b M' (stp b x) op ∧ RN M M' := by
  obtain ⟨h26, hK⟩ := h.good g
  have h21 := rK_here hK hk
  have hp := h.2.2.2.1.2
  obtain ⟨M', a1, a2, a3⟩ := next_r (sc := sc) (d := d) ht hb h.1 hp h21
  have gl := scn_le hp
  refine ⟨M', a1, ⟨h.1.rn a2.rn, fun i hi => (a2 107 _ (fun _ => by omega)).trans (h.2.1 i hi), (a2 107 25 (fun _ => by omega)).trans h.2.2.1, ⟨gl.1, gl.2.1⟩, Or.inl ⟨g, (a2 107 26 (fun _ => by omega)).trans h26, a3⟩⟩, a2.rn⟩
theorem opens_r {sc : dS} {d : Nat} {ns : Nat → Int} {t : Nat} {b : List Int} (ht : t < 6) (hb : okB b) {M : dM} {x : Ps} {op : Nat} (hop : op ≤ 5) (h : RQ ns t b M x op) (g : pF x = -1) (hk : nxt (pK x)) : ∃ M' : dM, vc sc (d + 3) 133 [(2, 107)] (K0, M) = some ([(0, if op < 5 then 1 else 0)], (K0, M')) ∧ RN M M' ∧ (op < 5 → RQ ns t b M' (stp b x) (op + 1)) ∧ (¬ op < 5 → RQ ns t b M' (fai x) op) := by
  rw [vc_s (md := m_X7_opens) (L := [(2, 107)]) rfl (Nat.le_of_ble_eq_true rfl) rfl]
  show ∃ M', vr sc (d + 2) c_X7_opens (0, [(2, 107)], [], (K0, M)) = _ ∧ _
  rw [e_X7_opens_0, if_pos (show og K0 7 107 25 = true from rfl), h.2.2.1]
  by_cases q : op < 5
  · rw [if_pos (by omega), if_pos (show og K0 7 107 25 = true from rfl), if_pos (show og K0 7 107 25 = true from rfl), w_s op (by omega), if_pos ⟨by omega, by omega⟩, if_pos (show rg K0 7 107 = true from rfl), if_pos q]
    have rn : RN M (d_up M 107 25 ((op + 1 : Nat) : Int)) := RN.up (by decide) _
    have h' : RQ ns t b (d_up M 107 25 ((op + 1 : Nat) : Int)) x (op + 1) := by
      obtain ⟨h26, hK⟩ := h.good g
      refine ⟨h.1.rn rn, fun i hi => (rn 107 _ (fun _ => by omega)).trans (h.2.1 i hi), d_up_at _ _ _ _, h.2.2.2.1, Or.inl ⟨g, (d_up_n2 _ (by decide)).trans h26, ?_⟩⟩
      have e : ∀ j : Int, j ≠ 25 → (d_up M 107 25 ((op + 1 : Nat) : Int)) 107 j = M 107 j := fun j z => d_up_n2 _ z
      unfold rK
      rw [e 23 (by decide), e 22 (by decide), e 21 (by decide), e 24 (by decide)]
      exact hK
    obtain ⟨M', a1, a2, a3⟩ := next_q (sc := sc) (d := d) ht hb h' g hk
    rw [a1, Option.bind_some]
    show ∃ N, vr sc (d + 2) c_X7_opens (28, [(2, 107)], [], (K0, M')) = some _ ∧ _
    rw [e_X7_opens_28]
    exact ⟨M', rfl, rn.tr a3, fun _ => a2, fun z => absurd q z⟩
  · obtain ⟨M', a1, a2, a3⟩ := fail_r (sc := sc) (d := d + 1) hb h
    rw [if_neg (by omega), if_pos (show rg K0 7 107 = true from rfl), a1, Option.bind_some, if_neg q]
    show ∃ N, vr sc (d + 2) c_X7_opens (12, [(2, 107)], [], (K0, M')) = some _ ∧ _
    rw [e_X7_opens_12]
    exact ⟨M', rfl, a3, fun z => absurd z q, fun _ => a2⟩
theorem name_r {sc : dS} {d : Nat} {ns : Nat → Int} {t : Nat} {b : List Int} (ht : t < 6) (hb : okB b) {M : dM} {x : Ps} {op : Nat} (h : RQ ns t b M x op) (g : pF x = -1) (h22 : M 107 22 = 1) : ∃ M' : dM, ∃ v : Int, vc sc (d + 4) 134 [(2, 107)] (K0, M) = some ([(0, v)], (K0, M')) ∧ RN M M' ∧ (pK x = 3 → M' = M ∧ 0 ≤ pV x ∧ pV x < 6 ∧ v = ns (pV x).toNat) ∧ (pK x ≠ 3 → RQ ns t b M' (fai x) op) := by
  rw [vc_s (md := m_X7_name) (L := [(2, 107)]) rfl (Nat.le_of_ble_eq_true rfl) rfl]
  show ∃ M' v, vr sc (d + 3) c_X7_name (0, [(2, 107)], [], (K0, M)) = _ ∧ _
  have wr := fun (q : Nat) (hq : q < 12) => word_r (sc := sc) (d := d) ht hb h hq
  have rg1 : rg K0 7 107 = true := rfl
  have hit : ∀ q : Nat, q < 6 → wcb q (pK x) (pV x) = true → pK x = 3 ∧ pV x = (q : Int) := fun q hq z => by
    have := wcb_iff.mp z
    unfold wcd at this
    rw [if_pos hq] at this
    exact this
  have fin : ∀ q : Nat, q < 6 → wcb q (pK x) (pV x) = true → ∃ (M' : dM) (v : Int), some ([((0 : Nat), M 107 (13 + (q : Int)))], (K0, M)) = some ([(0, v)], (K0, M')) ∧ RN M M' ∧ (pK x = 3 → M' = M ∧ 0 ≤ pV x ∧ pV x < 6 ∧ v = ns (pV x).toNat) ∧ (pK x ≠ 3 → RQ ns t b M' (fai x) op) := by
    intro q hq z
    have e := hit q hq z
    refine ⟨M, _, rfl, RN.rf _, fun _ => ⟨rfl, by omega, by omega, ?_⟩, fun y => absurd e.1 y⟩
    rw [h.2.1 q hq, e.2, Int.toNat_natCast]
  have no : ∀ q : Nat, ¬ (wcb q (pK x) (pV x) = true) → ¬ (pF x = -1 ∧ wcb q (pK x) (pV x) = true) := fun q z y => z y.2
  rw [e_X7_name_0, if_pos rg1, show vc sc (d + 3) 131 [(2, 107), (0, 116), (0, 117), (0, 114), (0, 110), (0, 115), (0, 0), (0, 0), (0, 0)] (K0, M) = _ from wr 0 (by decide), Option.bind_some]
  show ∃ M' v, vr sc (d + 3) c_X7_name (17, [(2, 107)], [(0, bi (pF x = -1 ∧ wcb 0 (pK x) (pV x) = true))], (K0, M)) = _ ∧ _
  rw [e_X7_name_17]
  by_cases p0 : wcb 0 (pK x) (pV x) = true
  · rw [bi_t ⟨g, p0⟩, if_neg (by decide), if_pos (show og K0 7 107 13 = true from rfl)]
    exact fin 0 (by decide) p0
  rw [bi_f (no 0 p0), if_pos rfl, if_pos rg1, show vc sc (d + 3) 131 [(2, 107), (0, 115), (0, 107), (0, 105), (0, 108), (0, 108), (0, 0), (0, 0), (0, 0)] (K0, M) = _ from wr 1 (by decide), Option.bind_some]
  show ∃ M' v, vr sc (d + 3) c_X7_name (42, [(2, 107)], [(0, bi (pF x = -1 ∧ wcb 1 (pK x) (pV x) = true))], (K0, M)) = _ ∧ _
  rw [e_X7_name_42]
  by_cases p1 : wcb 1 (pK x) (pV x) = true
  · rw [bi_t ⟨g, p1⟩, if_neg (by decide), if_pos (show og K0 7 107 14 = true from rfl)]
    exact fin 1 (by decide) p1
  rw [bi_f (no 1 p1), if_pos rfl, if_pos rg1, show vc sc (d + 3) 131 [(2, 107), (0, 119), (0, 97), (0, 108), (0, 107), (0, 0), (0, 0), (0, 0), (0, 0)] (K0, M) = _ from wr 2 (by decide), Option.bind_some]
  show ∃ M' v, vr sc (d + 3) c_X7_name (66, [(2, 107)], [(0, bi (pF x = -1 ∧ wcb 2 (pK x) (pV x) = true))], (K0, M)) = _ ∧ _
  rw [e_X7_name_66]
  by_cases p2 : wcb 2 (pK x) (pV x) = true
  · rw [bi_t ⟨g, p2⟩, if_neg (by decide), if_pos (show og K0 7 107 15 = true from rfl)]
    exact fin 2 (by decide) p2
  rw [bi_f (no 2 p2), if_pos rfl, if_pos rg1, show vc sc (d + 3) 131 [(2, 107), (0, 119), (0, 101), (0, 116), (0, 0), (0, 0), (0, 0), (0, 0), (0, 0)] (K0, M) = _ from wr 3 (by decide), Option.bind_some]
  show ∃ M' v, vr sc (d + 3) c_X7_name (89, [(2, 107)], [(0, bi (pF x = -1 ∧ wcb 3 (pK x) (pV x) = true))], (K0, M)) = _ ∧ _
  rw [e_X7_name_89]
  by_cases p3 : wcb 3 (pK x) (pV x) = true
  · rw [bi_t ⟨g, p3⟩, if_neg (by decide), if_pos (show og K0 7 107 16 = true from rfl)]
    exact fin 3 (by decide) p3
  rw [bi_f (no 3 p3), if_pos rfl, if_pos rg1, show vc sc (d + 3) 131 [(2, 107), (0, 110), (0, 117), (0, 109), (0, 98), (0, 101), (0, 114), (0, 0), (0, 0)] (K0, M) = _ from wr 4 (by decide), Option.bind_some]
  show ∃ M' v, vr sc (d + 3) c_X7_name (115, [(2, 107)], [(0, bi (pF x = -1 ∧ wcb 4 (pK x) (pV x) = true))], (K0, M)) = _ ∧ _
  rw [e_X7_name_115]
  by_cases p4 : wcb 4 (pK x) (pV x) = true
  · rw [bi_t ⟨g, p4⟩, if_neg (by decide), if_pos (show og K0 7 107 17 = true from rfl)]
    exact fin 4 (by decide) p4
  rw [bi_f (no 4 p4), if_pos rfl, if_pos rg1, show vc sc (d + 3) 131 [(2, 107), (0, 100), (0, 97), (0, 121), (0, 0), (0, 0), (0, 0), (0, 0), (0, 0)] (K0, M) = _ from wr 5 (by decide), Option.bind_some]
  show ∃ M' v, vr sc (d + 3) c_X7_name (138, [(2, 107)], [(0, bi (pF x = -1 ∧ wcb 5 (pK x) (pV x) = true))], (K0, M)) = _ ∧ _
  rw [e_X7_name_138]
  by_cases p5 : wcb 5 (pK x) (pV x) = true
  · rw [bi_t ⟨g, p5⟩, if_neg (by decide), if_pos (show og K0 7 107 18 = true from rfl)]
    exact fin 5 (by decide) p5
  obtain ⟨M', a1, a2, a3⟩ := fail_r (sc := sc) (d := d + 2) hb h
  rw [bi_f (no 5 p5), if_pos rfl, if_pos rg1, a1, Option.bind_some]
  show ∃ M' v, vr sc (d + 3) c_X7_name (150, [(2, 107)], [], (K0, _)) = _ ∧ _
  rw [e_X7_name_150]
  refine ⟨M', 0, rfl, a3, fun z => ?_, fun _ => a2⟩
  exfalso
  obtain ⟨h26, hK⟩ := h.good g
  rcases rK_tok hK with y | y | y | y | y
  · omega
  · have hw : ∀ q : Nat, q < 6 → ¬ pV x = (q : Int) := fun q hq e => by
      have : wcb q (pK x) (pV x) = true := wcb_iff.mpr (by unfold wcd; rw [if_pos hq]; exact ⟨z, e⟩)
      rcases (show q = 0 ∨ q = 1 ∨ q = 2 ∨ q = 3 ∨ q = 4 ∨ q = 5 by omega) with rfl | rfl | rfl | rfl | rfl | rfl
      · exact p0 this
      · exact p1 this
      · exact p2 this
      · exact p3 this
      · exact p4 this
      · exact p5 this
    have e1 := y.2.2.2.2.2.1
    have e2 := y.2.2.2.2.2.2.1
    unfold wk at e1 e2
    cases hf : wfind (slc2 b (pS x) (pP x)) WT 0 with
    | none => rw [hf] at e1; dsimp only at e1; omega
    | some r =>
      rw [hf] at e1 e2
      dsimp only at e1 e2
      by_cases r6 : r < 6
      · exact hw r r6 e2
      · rw [if_neg r6] at e1; omega
  · omega
  · omega
  · omega
