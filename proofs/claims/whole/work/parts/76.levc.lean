/-! the class's reading of a text, simulated -/
theorem add_q {sc : dS} {d : Nat} {o : Int} {b : List Int} {M : dM} {x : Ps} (ho : isX o) (h : CQ o b M x) (k v : Int) : ∃ M' : dM, vc sc (d + 1) 50 [(2, o), (0, k), (0, v)] (K0, M) = some ([], (K0, M')) ∧ CQ o b M' (emt k v x) ∧ RF o M M' := by
  rw [vc_s (md := m_X4_add) (L := [(2, o), (0, k), (0, v)]) rfl (Nat.le_of_ble_eq_true rfl) rfl]
  show ∃ M', vr sc d c_X4_add (0, [(2, o), (0, k), (0, v)], [], (K0, M)) = _ ∧ _
  obtain ⟨kk, ob⟩ := isX_k ho
  have xs := isX_s h.1.1 ho
  have g : ∀ j : Nat, j < 4 → og K0 4 o j = true := fun j hj => og_of kk.1 (by decide) hj
  have ht := h.2.2.2.1
  have hl := h.2.2.2.2
  rw [e_X4_add_0, if_pos (g 3 (by decide)), ht.1, if_neg (by omega), if_pos (g 3 (by decide))]
  by_cases p : 160 ≤ (pC x).length
  · rw [if_pos (by omega)]
    refine ⟨M, rfl, ?_, RF.rf _ _⟩
    have e : emt k v x = x := by
      unfold emt
      rw [if_neg (by omega)]
      rfl
    rw [e]
    exact h
  · have p1 : M o 3 = ((pC x).length : Int) := ht.1
    have s1 : (d_up M (o + 1) ((pC x).length : Int) k) o 1 = o + 2 := by rw [d_up_n1 _ (by omega)]; exact xs.2.1
    have s2 : (d_up M (o + 1) ((pC x).length : Int) k) o 3 = ((pC x).length : Int) := by rw [d_up_n1 _ (by omega)]; exact p1
    have s3 : (d_up (d_up M (o + 1) ((pC x).length : Int) k) (o + 2) ((pC x).length : Int) v) o 3 = ((pC x).length : Int) := by rw [d_up_n1 _ (by omega)]; exact s2
    rw [if_neg (by omega), if_pos (g 0 (by decide)), if_pos (g 3 (by decide)), xs.1, if_pos (ag_of kk.2.1 (by omega) (by omega)), if_pos (g 1 (by decide)), if_pos (g 3 (by decide)), s1, s2, if_pos (ag_of kk.2.2.1 (by omega) (by omega)), if_pos (g 3 (by decide)), if_pos (g 3 (by decide)), s3, w_s _ (by omega), if_pos ⟨by omega, by omega⟩]
    have rf : RF o M (d_up (d_up (d_up M (o + 1) ((pC x).length : Int) k) (o + 2) ((pC x).length : Int) v) o 3 (((pC x).length + 1 : Nat) : Int)) := fun y j q1 q2 q3 q4 => by
      have e1 : d_up (d_up (d_up M (o + 1) ((pC x).length : Int) k) (o + 2) ((pC x).length : Int) v) o 3 (((pC x).length + 1 : Nat) : Int) y j = d_up (d_up M (o + 1) ((pC x).length : Int) k) (o + 2) ((pC x).length : Int) v y j := if_neg (fun z => q2 z.1 z.2)
      rw [e1, d_up_n1 _ q4, d_up_n1 _ q3]
    refine ⟨_, rfl, ⟨⟨rf.sk ho h.1.1, rf.tp ho h.1.2.1, ?_⟩, ⟨?_, ?_, ?_, ?_, ?_⟩, h.2.2.1, ?_, ?_⟩, rf⟩
    · rw [d_up_n1 _ (by omega), d_up_n1 _ (by omega), d_up_n1 _ (by omega)]; exact h.1.2.2
    · rw [d_up_n1 _ (by omega), d_up_n1 _ (by omega), d_up_n1 _ (by omega)]; exact h.2.1.1
    · rw [d_up_n1 _ (by omega), d_up_n1 _ (by omega), d_up_n1 _ (by omega)]; exact h.2.1.2.1
    · rw [d_up_n1 _ (by omega), d_up_n1 _ (by omega), d_up_n1 _ (by omega)]; exact h.2.1.2.2.1
    · rw [d_up_n1 _ (by omega), d_up_n1 _ (by omega), d_up_n1 _ (by omega)]; exact h.2.1.2.2.2.1
    · rw [d_up_n1 _ (by omega), d_up_n1 _ (by omega), d_up_n1 _ (by omega)]; exact h.2.1.2.2.2.2
    · have e : pC (emt k v x) = pC x ++ [(k, v)] := by
        show (if _ then _ else _) = _
        rw [if_pos (by omega)]
      rw [e]
      refine ⟨by rw [d_up_at, List.length_append]; rfl, fun i hi => ?_⟩
      rw [List.length_append] at hi
      by_cases q : i = (pC x).length
      · subst q
        rw [d_up_n1 _ (show o + 1 ≠ o by omega), d_up_n1 _ (show o + 1 ≠ o + 2 by omega), d_up_at, d_up_n1 _ (show o + 2 ≠ o by omega), d_up_at, List.getElem_append_right (Nat.le_refl _)]
        simp
      · have hi' : i < (pC x).length := by simp at hi; omega
        rw [d_up_n1 _ (show o + 1 ≠ o by omega), d_up_n1 _ (show o + 1 ≠ o + 2 by omega), d_up_n2 _ (by omega), d_up_n1 _ (show o + 2 ≠ o by omega), d_up_n2 _ (by omega), d_up_n1 _ (show o + 2 ≠ o + 1 by omega), List.getElem_append_left hi']
        exact ht.2 i hi'
    · show (if (pC x).length < 160 then pC x ++ [(k, v)] else pC x).length ≤ 160
      rw [if_pos (by omega), List.length_append]
      simp
      omega
theorem emit_q {sc : dS} {d : Nat} {o : Int} {b : List Int} {M : dM} {x : Ps} (ho : isX o) (h : CQ o b M x) (k v : Int) : ∃ M' : dM, vc sc (d + 2) 25 [(2, 88), (0, k), (0, v)] (K0, M) = some ([], (K0, M')) ∧ CQ o b M' (emt k v x) ∧ RF o M M' := by
  rw [vc_s (md := m_X1_emit) (L := [(2, 88), (0, k), (0, v)]) rfl (Nat.le_of_ble_eq_true rfl) rfl]
  show ∃ M', vr sc (d + 1) c_X1_emit (0, [(2, 88), (0, k), (0, v)], [], (K0, M)) = _ ∧ _
  obtain ⟨kk, ob⟩ := isX_k ho
  obtain ⟨M', a1, a2, a3⟩ := add_q (sc := sc) (d := d) ho h k v
  rw [e_X1_emit_0, if_pos (show og K0 1 88 7 = true from rfl), h.1.2.2, if_pos (by omega), if_neg (by omega), if_pos (show og K0 1 88 7 = true from rfl), if_pos (rg_of kk.1), a1, Option.bind_some]
  show ∃ M', vr sc (d + 1) c_X1_emit (16, [(2, 88), (0, k), (0, v)], [], (K0, _)) = _ ∧ _
  rw [e_X1_emit_16]
  exact ⟨M', rfl, a2, a3⟩
theorem need_q {sc : dS} {d : Nat} {o : Int} {b : List Int} {M : dM} {x : Ps} (ho : isX o) (hb : b.length ≤ 160) (h : CQ o b M x) (w : Int) : ∃ M' : dM, vc sc (d + 7) 19 [(2, 88), (0, w)] (K0, M) = some ([], (K0, M')) ∧ CQ o b M' (ned b w x) ∧ RF o M M' := by
  rw [vc_s (md := m_X1_need) (L := [(2, 88), (0, w)]) rfl (Nat.le_of_ble_eq_true rfl) rfl]
  show ∃ M', vr sc (d + 6) c_X1_need (0, [(2, 88), (0, w)], [], (K0, M)) = _ ∧ _
  rw [e_X1_need_0, if_pos (show og K0 1 88 4 = true from rfl), h.2.1.1]
  unfold ned
  by_cases p : pK x = w
  · obtain ⟨M', a1, a2, a3⟩ := step_q (sc := sc) (d := d) ho hb h
    rw [if_neg (fun z => z p), if_pos (show rg K0 1 88 = true from rfl), a1, Option.bind_some, if_pos p]
    show ∃ M', vr sc (d + 6) c_X1_need (12, [(2, 88), (0, w)], [], (K0, _)) = _ ∧ _
    rw [e_X1_need_12, e_X1_need_19]
    exact ⟨M', rfl, a2, a3⟩
  · obtain ⟨M', a1, a2, a3⟩ := fail_q (sc := sc) (d := d + 5) ho hb h
    rw [if_pos p, if_pos (show rg K0 1 88 = true from rfl), a1, Option.bind_some, if_neg p]
    show ∃ M', vr sc (d + 6) c_X1_need (19, [(2, 88), (0, w)], [], (K0, _)) = _ ∧ _
    rw [e_X1_need_19]
    exact ⟨M', rfl, a2, a3⟩
theorem joins_q {sc : dS} {d : Nat} {M : dM} {r : Nat} (hr : r < 5) : vc sc (d + 1) 22 [(2, 88), (0, (r : Int))] (K0, M) = some ([(0, if jn r (M 88 4) = true then 1 else 0)], (K0, M)) := by
  rw [vc_s (md := m_X1_joins) (L := [(2, 88), (0, (r : Int))]) rfl (Nat.le_of_ble_eq_true rfl) rfl]
  show vr sc d c_X1_joins _ = _
  have g : og K0 1 88 4 = true := rfl
  rw [e_X1_joins_0]
  generalize M 88 4 = k
  rcases (show r = 0 ∨ r = 1 ∨ r = 2 ∨ r = 3 ∨ r = 4 by omega) with rfl | rfl | rfl | rfl | rfl
  · rw [if_pos (by decide), if_pos g]
    by_cases q : k = 13
    · rw [if_neg (fun z => z q), show jn 0 k = true from decide_eq_true q, if_pos rfl]
    · rw [if_pos q, show jn 0 k = false from decide_eq_false q, if_neg (by decide)]
  · rw [if_neg (by decide), if_pos (by decide), if_pos g]
    by_cases q : k = 14
    · rw [if_neg (fun z => z q), show jn 1 k = true from decide_eq_true q, if_pos rfl]
    · rw [if_pos q, show jn 1 k = false from decide_eq_false q, if_neg (by decide)]
  · rw [if_neg (by decide), if_neg (by decide), if_pos (by decide), if_pos g]
    by_cases q : k = 60
    · rw [if_pos q, show jn 2 k = true from decide_eq_true (Or.inl q), if_pos rfl]
    · rw [if_neg q, if_pos g]
      by_cases q2 : k = 61
      · rw [if_neg (fun z => z q2), show jn 2 k = true from decide_eq_true (Or.inr q2), if_pos rfl]
      · rw [if_pos q2, show jn 2 k = false from decide_eq_false (by omega), if_neg (by decide)]
  · rw [if_neg (by decide), if_neg (by decide), if_neg (by decide), if_pos (by decide), if_pos g]
    by_cases q : k = 43
    · rw [if_pos q, show jn 3 k = true from decide_eq_true (Or.inl q), if_pos rfl]
    · rw [if_neg q, if_pos g]
      by_cases q2 : k = 45
      · rw [if_neg (fun z => z q2), show jn 3 k = true from decide_eq_true (Or.inr q2), if_pos rfl]
      · rw [if_pos q2, show jn 3 k = false from decide_eq_false (by omega), if_neg (by decide)]
  · rw [if_neg (by decide), if_neg (by decide), if_neg (by decide), if_neg (by decide), if_neg (by decide), if_pos g]
    by_cases q : k = 42
    · rw [if_neg (fun z => z q), show jn 4 k = true from decide_eq_true q, if_pos rfl]
    · rw [if_pos q, show jn 4 k = false from decide_eq_false q, if_neg (by decide)]
def SimQ (sc : dS) (D : Nat) (o : Int) (b : List Int) (m : Nat) (a : List dV) (F : Ps → Ps) : Prop := ∀ (M : dM) (x : Ps), CQ o b M x → ∃ M' : dM, vc sc D m a (K0, M) = some ([], (K0, M')) ∧ CQ o b M' (F x) ∧ RF o M M'
theorem level_lp {sc : dS} {d : Nat} {o : Int} {b : List Int} (ho : isX o) (hb : b.length ≤ 160) {r p : Nat} (hr : r < 5) {F : Ps → Ps} (hF : SimQ sc (d + 6) o b 21 [(2, 88), (0, ((r + 1 : Nat) : Int)), (0, (p : Int))] F) : ∀ (k i n : Nat) (M : dM) (x : Ps) (q5 : dV), n - i = k → i ≤ n → n ≤ 160 → CQ o b M x →
    ∃ M' : dM, vr sc (d + 6) c_X1_level (55, [(2, 88), (0, (r : Int)), (0, (p : Int)), (0, (n : Int)), (0, (i : Int)), q5], [], (K0, M)) = some ([], (K0, M')) ∧ CQ o b M' (lp b F r k x) ∧ RF o M M' := by
  intro k
  induction k with
  | zero =>
    intro i n M x q5 hk hi hn h
    rw [e_X1_level_55, if_pos (by omega)]
    exact ⟨M, rfl, h, RF.rf _ _⟩
  | succ k ih =>
    intro i n M x q5 hk hi hn h
    rw [e_X1_level_55, if_neg (by omega), if_pos (show rg K0 1 88 = true from rfl), joins_q hr, Option.bind_some, h.2.1.1]
    show ∃ M', vr sc (d + 6) c_X1_level (66, [(2, 88), (0, (r : Int)), (0, (p : Int)), (0, (n : Int)), (0, (i : Int)), q5], [(0, if jn r (pK x) = true then 1 else 0)], (K0, M)) = _ ∧ _
    rw [e_X1_level_66]
    by_cases j : jn r (pK x) = true
    · rw [if_pos j, if_neg (by decide), if_pos (show og K0 1 88 4 = true from rfl), if_pos (show rg K0 1 88 = true from rfl), h.2.1.1]
      obtain ⟨M1, a1, a2, a3⟩ := step_q (sc := sc) (d := d) ho hb h
      rw [a1, Option.bind_some]
      show ∃ M', vr sc (d + 6) c_X1_level (79, [(2, 88), (0, (r : Int)), (0, (p : Int)), (0, (n : Int)), (0, (i : Int)), (0, pK x)], [], (K0, M1)) = _ ∧ _
      obtain ⟨M2, b1, b2, b3⟩ := hF M1 (stp b x) a2
      rw [e_X1_level_79, if_pos (show rg K0 1 88 = true from rfl), w_s r (by omega), b1, Option.bind_some]
      show ∃ M', vr sc (d + 6) c_X1_level (87, [(2, 88), (0, (r : Int)), (0, (p : Int)), (0, (n : Int)), (0, (i : Int)), (0, pK x)], [], (K0, M2)) = _ ∧ _
      obtain ⟨M3, c1, c2, c3⟩ := emit_q (sc := sc) (d := d + 4) ho b2 (pK x) 0
      rw [e_X1_level_87, if_pos (show rg K0 1 88 = true from rfl), c1, Option.bind_some]
      show ∃ M', vr sc (d + 6) c_X1_level (94, [(2, 88), (0, (r : Int)), (0, (p : Int)), (0, (n : Int)), (0, (i : Int)), (0, pK x)], [], (K0, M3)) = _ ∧ _
      obtain ⟨M4, d1, d2, d3⟩ := ih (i + 1) n M3 (emt (pK x) 0 (F (stp b x))) (0, pK x) (by omega) (by omega) hn c2
      rw [e_X1_level_94, w_s i (by omega), d1]
      refine ⟨M4, rfl, ?_, ((a3.tr b3).tr c3).tr d3⟩
      show CQ o b M4 (if jn r (pK x) = true then _ else _)
      rw [if_pos j]
      exact d2
    · rw [if_neg j, if_pos rfl]
      refine ⟨M, rfl, ?_, RF.rf _ _⟩
      show CQ o b M (if jn r (pK x) = true then _ else _)
      rw [if_neg j]
      exact h
def nL (r o : Nat) : Nat := (5 - r) + 1 + 6 * (5 - o)
theorem level_q {sc : dS} {o : Int} {b : List Int} (ho : isX o) (hb : b.length ≤ 160) : ∀ n : Nat,
    (∀ (d r p : Nat), r ≤ 5 → p ≤ 5 → nL r p ≤ n → SimQ sc (d + 2 * n + 8) o b 21 [(2, 88), (0, (r : Int)), (0, (p : Int))] (lev b n r p)) ∧
    ∀ (d p : Nat), p ≤ 5 → nL 5 p ≤ n → SimQ sc (d + 2 * n + 7) o b 24 [(2, 88), (0, (p : Int))] (lev b n 5 p) := by
  intro n
  induction n with
  | zero => exact ⟨fun d r p _ _ h => by unfold nL at h; omega, fun d p _ h => by unfold nL at h; omega⟩
  | succ n ih =>
    obtain ⟨ihA, ihB⟩ := ih
    have hB : ∀ (d p : Nat), p ≤ 5 → nL 5 p ≤ n + 1 → SimQ sc (d + 2 * (n + 1) + 7) o b 24 [(2, 88), (0, (p : Int))] (lev b (n + 1) 5 p) := by
      intro d p hp hn M x h
      unfold nL at hn
      rw [show d + 2 * (n + 1) + 7 = (d + 2 * n + 8) + 1 by omega, vc_s (md := m_X1_single) (L := [(2, 88), (0, (p : Int))]) rfl (Nat.le_of_ble_eq_true rfl) rfl]
      show ∃ M', vr sc (d + 2 * n + 8) c_X1_single (0, [(2, 88), (0, (p : Int))], [], (K0, M)) = _ ∧ _
      have hk := h.2.1.1
      have g4 : og K0 1 88 4 = true := rfl
      have rg1 : rg K0 1 88 = true := rfl
      have eL : lev b (n + 1) 5 p x = if pK x = 2 ∨ pK x = 3 then stp b (emt (pK x) (pV x) x) else if pK x = 45 ∧ p < 5 then emt 4 0 (lev b n 5 (p + 1) (stp b x)) else if pK x = 40 ∧ p < 5 then ned b 41 (lev b n 0 (p + 1) (stp b x)) else fai x := by
        show (if 5 ≤ 5 then _ else _) = _
        rw [if_pos (Nat.le_refl _)]
      have hs1 : (pK x = 2 ∨ pK x = 3) → ∃ M' : dM, ((vc sc (d + 2 * n + 8) 25 [(2, 88), (0, M 88 4), (0, M 88 5)] (K0, M)).bind fun r => vr sc (d + 2 * n + 8) c_X1_single (28, [(2, 88), (0, (p : Int))], r.1 ++ [], r.2)) = some ([], (K0, M')) ∧ CQ o b M' (stp b (emt (pK x) (pV x) x)) ∧ RF o M M' := by
        intro z
        obtain ⟨M1, a1, a2, a3⟩ := emit_q (sc := sc) (d := d + 2 * n + 6) ho h (pK x) (pV x)
        rw [hk, h.2.1.2.1 z, a1, Option.bind_some]
        show ∃ M', vr sc (d + 2 * n + 8) c_X1_single (28, [(2, 88), (0, (p : Int))], [], (K0, M1)) = _ ∧ _
        obtain ⟨M2, b1, b2, b3⟩ := step_q (sc := sc) (d := d + 2 * n + 2) ho hb a2
        rw [e_X1_single_28, if_pos rg1, b1, Option.bind_some]
        show ∃ M', vr sc (d + 2 * n + 8) c_X1_single (32, [(2, 88), (0, (p : Int))], [], (K0, M2)) = _ ∧ _
        rw [e_X1_single_32, e_X1_single_108]
        exact ⟨M2, rfl, b2, a3.tr b3⟩
      have hfail : ∃ M' : dM, ((vc sc (d + 2 * n + 8) 20 [(2, 88)] (K0, M)).bind fun r => vr sc (d + 2 * n + 8) c_X1_single (108, [(2, 88), (0, (p : Int))], r.1 ++ [], r.2)) = some ([], (K0, M')) ∧ CQ o b M' (fai x) ∧ RF o M M' := by
        obtain ⟨M1, a1, a2, a3⟩ := fail_q (sc := sc) (d := d + 2 * n + 7) ho hb h
        rw [a1, Option.bind_some]
        show ∃ M', vr sc (d + 2 * n + 8) c_X1_single (108, [(2, 88), (0, (p : Int))], [], (K0, M1)) = _ ∧ _
        rw [e_X1_single_108]
        exact ⟨M1, rfl, a2, a3⟩
      have hparen : p < 5 → ∃ M' : dM, ((vc sc (d + 2 * n + 8) 26 [(2, 88)] (K0, M)).bind fun r => vr sc (d + 2 * n + 8) c_X1_single (87, [(2, 88), (0, (p : Int))], r.1 ++ [], r.2)) = some ([], (K0, M')) ∧ CQ o b M' (ned b 41 (lev b n 0 (p + 1) (stp b x))) ∧ RF o M M' := by
        intro hp5
        obtain ⟨M1, a1, a2, a3⟩ := step_q (sc := sc) (d := d + 2 * n + 2) ho hb h
        rw [a1, Option.bind_some]
        show ∃ M', vr sc (d + 2 * n + 8) c_X1_single (87, [(2, 88), (0, (p : Int))], [], (K0, M1)) = _ ∧ _
        obtain ⟨M2, b1, b2, b3⟩ := ihA d 0 (p + 1) (by omega) (by omega) (by unfold nL; omega) M1 _ a2
        rw [e_X1_single_87, if_pos rg1, w_s p (by omega), show ((0, (0 : Int)) : dV) = (0, ((0 : Nat) : Int)) from rfl, b1, Option.bind_some]
        show ∃ M', vr sc (d + 2 * n + 8) c_X1_single (95, [(2, 88), (0, (p : Int))], [], (K0, M2)) = _ ∧ _
        obtain ⟨M3, c1, c2, c3⟩ := need_q (sc := sc) (d := d + 2 * n + 1) ho hb b2 41
        rw [e_X1_single_95, if_pos rg1, c1, Option.bind_some]
        show ∃ M', vr sc (d + 2 * n + 8) c_X1_single (101, [(2, 88), (0, (p : Int))], [], (K0, M3)) = _ ∧ _
        rw [e_X1_single_101, e_X1_single_108]
        exact ⟨M3, rfl, c2, (a3.tr b3).tr c3⟩
      rw [e_X1_single_0, if_pos g4, eL]
      by_cases k2 : pK x = 2
      · rw [if_pos (by rw [hk]; exact k2), if_pos g4, if_pos (show og K0 1 88 5 = true from rfl), if_pos rg1, if_pos (Or.inl k2)]
        exact hs1 (Or.inl k2)
      rw [if_neg (by rw [hk]; exact k2), if_pos g4]
      by_cases k3 : pK x = 3
      · rw [if_neg (by rw [hk]; exact fun z => z k3), if_pos g4, if_pos (show og K0 1 88 5 = true from rfl), if_pos rg1, if_pos (Or.inr k3)]
        exact hs1 (Or.inr k3)
      rw [if_pos (by rw [hk]; exact k3), if_pos g4, if_neg (show ¬ (pK x = 2 ∨ pK x = 3) from fun z => z.elim k2 k3)]
      by_cases k45 : pK x = 45
      · rw [if_neg (by rw [hk]; exact fun z => z k45)]
        by_cases hp5 : p < 5
        · obtain ⟨M1, a1, a2, a3⟩ := step_q (sc := sc) (d := d + 2 * n + 2) ho hb h
          rw [if_neg (by omega), if_pos rg1, a1, Option.bind_some, if_pos ⟨k45, hp5⟩]
          show ∃ M', vr sc (d + 2 * n + 8) c_X1_single (53, [(2, 88), (0, (p : Int))], [], (K0, M1)) = _ ∧ _
          obtain ⟨M2, b1, b2, b3⟩ := ihB (d + 1) (p + 1) (by omega) (by unfold nL; omega) M1 _ a2
          rw [show d + 1 + 2 * n + 7 = d + 2 * n + 8 by omega] at b1
          rw [e_X1_single_53, if_pos rg1, w_s p (by omega), b1, Option.bind_some]
          show ∃ M', vr sc (d + 2 * n + 8) c_X1_single (60, [(2, 88), (0, (p : Int))], [], (K0, M2)) = _ ∧ _
          obtain ⟨M3, c1, c2, c3⟩ := emit_q (sc := sc) (d := d + 2 * n + 6) ho b2 4 0
          rw [e_X1_single_60, if_pos rg1, c1, Option.bind_some]
          show ∃ M', vr sc (d + 2 * n + 8) c_X1_single (66, [(2, 88), (0, (p : Int))], [], (K0, M3)) = _ ∧ _
          rw [e_X1_single_66, e_X1_single_108]
          exact ⟨M3, rfl, c2, (a3.tr b3).tr c3⟩
        · rw [if_pos (by omega), if_pos g4, if_pos (by rw [hk, k45]; decide), if_pos rg1, if_neg (show ¬ (pK x = 45 ∧ p < 5) from fun z => hp5 z.2), if_neg (show ¬ (pK x = 40 ∧ p < 5) from fun z => hp5 z.2)]
          exact hfail
      rw [if_pos (by rw [hk]; exact k45), if_pos g4, if_neg (show ¬ (pK x = 45 ∧ p < 5) from fun z => k45 z.1)]
      by_cases k40 : pK x = 40
      · rw [if_neg (by rw [hk]; exact fun z => z k40)]
        by_cases hp5 : p < 5
        · rw [if_neg (by omega), if_pos rg1, if_pos ⟨k40, hp5⟩]
          exact hparen hp5
        · rw [if_pos (by omega), if_pos rg1, if_neg (show ¬ (pK x = 40 ∧ p < 5) from fun z => hp5 z.2)]
          exact hfail
      · rw [if_pos (by rw [hk]; exact k40), if_pos rg1, if_neg (show ¬ (pK x = 40 ∧ p < 5) from fun z => k40 z.1)]
        exact hfail
    refine ⟨?_, hB⟩
    intro d r p hr hp hn M x h
    unfold nL at hn
    have hk := h.2.1.1
    have rg1 : rg K0 1 88 = true := rfl
    rw [show d + 2 * (n + 1) + 8 = (d + 2 * (n + 1) + 7) + 1 by omega, vc_s (md := m_X1_level) (L := [(2, 88), (0, (r : Int)), (0, (p : Int)), (3, 0), (3, 0), (3, 0)]) rfl (Nat.le_of_ble_eq_true rfl) rfl]
    show ∃ M', vr sc (d + 2 * (n + 1) + 7) c_X1_level (0, [(2, 88), (0, (r : Int)), (0, (p : Int)), (3, 0), (3, 0), (3, 0)], [], (K0, M)) = _ ∧ _
    rw [e_X1_level_0]
    by_cases r5 : r = 5
    · subst r5
      obtain ⟨M1, a1, a2, a3⟩ := hB d p hp (by unfold nL; omega) M x h
      rw [if_neg (by decide), if_pos rg1, a1, Option.bind_some]
      show ∃ M', vr sc (d + 2 * (n + 1) + 7) c_X1_level (10, [(2, 88), (0, ((5 : Nat) : Int)), (0, (p : Int)), (3, 0), (3, 0), (3, 0)], [], (K0, M1)) = _ ∧ _
      rw [e_X1_level_10]
      exact ⟨M1, rfl, a2, a3⟩
    have hr5 : r < 5 := by omega
    rw [if_pos (by omega)]
    have hsub : SimQ sc (d + 2 * (n + 1) + 7) o b 21 [(2, 88), (0, ((r + 1 : Nat) : Int)), (0, (p : Int))] (lev b n (r + 1) p) := by
      have := ihA (d + 1) (r + 1) p (by omega) hp (by unfold nL; omega)
      rw [show d + 1 + 2 * n + 8 = d + 2 * (n + 1) + 7 by omega] at this
      exact this
    have hgo : ∃ M' : dM, ((vc sc (d + 2 * (n + 1) + 7) 21 [(2, 88), (0, w32 ((r : Int) + 1)), (0, (p : Int))] (K0, M)).bind fun z => vr sc (d + 2 * (n + 1) + 7) c_X1_level (39, [(2, 88), (0, (r : Int)), (0, (p : Int)), (3, 0), (3, 0), (3, 0)], z.1 ++ [], z.2)) = some ([], (K0, M')) ∧ CQ o b M' (lp b (lev b n (r + 1) p) r (if r = 2 then 1 else 160) (lev b n (r + 1) p x)) ∧ RF o M M' := by
      obtain ⟨M1, a1, a2, a3⟩ := hsub M x h
      rw [w_s r (by omega), a1, Option.bind_some]
      show ∃ M', vr sc (d + 2 * (n + 1) + 7) c_X1_level (39, [(2, 88), (0, (r : Int)), (0, (p : Int)), (3, 0), (3, 0), (3, 0)], [], (K0, M1)) = _ ∧ _
      rw [e_X1_level_39]
      have hsub' : SimQ sc (d + 2 * n + 3 + 6) o b 21 [(2, 88), (0, ((r + 1 : Nat) : Int)), (0, (p : Int))] (lev b n (r + 1) p) := by
        rw [show d + 2 * n + 3 + 6 = d + 2 * (n + 1) + 7 by omega]
        exact hsub
      by_cases r2 : r = 2
      · obtain ⟨M2, b1, b2, b3⟩ := level_lp (sc := sc) (d := d + 2 * n + 3) ho hb hr5 hsub' 1 0 1 M1 _ (3, 0) rfl (by omega) (by omega) a2
        rw [show d + 2 * n + 3 + 6 = d + 2 * (n + 1) + 7 by omega] at b1
        rw [if_neg (by omega), if_pos r2]
        exact ⟨M2, b1, b2, a3.tr b3⟩
      · obtain ⟨M2, b1, b2, b3⟩ := level_lp (sc := sc) (d := d + 2 * n + 3) ho hb hr5 hsub' 160 0 160 M1 _ (3, 0) rfl (by omega) (by omega) a2
        rw [show d + 2 * n + 3 + 6 = d + 2 * (n + 1) + 7 by omega] at b1
        rw [if_pos (by omega), if_neg r2]
        exact ⟨M2, b1, b2, a3.tr b3⟩
    have eL : lev b (n + 1) r p x = if r = 2 ∧ pK x = 15 then (if p < 5 then emt 15 0 (lev b n 2 (p + 1) (stp b x)) else fai x) else lp b (lev b n (r + 1) p) r (if r = 2 then 1 else 160) (lev b n (r + 1) p x) := by
      show (if 5 ≤ r then _ else _) = _
      rw [if_neg (by omega)]
    rw [eL]
    by_cases r2 : r = 2
    · rw [if_neg (by omega), if_pos (show og K0 1 88 4 = true from rfl), hk]
      by_cases k15 : pK x = 15
      · rw [if_neg (fun z => z k15), if_pos rg1, if_pos ⟨r2, k15⟩, show d + 2 * (n + 1) + 7 = (d + 2 * n + 8) + 1 by omega, vc_s (md := m_X1_denial) (L := [(2, 88), (0, (p : Int))]) rfl (Nat.le_of_ble_eq_true rfl) rfl]
        show ∃ M', (vr sc (d + 2 * n + 8) c_X1_denial (0, [(2, 88), (0, (p : Int))], [], (K0, M))).bind _ = _ ∧ _
        rw [e_X1_denial_0]
        by_cases hp5 : p < 5
        · obtain ⟨M1, a1, a2, a3⟩ := step_q (sc := sc) (d := d + 2 * n + 2) ho hb h
          rw [if_pos (by omega), if_pos rg1, a1, Option.bind_some, if_pos hp5]
          show ∃ M', (vr sc (d + 2 * n + 8) c_X1_denial (14, [(2, 88), (0, (p : Int))], [], (K0, M1))).bind _ = _ ∧ _
          obtain ⟨M2, b1, b2, b3⟩ := ihA d 2 (p + 1) (by omega) (by omega) (by unfold nL; omega) M1 _ a2
          rw [e_X1_denial_14, if_pos rg1, w_s p (by omega), show ((0, (2 : Int)) : dV) = (0, ((2 : Nat) : Int)) from rfl, b1, Option.bind_some]
          show ∃ M', (vr sc (d + 2 * n + 8) c_X1_denial (22, [(2, 88), (0, (p : Int))], [], (K0, M2))).bind _ = _ ∧ _
          obtain ⟨M3, c1, c2, c3⟩ := emit_q (sc := sc) (d := d + 2 * n + 6) ho b2 15 0
          rw [e_X1_denial_22, if_pos rg1, c1, Option.bind_some]
          show ∃ M', (vr sc (d + 2 * n + 8) c_X1_denial (29, [(2, 88), (0, (p : Int))], [], (K0, M3))).bind _ = _ ∧ _
          rw [e_X1_denial_29, Option.bind_some]
          show ∃ M', vr sc (d + 2 * n + 8 + 1) c_X1_level (30, [(2, 88), (0, (r : Int)), (0, (p : Int)), (3, 0), (3, 0), (3, 0)], [], (K0, M3)) = _ ∧ _
          rw [e_X1_level_30]
          exact ⟨M3, rfl, c2, (a3.tr b3).tr c3⟩
        · obtain ⟨M1, a1, a2, a3⟩ := fail_q (sc := sc) (d := d + 2 * n + 7) ho hb h
          rw [if_neg (by omega), if_pos rg1, a1, Option.bind_some, if_neg hp5]
          show ∃ M', (vr sc (d + 2 * n + 8) c_X1_denial (9, [(2, 88), (0, (p : Int))], [], (K0, M1))).bind _ = _ ∧ _
          rw [e_X1_denial_9, Option.bind_some]
          show ∃ M', vr sc (d + 2 * n + 8 + 1) c_X1_level (30, [(2, 88), (0, (r : Int)), (0, (p : Int)), (3, 0), (3, 0), (3, 0)], [], (K0, M1)) = _ ∧ _
          rw [e_X1_level_30]
          exact ⟨M1, rfl, a2, a3⟩
      · rw [if_pos k15, if_pos rg1, if_neg (show ¬ (r = 2 ∧ pK x = 15) from fun z => k15 z.2)]
        exact hgo
    · rw [if_pos (by omega), if_pos rg1, if_neg (show ¬ (r = 2 ∧ pK x = 15) from fun z => r2 z.1)]
      exact hgo
