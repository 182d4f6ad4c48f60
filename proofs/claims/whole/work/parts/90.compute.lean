/-! the class reckons what a text says -/
theorem okXs_text {xs : List (List Int)} {b : List Int} (h : okXs xs) (hb : okB b) : okXs (textS xs b).1 ∧ okB (textS xs b).2 := by
  have h0 : okB [] := ⟨Nat.zero_le _, fun c hc => by cases hc⟩
  unfold textS
  by_cases p : xs.length < 6
  · rw [if_pos p]
    by_cases q : pF (rd b) = -1
    · rw [if_pos q]
      refine ⟨⟨?_, fun c hc => ?_⟩, h0⟩
      · rw [List.length_append]; simp; omega
      · rcases List.mem_append.mp hc with z | z
        · exact h.2 c z
        · rw [List.mem_singleton.mp z]; exact ⟨hb, q⟩
    · rw [if_neg q]; exact ⟨h, h0⟩
  · rw [if_neg p]; exact ⟨h, hb⟩
def S61 (M M' : dM) : Prop := ∀ x k : Int, x ≠ 61 → M' x k = M x k
def SV (M : dM) (st : List Int) : Prop := lst (M 61) st.length = st.reverse
theorem SV.push {M : dM} {st : List Int} (h : SV M st) (v : Int) : SV (d_up M 61 (st.length : Int) v) (v :: st) := by
  unfold SV at h ⊢
  rw [List.length_cons, lst_s, List.reverse_cons, d_up_at, lst_cg (g := M 61) (fun j h0 h1 => d_up_n2 _ (by omega)), h]
theorem SV.top {M : dM} {a : Int} {r : List Int} (h : SV M (a :: r)) : M 61 (r.length : Int) = a ∧ SV M r := by
  unfold SV at h ⊢
  rw [List.length_cons, lst_s, List.reverse_cons] at h
  have k := List.append_inj' h rfl
  exact ⟨(List.cons.inj k.2).1, k.1⟩
theorem truth_ok {sc : dS} {d : Nat} {h : dH} {s : Int} : vc sc (d + 1) 37 [(0, s)] h = some ([(0, bi (s ≠ 0))], h) := by
  rw [vc_s (md := m_X2_truth) (L := [(0, s)]) rfl (Nat.le_of_ble_eq_true rfl) rfl]
  show vr sc d c_X2_truth (0, [(0, s)], [], (h.1, h.2)) = _
  rw [e_X2_truth_0]
  by_cases z : s = 0
  · rw [if_pos z, bi_f (fun y => y z)]
  · rw [if_neg z, bi_t z]
theorem join_ok {sc : dS} {d : Nat} {h : dH} {k x y : Int} : vc sc (d + 2) 38 [(0, k), (0, x), (0, y)] h = some ([(0, njoin k x y)], h) := by
  rw [vc_s (md := m_X2_join) (L := [(0, k), (0, x), (0, y)]) rfl (Nat.le_of_ble_eq_true rfl) rfl]
  show vr sc (d + 1) c_X2_join (0, [(0, k), (0, x), (0, y)], [], (h.1, h.2)) = _
  have t0 : vc sc (d + 1) 37 [(0, 0)] (h.1, h.2) = some ([(0, 0)], (h.1, h.2)) := truth_ok
  have t1 : vc sc (d + 1) 37 [(0, 1)] (h.1, h.2) = some ([(0, 1)], (h.1, h.2)) := truth_ok
  rw [e_X2_join_0]
  unfold njoin
  by_cases k13 : k = 13
  · rw [if_pos k13, if_pos k13]
    by_cases x0 : x = 0
    · rw [if_neg (fun z => z x0)]
      by_cases y0 : y = 0
      · rw [if_pos y0, t0, Option.bind_some]
        show vr sc (d + 1) c_X2_join (76, [(0, k), (0, x), (0, y)], [(0, 0)], (h.1, h.2)) = _
        rw [e_X2_join_76, bi_f (fun z => z.elim (fun q => q x0) (fun q => q y0))]
      · rw [if_neg y0, t1, Option.bind_some]
        show vr sc (d + 1) c_X2_join (76, [(0, k), (0, x), (0, y)], [(0, 1)], (h.1, h.2)) = _
        rw [e_X2_join_76, bi_t (Or.inr y0)]
    · rw [if_pos x0, t1, Option.bind_some]
      show vr sc (d + 1) c_X2_join (76, [(0, k), (0, x), (0, y)], [(0, 1)], (h.1, h.2)) = _
      rw [e_X2_join_76, bi_t (Or.inl x0)]
  rw [if_neg k13, if_neg k13]
  by_cases k14 : k = 14
  · rw [if_pos k14, if_pos k14]
    by_cases x0 : x = 0
    · rw [if_pos x0, t0, Option.bind_some]
      show vr sc (d + 1) c_X2_join (93, [(0, k), (0, x), (0, y)], [(0, 0)], (h.1, h.2)) = _
      rw [e_X2_join_93, bi_f (fun z => z.1 x0)]
    · rw [if_neg x0]
      by_cases y0 : y = 0
      · rw [if_pos y0, t0, Option.bind_some]
        show vr sc (d + 1) c_X2_join (93, [(0, k), (0, x), (0, y)], [(0, 0)], (h.1, h.2)) = _
        rw [e_X2_join_93, bi_f (fun z => z.2 y0)]
      · rw [if_neg y0, t1, Option.bind_some]
        show vr sc (d + 1) c_X2_join (93, [(0, k), (0, x), (0, y)], [(0, 1)], (h.1, h.2)) = _
        rw [e_X2_join_93, bi_t ⟨x0, y0⟩]
  rw [if_neg k14, if_neg k14]
  by_cases k43 : k = 43
  · rw [if_pos k43, if_neg (by omega), if_neg (by omega), if_pos k43]
  rw [if_neg k43]
  by_cases k45 : k = 45
  · rw [if_pos k45, if_neg (by omega), if_neg (by omega), if_neg k43, if_pos k45]
  rw [if_neg k45]
  by_cases k60 : k = 60
  · rw [if_pos k60, if_pos k60]
    by_cases l : y ≤ x
    · rw [if_pos l, t0, Option.bind_some]
      show vr sc (d + 1) c_X2_join (107, [(0, k), (0, x), (0, y)], [(0, 0)], (h.1, h.2)) = _
      rw [e_X2_join_107, bi_f (by omega)]
    · rw [if_neg l, t1, Option.bind_some]
      show vr sc (d + 1) c_X2_join (107, [(0, k), (0, x), (0, y)], [(0, 1)], (h.1, h.2)) = _
      rw [e_X2_join_107, bi_t (by omega)]
  rw [if_neg k60, if_neg k60]
  by_cases k61 : k = 61
  · rw [if_pos k61, if_pos k61]
    by_cases l : x = y
    · rw [if_neg (fun z => z l), t1, Option.bind_some]
      show vr sc (d + 1) c_X2_join (121, [(0, k), (0, x), (0, y)], [(0, 1)], (h.1, h.2)) = _
      rw [e_X2_join_121, bi_t l]
    · rw [if_pos l, t0, Option.bind_some]
      show vr sc (d + 1) c_X2_join (121, [(0, k), (0, x), (0, y)], [(0, 0)], (h.1, h.2)) = _
      rw [e_X2_join_121, bi_f l]
  rw [if_neg k61, if_neg k61, if_neg k43, if_neg k45]
theorem Sk_58b {M : dM} (h : Sk M) : M 58 2 = 60 ∧ M 58 3 = 61 := by
  have key : ((58, 2, 60) : Int × Int × Int) ∈ SKL ∧ (58, 3, 61) ∈ SKL := by decide +kernel
  exact ⟨h _ key.1, h _ key.2⟩
theorem ag_61 {i : Int} (h0 : 0 ≤ i) (h1 : i < 40) : ag K0 8 61 i = true := ag_of (n := 40) rfl h0 h1
theorem ag_60 {i : Int} (h0 : 0 ≤ i) (h1 : i < 6) : ag K0 8 60 i = true := ag_of (n := 6) rfl h0 h1
theorem named_ok {sc : dS} {d : Nat} {M : dM} (hs : Sk M) {ns : Nat → Int} (hn : ∀ i : Nat, i < 6 → M 60 i = ns i) (v : Int) : vc sc (d + 1) 36 [(2, 58), (0, v)] (K0, M) = some ([(0, if 0 ≤ v ∧ v < 6 then ns v.toNat else 0)], (K0, M)) := by
  rw [vc_s (md := m_X2_named) (L := [(2, 58), (0, v)]) rfl (Nat.le_of_ble_eq_true rfl) rfl]
  show vr sc d c_X2_named _ = _
  rw [e_X2_named_0]
  by_cases p : v < 0
  · rw [if_pos p, if_neg (by omega)]
  rw [if_neg p]
  by_cases q : 6 ≤ v
  · rw [if_pos q, if_neg (by omega)]
  · have e := hn v.toNat (by omega)
    rw [show ((v.toNat : Nat) : Int) = v by omega] at e
    rw [if_neg q, if_pos (show og K0 2 58 2 = true from rfl), (Sk_58b hs).1, if_pos (ag_60 (by omega) (by omega)), e, if_pos (by omega)]
theorem S61.sk {M M' : dM} (h : S61 M M') (hs : Sk M) : Sk M' := Sk_of hs fun x k hq => h x k fun z => by rw [z, isRf_cell (a := 61) (by decide +kernel)] at hq; cases hq
theorem S61.up (M : dM) (k v : Int) : S61 M (d_up M 61 k v) := fun x j h => d_up_n1 _ h
theorem compute_loop {sc : dS} {d : Nat} {o : Int} (ho : isX o) {C : List (Int × Int)} (hC : C.length ≤ 160) {ns : Nat → Int} {w e : Nat} (hw : w < 3) (he : e ≤ C.length) : ∀ (m i : Nat) (M : dM) (st : List Int) (q5 : dV), e - i = m → Sk M → TX o M C → M (o + 3) w = e → (∀ i : Nat, i < 6 → M 60 i = ns i) → st.length ≤ 40 → SV M st →
    ∃ M' : dM, vr sc (d + 2) c_X2_compute (27, [(2, 58), (2, o), (0, (w : Int)), (0, (st.length : Int)), (0, (i : Int)), q5], [], (K0, M)) = some ([(0, M' 61 0)], (K0, M')) ∧ S61 M M' ∧ SV M' (ev ns ((C.take e).drop i) st) := by
  intro m
  obtain ⟨kk, ob⟩ := isX_k ho
  have g : ∀ j : Nat, j < 4 → og K0 4 o j = true := fun j hj => og_of kk.1 (by decide) hj
  have g23 : og K0 2 58 3 = true := rfl
  induction m with
  | zero =>
    intro i M st q5 hm hs ht h3 hn hl hv
    have xs := isX_s hs ho
    rw [e_X2_compute_27, if_pos (g 2 (by decide)), xs.2.2, if_pos (ag_of kk.2.2.2 (by omega) (by omega)), h3, if_pos (by omega), if_pos g23, (Sk_58b hs).2, if_pos (ag_61 (by omega) (by omega))]
    refine ⟨M, rfl, fun _ _ _ => rfl, ?_⟩
    rw [List.drop_of_length_le (by rw [List.length_take]; omega)]
    exact hv
  | succ m ih =>
    intro i M st q5 hm hs ht h3 hn hl hv
    have xs := isX_s hs ho
    have hi : i < C.length := by omega
    have s61 := (Sk_58b hs).2
    have hgo : ∀ (M1 : dM) (st1 : List Int) (q : dV), S61 M M1 → st1.length ≤ 40 → SV M1 st1 → evs ns st C[i] = st1 → ∃ M' : dM, vr sc (d + 2) c_X2_compute (27, [(2, 58), (2, o), (0, (w : Int)), (0, (st1.length : Int)), (0, ((i + 1 : Nat) : Int)), q], [], (K0, M1)) = some ([(0, M' 61 0)], (K0, M')) ∧ S61 M M' ∧ SV M' (ev ns ((C.take e).drop i) st) := by
      intro M1 st1 q h1 hl1 hv1 he1
      obtain ⟨M', a1, a2, a3⟩ := ih (i + 1) M1 st1 q (by omega) (h1.sk hs) ⟨(h1 o 3 (by omega)).trans ht.1, fun j hj => ⟨(h1 _ _ (by omega)).trans (ht.2 j hj).1, (h1 _ _ (by omega)).trans (ht.2 j hj).2⟩⟩ ((h1 _ _ (by omega)).trans h3) (fun j hj => (h1 _ _ (by decide)).trans (hn j hj)) hl1 hv1
      refine ⟨M', a1, fun x k hx => (a2 x k hx).trans (h1 x k hx), ?_⟩
      have hlt : i < (C.take e).length := by rw [List.length_take]; omega
      rw [List.drop_eq_getElem_cons hlt, List.getElem_take]
      show SV M' (ev ns _ (evs ns st C[i]))
      rw [he1]
      exact a3
    rw [e_X2_compute_27, if_pos (g 2 (by decide)), xs.2.2, if_pos (ag_of kk.2.2.2 (by omega) (by omega)), h3, if_neg (by omega), if_pos (g 0 (by decide)), xs.1, if_pos (ag_of kk.2.1 (by omega) (by omega)), (ht.2 i hi).1, xs.2.1, s61, (ht.2 i hi).2]
    have a160 : ag K0 8 (o + 2) (i : Int) = true := ag_of kk.2.2.1 (by omega) (by omega)
    generalize hq : C[i] = q at *
    obtain ⟨k, v⟩ := q
    dsimp only at *
    by_cases k2 : k = 2
    · rw [if_pos k2]
      by_cases l40 : 40 ≤ st.length
      · rw [if_pos (by omega), w_s i (by omega)]
        refine hgo M st _ (fun _ _ _ => rfl) hl hv ?_
        unfold evs
        rw [if_pos (Or.inl k2), if_neg (by omega)]
      · rw [if_neg (by omega), if_pos g23, if_neg (fun z => z k2), if_pos (g 1 (by decide)), if_pos a160, e_X2_compute_97, if_pos (ag_61 (by omega) (by omega)), w_s _ (by omega), w_s i (by omega)]
        refine hgo (d_up M 61 (st.length : Int) v) (v :: st) _ (S61.up _ _ _) (by rw [List.length_cons]; omega) (hv.push v) ?_
        unfold evs
        rw [if_pos (Or.inl k2), if_pos (by omega), if_pos k2]
    rw [if_neg k2]
    by_cases k3 : k = 3
    · rw [if_neg (fun z => z k3)]
      by_cases l40 : 40 ≤ st.length
      · rw [if_pos (by omega), w_s i (by omega)]
        refine hgo M st _ (fun _ _ _ => rfl) hl hv ?_
        unfold evs
        rw [if_pos (Or.inr k3), if_neg (by omega)]
      · rw [if_neg (by omega), if_pos g23, if_pos k2, if_pos (g 1 (by decide)), if_pos a160, if_pos (show rg K0 2 58 = true from rfl), named_ok (d := d + 1) hs hn, Option.bind_some]
        show ∃ M', vr sc (d + 2) c_X2_compute (97, [(2, 58), (2, o), (0, (w : Int)), (0, (st.length : Int)), (0, (i : Int)), (0, k)], [(0, if 0 ≤ v ∧ v < 6 then ns v.toNat else 0), (0, (st.length : Int)), (2, 61)], (K0, M)) = _ ∧ _
        rw [e_X2_compute_97, if_pos (ag_61 (by omega) (by omega)), w_s _ (by omega), w_s i (by omega)]
        refine hgo (d_up M 61 (st.length : Int) _) (_ :: st) _ (S61.up _ _ _) (by rw [List.length_cons]; omega) (hv.push _) ?_
        unfold evs
        rw [if_pos (Or.inr k3), if_pos (by omega), if_neg k2]
    rw [if_pos k3]
    have h117 : (k = 15 ∨ k = 4) → ∃ M' : dM, vr sc (d + 2) c_X2_compute (117, [(2, 58), (2, o), (0, (w : Int)), (0, (st.length : Int)), (0, (i : Int)), (0, k)], [], (K0, M)) = some ([(0, M' 61 0)], (K0, M')) ∧ S61 M M' ∧ SV M' (ev ns ((C.take e).drop i) st) := by
      intro hk
      rw [e_X2_compute_117]
      cases st with
      | nil =>
        rw [if_pos (by simp), w_s i (by omega)]
        refine hgo M [] _ (fun _ _ _ => rfl) (by simp) hv ?_
        unfold evs
        rw [if_neg (fun z => z.elim k2 k3), if_pos hk]
      | cons a r =>
        have ht1 := hv.top
        rw [List.length_cons] at hl
        rw [if_neg (by rw [List.length_cons]; omega), if_pos g23, s61, show (((a :: r).length : Nat) : Int) = ((r.length + 1 : Nat) : Int) by rw [List.length_cons], w_p _ (by omega), ht1.1]
        by_cases k15 : k = 15
        · rw [if_neg (fun z => z k15), if_pos g23, if_pos (ag_61 (by omega) (by omega))]
          have t0 : vc sc (d + 2) 37 [(0, 0)] (K0, M) = some ([(0, 0)], (K0, M)) := truth_ok
          have t1 : vc sc (d + 2) 37 [(0, 1)] (K0, M) = some ([(0, 1)], (K0, M)) := truth_ok
          by_cases a0 : a = 0
          · rw [if_neg (fun z => z a0), t1, Option.bind_some]
            show ∃ M', vr sc (d + 2) c_X2_compute (154, [(2, 58), (2, o), (0, (w : Int)), (0, ((r.length + 1 : Nat) : Int)), (0, (i : Int)), (0, k)], [(0, 1), (0, (r.length : Int)), (2, 61)], (K0, M)) = _ ∧ _
            rw [e_X2_compute_154, if_pos (ag_61 (by omega) (by omega)), w_s i (by omega)]
            refine hgo (d_up M 61 (r.length : Int) 1) (1 :: r) _ (S61.up _ _ _) (by rw [List.length_cons]; omega) (ht1.2.push _) ?_
            unfold evs
            rw [if_neg (fun z => z.elim k2 k3), if_pos hk]
            dsimp only
            rw [if_pos k15, bi_t a0]
          · rw [if_pos a0, t0, Option.bind_some]
            show ∃ M', vr sc (d + 2) c_X2_compute (154, [(2, 58), (2, o), (0, (w : Int)), (0, ((r.length + 1 : Nat) : Int)), (0, (i : Int)), (0, k)], [(0, 0), (0, (r.length : Int)), (2, 61)], (K0, M)) = _ ∧ _
            rw [e_X2_compute_154, if_pos (ag_61 (by omega) (by omega)), w_s i (by omega)]
            refine hgo (d_up M 61 (r.length : Int) 0) (0 :: r) _ (S61.up _ _ _) (by rw [List.length_cons]; omega) (ht1.2.push _) ?_
            unfold evs
            rw [if_neg (fun z => z.elim k2 k3), if_pos hk]
            dsimp only
            rw [if_pos k15, bi_f a0]
        · rw [if_pos k15, if_pos g23, if_pos (ag_61 (by omega) (by omega)), if_pos (ag_61 (by omega) (by omega)), w_s i (by omega)]
          refine hgo (d_up M 61 (r.length : Int) (w32 (-a))) (w32 (-a) :: r) _ (S61.up _ _ _) (by rw [List.length_cons]; omega) (ht1.2.push _) ?_
          unfold evs
          rw [if_neg (fun z => z.elim k2 k3), if_pos hk]
          dsimp only
          rw [if_neg k15]
    by_cases k15 : k = 15
    · rw [if_pos k15]
      exact h117 (Or.inl k15)
    rw [if_neg k15]
    by_cases k4 : k = 4
    · rw [if_neg (fun z => z k4)]
      exact h117 (Or.inr k4)
    rw [if_pos k4]
    have hno := fun (st1 : List Int) (h : evs ns st (k, v) = st1) => h
    rcases st with _ | ⟨y, _ | ⟨x, r⟩⟩
    · rw [if_pos (by simp), w_s i (by omega)]
      refine hgo M [] _ (fun _ _ _ => rfl) (by simp) hv ?_
      unfold evs
      rw [if_neg (fun z => z.elim k2 k3), if_neg (fun z => z.elim k15 k4)]
    · rw [if_pos (by simp), w_s i (by omega)]
      refine hgo M [y] _ (fun _ _ _ => rfl) (by simp) hv ?_
      unfold evs
      rw [if_neg (fun z => z.elim k2 k3), if_neg (fun z => z.elim k15 k4)]
    · have ht1 := hv.top
      have ht2 := ht1.2.top
      rw [List.length_cons, List.length_cons] at hl
      rw [List.length_cons] at ht1
      rw [show (((y :: x :: r).length : Nat) : Int) = ((r.length + 1 + 1 : Nat) : Int) by rw [List.length_cons, List.length_cons], w_m _ (by omega), w_p _ (by omega), ht1.1, ht2.1, if_neg (by omega), if_pos g23, if_pos g23, if_pos (ag_61 (by omega) (by omega)), if_pos g23, if_pos (ag_61 (by omega) (by omega)), join_ok (d := d), Option.bind_some]
      show ∃ M', vr sc (d + 2) c_X2_compute (204, [(2, 58), (2, o), (0, (w : Int)), (0, ((r.length + 1 : Nat) : Int)), (0, (i : Int)), (0, k)], [(0, njoin k x y), (0, (r.length : Int)), (2, 61)], (K0, M)) = _ ∧ _
      rw [e_X2_compute_204, if_pos (ag_61 (by omega) (by omega)), w_s i (by omega)]
      refine hgo (d_up M 61 (r.length : Int) (njoin k x y)) (njoin k x y :: r) _ (S61.up _ _ _) (by rw [List.length_cons]; omega) (ht2.2.push _) ?_
      unfold evs
      rw [if_neg (fun z => z.elim k2 k3), if_neg (fun z => z.elim k15 k4)]
theorem en_ext (b : List Int) : en b 0 ≤ (pC (rd b)).length ∧ en b 1 ≤ (pC (rd b)).length ∧ en b 2 ≤ (pC (rd b)).length := by
  obtain ⟨c2, e2⟩ := Ext.rdp b 1 (rd1 b)
  obtain ⟨c3, e3⟩ := Ext.rdp b 2 (rd2 b)
  have f2 : pC (rd2 b) = pC (rd1 b) ++ c2 := e2
  have f3 : pC (rd3 b) = pC (rd2 b) ++ c3 := e3
  have l2 := congrArg List.length f2
  have l3 := congrArg List.length f3
  rw [List.length_append] at l2 l3
  rw [rd_pC]
  show (pC (rd1 b)).length ≤ _ ∧ (pC (rd2 b)).length ≤ _ ∧ (pC (rd3 b)).length ≤ _
  omega
theorem compute_ok {sc : dS} {d : Nat} {M : dM} (hs : Sk M) {t : Nat} (ht : t < 6) {b : List Int} (hx : cX t b M) (hC : (pC (rd b)).length ≤ 160) {ns : Nat → Int} (hn : ∀ i : Nat, i < 6 → M 60 i = ns i) {w : Nat} (hw : w < 3) {v : Int} (hv : ev ns (seg b w) [] = [v]) : ∃ M' : dM, vc sc (d + 3) 35 [(2, 58), (2, 64 + 4 * (t : Int)), (0, (w : Int))] (K0, M) = some ([(0, v)], (K0, M')) ∧ S61 M M' := by
  have ho := isX_t ht
  obtain ⟨kk, ob⟩ := isX_k ho
  obtain ⟨h0, h1, h2, h3⟩ := hx
  have el := en_ext b
  generalize hO : 64 + 4 * (t : Int) = o at *
  rw [vc_s (md := m_X2_compute) (L := [(2, 58), (2, o), (0, (w : Int)), (3, 0), (3, 0), (3, 0)]) rfl (Nat.le_of_ble_eq_true rfl) rfl]
  show ∃ M', vr sc (d + 2) c_X2_compute (0, [(2, 58), (2, o), (0, (w : Int)), (3, 0), (3, 0), (3, 0)], [], (K0, M)) = _ ∧ _
  have su : S61 M (d_up M 61 0 0) := S61.up _ _ _
  have hs' := su.sk hs
  have hT : TX o (d_up M 61 0 0) (pC (rd b)) := ⟨(su o 3 (by omega)).trans h0.1, fun j hj => ⟨(su _ _ (by omega)).trans (h0.2 j hj).1, (su _ _ (by omega)).trans (h0.2 j hj).2⟩⟩
  have hn' : ∀ i : Nat, i < 6 → (d_up M 61 0 0) 60 i = ns i := fun i hi => (su _ _ (by decide)).trans (hn i hi)
  have fin : ∀ (i e : Nat), (d_up M 61 0 0) (o + 3) (w : Int) = (e : Int) → e ≤ (pC (rd b)).length → ((pC (rd b)).take e).drop i = seg b w → ∃ M' : dM, vr sc (d + 2) c_X2_compute (27, [(2, 58), (2, o), (0, (w : Int)), (0, 0), (0, (i : Int)), (3, 0)], [], (K0, d_up M 61 0 0)) = some ([(0, v)], (K0, M')) ∧ S61 M M' := by
    intro i e he hl hsg
    obtain ⟨M', a1, a2, a3⟩ := compute_loop (sc := sc) (d := d) ho hC (ns := ns) hw hl (e - i) i (d_up M 61 0 0) [] (3, 0) rfl hs' hT he hn' (by simp) (by unfold SV; rfl)
    rw [hsg, hv] at a3
    have e1 : M' 61 0 = v := a3.top.1
    rw [e1] at a1
    exact ⟨M', a1, fun x k hx => (a2 x k hx).trans (su x k hx)⟩
  rw [e_X2_compute_0, if_pos (show og K0 2 58 3 = true from rfl), (Sk_58b hs).2, if_pos (ag_61 (by omega) (by omega))]
  rcases (show w = 0 ∨ w = 1 ∨ w = 2 by omega) with rfl | rfl | rfl
  · rw [if_neg (by decide)]
    exact fin 0 (en b 0) ((su _ _ (by omega)).trans h1) el.1 rfl
  · rw [if_pos (by decide), if_pos (og_of kk.1 (by decide) (by decide)), (isX_s hs' ho).2.2, show w32 (((1 : Nat) : Int) - 1) = 0 from rfl, if_pos (ag_of kk.2.2.2 (by omega) (by omega)), (su _ _ (by omega)).trans h1]
    exact fin (en b 0) (en b 1) ((su _ _ (by omega)).trans h2) el.2.1 rfl
  · rw [if_pos (by decide), if_pos (og_of kk.1 (by decide) (by decide)), (isX_s hs' ho).2.2, show w32 (((2 : Nat) : Int) - 1) = 1 from rfl, if_pos (ag_of kk.2.2.2 (by omega) (by omega)), (su _ _ (by omega)).trans h2]
    exact fin (en b 1) (en b 2) ((su _ _ (by omega)).trans h3) el.2.2 rfl
