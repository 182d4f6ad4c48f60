/-! rows drawn from a seed, both sides -/
def dz (z : Int) : Int := w32 (w32 (z * 1103515245) + 12345)
def drl : Nat → Int → List Int
  | 0, _ => []
  | m + 1, z => w32 ((i_ushr (dz z) 9).tmod 4) :: drl m (dz z)
theorem drl_len : ∀ (m : Nat) (z : Int), (drl m z).length = m := by
  intro m
  induction m with
  | zero => intro z; rfl
  | succ m ih => intro z; unfold drl; rw [List.length_cons, ih]
def drawnN (n : Nat) (z : Int) : Int := ((pul (redl (drl n z))).length : Int)
theorem drawn_loop {sc : dS} {d : Nat} {v1 : Int} {n : Nat} (hn : n ≤ 12) : ∀ (m i : Nat) (z : Int) (acc : List Int) (M : dM), n - i = m → i ≤ n → acc.length = i → Sk M → KV 95 1 96 M acc →
    ∃ M' : dM, vr sc (d + 4) c_X6_turnsDrawn (13, [(2, 0), (0, v1), (0, (n : Int)), (0, z), (0, (i : Int))], [], (K0, M)) = some ([(0, ((pul (redl (acc ++ drl m z))).length : Int))], (K0, M')) ∧ Fr M M' := by
  intro m
  induction m with
  | zero =>
    intro i z acc M hm hi ha hs hk
    have c1 : (n : Int) ≤ i := by omega
    obtain ⟨M1, a1, a2⟩ := turns_ok (sc := sc) (d := d) isK_95 hs (by omega) hk
    rw [e_X6_turnsDrawn_13, if_pos c1, if_pos (show og K0 6 0 4 = true from rfl), if_pos (show og K0 6 0 9 = true from rfl), Sk_04 hs, Sk_09 hs, if_pos (show rg K0 2 58 = true from rfl), a1, Option.bind_some]
    show ∃ M', vr sc (d + 4) c_X6_turnsDrawn (59, [(2, 0), (0, v1), (0, (n : Int)), (0, z), (0, (i : Int))], [(0, _)], (K0, M1)) = _ ∧ _
    rw [e_X6_turnsDrawn_59, show acc ++ drl 0 z = acc from List.append_nil acc]
    exact ⟨M1, rfl, a2.s62⟩
  | succ m ih =>
    intro i z acc M hm hi ha hs hk
    have c1 : ¬ (n : Int) ≤ i := by omega
    obtain ⟨M1, a1, a2, a3⟩ := put_ok (sc := sc) (d := d + 3) isK_95 hs (by omega) hk (w32 ((i_ushr (dz z) 9).tmod 4))
    unfold dz at a1
    rw [e_X6_turnsDrawn_13, if_neg c1, if_pos (show og K0 6 0 9 = true from rfl), Sk_09 hs, if_pos (rg_kn isK_95), a1, Option.bind_some]
    show ∃ M', vr sc (d + 4) c_X6_turnsDrawn (42, [(2, 0), (0, v1), (0, (n : Int)), (0, dz z), (0, (i : Int))], [], (K0, M1)) = _ ∧ _
    rw [e_X6_turnsDrawn_42, w_s i (by omega)]
    obtain ⟨M', g1, g2⟩ := ih (i + 1) (dz z) (acc ++ [w32 ((i_ushr (dz z) 9).tmod 4)]) M1 (by omega) (by omega) (by rw [List.length_append, List.length_singleton, ha]) (a2.s95.sk hs) a3
    rw [List.append_assoc] at g1
    exact ⟨M', g1, a2.s95.tr g2⟩
theorem turnsDrawn_ok {sc : dS} {d : Nat} {M : dM} (hs : Sk M) {z : Int} {n : Nat} (hn : n ≤ 12) : ∃ M' : dM, vc sc (d + 5) 95 [(2, 0), (0, z), (0, (n : Int))] (K0, M) = some ([(0, drawnN n z)], (K0, M')) ∧ Fr M M' := by
  rw [vc_s (md := m_X6_turnsDrawn) (L := [(2, 0), (0, z), (0, (n : Int)), (3, 0), (3, 0)]) rfl (Nat.le_of_ble_eq_true rfl) rfl]
  show ∃ M', vr sc (d + 4) c_X6_turnsDrawn (0, [(2, 0), (0, z), (0, (n : Int)), (3, 0), (3, 0)], [], (K0, M)) = _ ∧ _
  have hw : WF 95 1 96 M (d_up M 95 1 0) := WF.sz _ _ _ _ _
  rw [e_X6_turnsDrawn_0, if_pos (show og K0 6 0 9 = true from rfl), Sk_09 hs, if_pos (og_kn isK_95 (by decide)), if_pos ⟨by omega, by omega⟩]
  obtain ⟨M', g1, g2⟩ := drawn_loop (sc := sc) (d := d) (v1 := z) hn n 0 z [] (d_up M 95 1 0) rfl (by omega) rfl (hw.s95.sk hs) ⟨by rw [d_up_at]; rfl, rfl⟩
  exact ⟨M', g1, hw.s95.tr g2⟩
theorem sizes_loop {sc : dS} {d : Nat} {v1 : Int} {n : Nat} (hn : n ≤ 12) : ∀ (m i : Nat) (z : Int) (acc : List Int) (M : dM), n - i = m → i ≤ n → acc.length = i → Sk M → M 107 29 = n → (∀ (j : Nat) (h : j < acc.length), M 114 j = acc[j]) →
    ∃ M' : dM, vr sc (d + 4) c_X7_sizeDrawn (10, [(2, 107), (0, v1), (0, (n : Int)), (0, z), (0, (i : Int))], [], (K0, M)) = some ([(0, ((pul (redl (acc ++ drl m z))).length : Int))], (K0, M')) ∧ Fr M M' := by
  intro m
  induction m with
  | zero =>
    intro i z acc M hm hi ha hs hM hk
    have c1 : (n : Int) ≤ i := by omega
    have kv : KV 107 29 114 M acc := ⟨by rw [hM, ha]; omega, lst_of hk⟩
    obtain ⟨M1, a1, a2, _⟩ := pulledSize_ok (sc := sc) (d := d) hs (by omega) kv
    rw [e_X7_sizeDrawn_10, if_pos c1, if_pos (show rg K0 7 107 = true from rfl), a1, Option.bind_some]
    show ∃ M', vr sc (d + 4) c_X7_sizeDrawn (49, [(2, 107), (0, v1), (0, (n : Int)), (0, z), (0, (i : Int))], [(0, _)], (K0, M1)) = _ ∧ _
    rw [e_X7_sizeDrawn_49, show acc ++ drl 0 z = acc from List.append_nil acc]
    exact ⟨M1, rfl, a2.s107⟩
  | succ m ih =>
    intro i z acc M hm hi ha hs hM hk
    have c1 : ¬ (n : Int) ≤ i := by omega
    have hw : WF 107 29 114 M (d_up M 114 i (w32 ((i_ushr (dz z) 9).tmod 4))) := WF.row _ _ _ _ _ _
    rw [e_X7_sizeDrawn_10, if_neg c1, if_pos (show og K0 7 107 28 = true from rfl), Sk_m28 hs, if_pos (ag_wd (by omega) (by omega)), w_s i (by omega)]
    obtain ⟨M', g1, g2⟩ := ih (i + 1) (dz z) (acc ++ [w32 ((i_ushr (dz z) 9).tmod 4)]) (d_up M 114 i (w32 ((i_ushr (dz z) 9).tmod 4))) (by omega) (by omega) (by rw [List.length_append, List.length_singleton, ha]) (hw.s107.sk hs) (by rw [d_up_n1 _ (by decide)]; exact hM) (fun j hj => by
      rw [List.length_append, List.length_singleton] at hj
      by_cases q : j < acc.length
      · rw [d_up_n2 _ (by omega), List.getElem_append_left q]; exact hk j q
      · have e : j = i := by omega
        subst e
        rw [d_up_at, List.getElem_append_right (by omega)]
        simp [ha])
    rw [List.append_assoc] at g1
    exact ⟨M', g1, hw.s107.tr g2⟩
theorem sizeDrawn_ok {sc : dS} {d : Nat} {M : dM} (hs : Sk M) {z : Int} {n : Nat} (hn : n ≤ 12) : ∃ M' : dM, vc sc (d + 5) 190 [(2, 107), (0, z), (0, (n : Int))] (K0, M) = some ([(0, drawnN n z)], (K0, M')) ∧ Fr M M' := by
  rw [vc_s (md := m_X7_sizeDrawn) (L := [(2, 107), (0, z), (0, (n : Int)), (3, 0), (3, 0)]) rfl (Nat.le_of_ble_eq_true rfl) rfl]
  show ∃ M', vr sc (d + 4) c_X7_sizeDrawn (0, [(2, 107), (0, z), (0, (n : Int)), (3, 0), (3, 0)], [], (K0, M)) = _ ∧ _
  have hw : WF 107 29 114 M (d_up M 107 29 (n : Int)) := WF.sz _ _ _ _ _
  rw [e_X7_sizeDrawn_0, if_pos (show og K0 7 107 29 = true from rfl), if_pos ⟨by omega, by omega⟩]
  obtain ⟨M', g1, g2⟩ := sizes_loop (sc := sc) (d := d) (v1 := z) hn n 0 z [] (d_up M 107 29 (n : Int)) rfl (by omega) rfl (hw.s107.sk hs) (d_up_at _ _ _ _) (fun j hj => absurd hj (Nat.not_lt_zero _))
  exact ⟨M', g1, hw.s107.tr g2⟩
