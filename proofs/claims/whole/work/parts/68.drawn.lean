/-! drawn; small changes of the rule and the tape -/
def drawnF (z n : Int) : Int := if 0 ≤ n ∧ n ≤ 12 then drawnN n.toNat z else -2
theorem drawn_c {sc : dS} {d : Nat} {M : dM} (hs : Sk M) (z n : Int) : ∃ M' : dM, vc sc (d + 6) 94 [(2, 0), (0, z), (0, n)] (K0, M) = some ([(0, drawnF z n)], (K0, M')) ∧ Fr M M' := by
  rw [vc_s (md := m_X6_drawn) (L := [(2, 0), (0, z), (0, n)]) rfl (Nat.le_of_ble_eq_true rfl) rfl]
  show ∃ M', vr sc (d + 5) c_X6_drawn (0, [(2, 0), (0, z), (0, n)], [], (K0, M)) = _ ∧ _
  rw [e_X6_drawn_0, isWithin_ok, Option.bind_some]
  show ∃ M', vr sc (d + 5) c_X6_drawn (6, [(2, 0), (0, z), (0, n)], [(0, _)], (K0, M)) = _ ∧ _
  rw [e_X6_drawn_6]
  unfold drawnF
  by_cases p : ¬ (0 ≤ n ∧ n ≤ 12)
  · rw [bi_f p, if_neg (fun z => z rfl), if_neg p]
    exact ⟨M, rfl, Fr.rf _⟩
  have p := Classical.not_not.mp p
  obtain ⟨m, rfl⟩ : ∃ m : Nat, n = m := ⟨n.toNat, by omega⟩
  obtain ⟨M1, a1, a2⟩ := turnsDrawn_ok (sc := sc) (d := d) hs (z := z) (n := m) (by omega)
  rw [bi_t p, if_pos (by decide), if_pos p, if_pos (show rg K0 6 0 = true from rfl), a1, Option.bind_some]
  show ∃ M', vr sc (d + 5) c_X6_drawn (18, [(2, 0), (0, z), (0, (m : Int))], [(0, _)], (K0, M1)) = _ ∧ _
  rw [e_X6_drawn_18]
  exact ⟨M1, rfl, a2⟩
theorem drawn_r {sc : dS} {d : Nat} {M : dM} (hs : Sk M) (z n : Int) : ∃ M' : dM, vc sc (d + 6) 191 [(2, 107), (0, z), (0, n)] (K0, M) = some ([(0, drawnF z n)], (K0, M')) ∧ Fr M M' := by
  rw [vc_s (md := m_X7_drawn) (L := [(2, 107), (0, z), (0, n)]) rfl (Nat.le_of_ble_eq_true rfl) rfl]
  show ∃ M', vr sc (d + 5) c_X7_drawn (0, [(2, 107), (0, z), (0, n)], [], (K0, M)) = _ ∧ _
  rw [e_X7_drawn_0, in_ok, Option.bind_some]
  show ∃ M', vr sc (d + 5) c_X7_drawn (9, [(2, 107), (0, z), (0, n)], [(0, _)], (K0, M)) = _ ∧ _
  rw [e_X7_drawn_9]
  unfold drawnF
  by_cases p : ¬ (0 ≤ n ∧ n ≤ 12)
  · rw [bi_f p, if_pos rfl, if_neg p]
    exact ⟨M, rfl, Fr.rf _⟩
  have p := Classical.not_not.mp p
  obtain ⟨m, rfl⟩ : ∃ m : Nat, n = m := ⟨n.toNat, by omega⟩
  obtain ⟨M1, a1, a2⟩ := sizeDrawn_ok (sc := sc) (d := d) hs (z := z) (n := m) (by omega)
  rw [bi_t p, if_neg (by decide), if_pos p, if_pos (show rg K0 7 107 = true from rfl), a1, Option.bind_some]
  show ∃ M', vr sc (d + 5) c_X7_drawn (18, [(2, 107), (0, z), (0, (m : Int))], [(0, _)], (K0, M1)) = _ ∧ _
  rw [e_X7_drawn_18]
  exact ⟨M1, rfl, a2⟩
