/-! spelt rows, both sides -/
def dig (way : Int) (m : Nat) : Int := i_and (i_shr way (w32 (2 * (m : Int)))) 3
def sp (way : Int) : Nat → List Int → List Int
  | 0, acc => acc
  | m + 1, acc => sp way m (acc ++ [dig way m])
def tcl : Nat → Int → List Int
  | 0, _ => []
  | m + 1, left => tcl m (w32 (left.tdiv 4)) ++ [w32 (left.tmod 4)]
theorem tcl_len : ∀ (m : Nat) (left : Int), (tcl m left).length = m := by
  intro m
  induction m with
  | zero => intro left; rfl
  | succ m ih => intro left; unfold tcl; rw [List.length_append, ih]; rfl
theorem sp_tcl : ∀ n ∈ List.range 5, ∀ w ∈ List.range (4 ^ n), sp ((w : Nat) : Int) n [] = tcl n ((w : Nat) : Int) ∧ (tcl n ((w : Nat) : Int)).all (fun y => CL4.elem y) = true := by decide +kernel
theorem spell_loop {sc : dS} {d : Nat} {r : Int} (hr : isK r) {way vn : Int} : ∀ (m : Nat) (x : Int) (acc : List Int) (M : dM), x = (m : Int) - 1 → m + acc.length ≤ 12 → Sk M → KV r 1 (r + 1) M acc →
    ∃ M' : dM, vr sc (d + 1) c_X0_spell (9, [(2, r), (0, way), (0, vn), (0, x)], [], (K0, M)) = some ([], (K0, M')) ∧ WF r 1 (r + 1) M M' ∧ KV r 1 (r + 1) M' (sp way m acc) := by
  intro m
  induction m with
  | zero =>
    intro x acc M hx hl hs hk
    have c1 : x < 0 := by omega
    rw [e_X0_spell_9, if_pos c1]
    exact ⟨M, rfl, WF.rf _ _ _ _, hk⟩
  | succ m ih =>
    intro x acc M hx hl hs hk
    have hx' : x = (m : Int) := by omega
    subst hx'
    have c1 : ¬ (m : Int) < 0 := by omega
    obtain ⟨M1, a1, a2, a3⟩ := put_ok (sc := sc) (d := d) hr hs (by omega) hk (dig way m)
    unfold dig at a1
    rw [e_X0_spell_9, if_neg c1, if_pos (rg_kn hr), a1, Option.bind_some]
    show ∃ M', vr sc (d + 1) c_X0_spell (24, [(2, r), (0, way), (0, vn), (0, (m : Int))], [], (K0, M1)) = _ ∧ _
    rw [e_X0_spell_24, show w32 ((m : Int) + (-1)) = (m : Int) - 1 from w32_e (by omega) (by omega) (by omega)]
    obtain ⟨M', g1, g2, g3⟩ := ih ((m : Int) - 1) (acc ++ [dig way m]) M1 rfl (by rw [List.length_append, List.length_singleton]; omega) (a2.sk (Wok_kn hr) hs) a3
    exact ⟨M', g1, a2.tr g2, g3⟩
theorem spell_ok {sc : dS} {d : Nat} {r : Int} (hr : isK r) {M : dM} (hs : Sk M) {way : Int} {n : Nat} (hn : n ≤ 12) : ∃ M' : dM, vc sc (d + 2) 3 [(2, r), (0, way), (0, (n : Int))] (K0, M) = some ([], (K0, M')) ∧ WF r 1 (r + 1) M M' ∧ KV r 1 (r + 1) M' (sp way n []) := by
  rw [vc_s (md := m_X0_spell) (L := [(2, r), (0, way), (0, (n : Int)), (3, 0)]) rfl (Nat.le_of_ble_eq_true rfl) rfl]
  show ∃ M', vr sc (d + 1) c_X0_spell (0, [(2, r), (0, way), (0, (n : Int)), (3, 0)], [], (K0, M)) = _ ∧ _
  have hw : WF r 1 (r + 1) M (d_up M r 1 0) := WF.sz _ _ _ _ _
  rw [e_X0_spell_0, if_pos (og_kn hr (by decide)), if_pos ⟨by omega, by omega⟩]
  obtain ⟨M', g1, g2, g3⟩ := spell_loop (sc := sc) (d := d) (way := way) (vn := (n : Int)) hr n (w32 ((n : Int) - 1)) [] (d_up M r 1 0) (w32_e rfl (by omega) (by omega)) (by rw [List.length_nil]; omega) (hw.sk (Wok_kn hr) hs) ⟨by rw [d_up_at]; rfl, rfl⟩
  exact ⟨M', g1, hw.tr g2, g3⟩
theorem code_loop {sc : dS} {d : Nat} {code vn : Int} : ∀ (m : Nat) (x left : Int) (M : dM), x = (m : Int) - 1 → m ≤ 12 → Sk M →
    ∃ M' : dM, vr sc d c_X7_takesCode (12, [(2, 107), (0, code), (0, vn), (0, x), (0, left)], [], (K0, M)) = some ([], (K0, M')) ∧ (∀ a k : Int, a ≠ 114 → M' a k = M a k) ∧ (∀ j : Int, (m : Int) ≤ j → M' 114 j = M 114 j) ∧ ∀ (j : Nat) (h : j < (tcl m left).length), M' 114 j = (tcl m left)[j] := by
  intro m
  induction m with
  | zero =>
    intro x left M hx hl hs
    have c1 : x < 0 := by omega
    rw [e_X7_takesCode_12, if_pos c1]
    exact ⟨M, rfl, fun _ _ _ => rfl, fun _ _ => rfl, fun j h => absurd h (by rw [tcl_len]; omega)⟩
  | succ m ih =>
    intro x left M hx hl hs
    have hx' : x = (m : Int) := by omega
    subst hx'
    have c1 : ¬ (m : Int) < 0 := by omega
    rw [e_X7_takesCode_12, if_neg c1, if_pos (show og K0 7 107 28 = true from rfl), Sk_m28 hs, if_pos (ag_wd (by omega) (by omega)), show w32 ((m : Int) + (-1)) = (m : Int) - 1 from w32_e (by omega) (by omega) (by omega)]
    obtain ⟨M', g1, g2, g3, g4⟩ := ih ((m : Int) - 1) (w32 (left.tdiv 4)) (d_up M 114 m (w32 (left.tmod 4))) rfl (by omega) ((WF.row 107 29 114 _ _ _).sk Wok_wd hs)
    refine ⟨M', g1, fun a k h => (g2 a k h).trans (d_up_n1 _ h), fun j h => (g3 j (by omega)).trans (d_up_n2 _ (by omega)), fun j h => ?_⟩
    have e : (tcl (m + 1) left)[j]? = some (M' 114 j) := by
      rw [show tcl (m + 1) left = tcl m (w32 (left.tdiv 4)) ++ [w32 (left.tmod 4)] from rfl]
      rw [tcl_len] at h
      by_cases q : j < m
      · rw [List.getElem?_append_left (by rw [tcl_len]; exact q), List.getElem?_eq_getElem (by rw [tcl_len]; exact q), g4 j (by rw [tcl_len]; exact q)]
      · have hj : j = m := by omega
        subst hj
        rw [List.getElem?_append_right (by rw [tcl_len]; omega), tcl_len, Nat.sub_self, g3 j (by omega), d_up_at]
        rfl
    rw [List.getElem?_eq_getElem h] at e
    exact (Option.some.inj e).symm
theorem takesCode_ok {sc : dS} {d : Nat} {M : dM} (hs : Sk M) {code : Int} {n : Nat} (hn : n ≤ 12) : ∃ M' : dM, vc sc (d + 1) 181 [(2, 107), (0, code), (0, (n : Int))] (K0, M) = some ([], (K0, M')) ∧ WF 107 29 114 M M' ∧ KV 107 29 114 M' (tcl n code) := by
  rw [vc_s (md := m_X7_takesCode) (L := [(2, 107), (0, code), (0, (n : Int)), (3, 0), (3, 0)]) rfl (Nat.le_of_ble_eq_true rfl) rfl]
  show ∃ M', vr sc d c_X7_takesCode (0, [(2, 107), (0, code), (0, (n : Int)), (3, 0), (3, 0)], [], (K0, M)) = _ ∧ _
  have hw : WF 107 29 114 M (d_up M 107 29 (n : Int)) := WF.sz _ _ _ _ _
  rw [e_X7_takesCode_0, if_pos (show og K0 7 107 29 = true from rfl), if_pos ⟨by omega, by omega⟩]
  obtain ⟨M', g1, g2, g3, g4⟩ := code_loop (sc := sc) (d := d) (code := code) (vn := (n : Int)) n (w32 ((n : Int) - 1)) code (d_up M 107 29 (n : Int)) (w32_e rfl (by omega) (by omega)) hn (hw.sk Wok_wd hs)
  refine ⟨M', g1, fun x k h1 h2 => (g2 x k h2).trans (hw x k h1 h2), ?_, ?_⟩
  · rw [g2 107 29 (by decide), d_up_at, tcl_len]
  · exact lst_of fun j hj => g4 j hj
