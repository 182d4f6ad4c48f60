noncomputable def c_X7_ties1 : Nat → Option dI := d_mcode m_X7_ties1
set_option maxRecDepth 100000 in
theorem e_X7_ties1_0 {sc : dS} {d : Nat} {K : List (Nat × Nat)} {M : dM} {v0 v1 : Int} {q2 q3 q4 : dV} : vr sc d c_X7_ties1 (0, [(2, v0), (0, v1), q2, q3, q4], [], (K, M)) = (if og K 7 v0 9 = true then (if ag K 8 (M v0 9) (w32 ((w32 (3 * v1)) + 2)) = true then (if (M (M v0 9) (w32 ((w32 (3 * v1)) + 2))) = 1 then vr sc d c_X7_ties1 (23, [(2, v0), (0, v1), (0, M (M v0 9) (w32 ((w32 (3 * v1)) + 2))), (0, 0), q4], [], (K, M)) else (if ¬ (M (M v0 9) (w32 ((w32 (3 * v1)) + 2))) = 3 then vr sc d c_X7_ties1 (47, [(2, v0), (0, v1), (0, M (M v0 9) (w32 ((w32 (3 * v1)) + 2))), q3, q4], [], (K, M)) else vr sc d c_X7_ties1 (23, [(2, v0), (0, v1), (0, M (M v0 9) (w32 ((w32 (3 * v1)) + 2))), (0, 0), q4], [], (K, M)))) else none) else none) := by
  refine (vr_steps 1 (x' := (1, [(2, v0), (0, v1), q2, q3, q4], [(2, v0)], (K, M))) rfl).trans ?_
  refine (v_getf (a := 7) (b := 9) (t := 2) rfl rfl).trans ?_
  refine g_congr (fun _ => ?_)
  refine (vr_steps 5 (x' := (9, [(2, v0), (0, v1), q2, q3, q4], [(0, w32 ((w32 (3 * v1)) + 2)), (2, M v0 9)], (K, M))) rfl).trans ?_
  refine (v_ald (a := 8) rfl (by decide)).trans ?_
  refine g_congr (fun _ => ?_)
  refine (vr_steps 3 (x' := (13, [(2, v0), (0, v1), (0, M (M v0 9) (w32 ((w32 (3 * v1)) + 2))), q3, q4], [(0, 1), (0, M (M v0 9) (w32 ((w32 (3 * v1)) + 2)))], (K, M))) rfl).trans ?_
  refine (v_icmp (k := 0) (b := 21) (c := (M (M v0 9) (w32 ((w32 (3 * v1)) + 2))) = 1) rfl rfl).trans ?_
  refine c_congr (fun _ => ?_) (fun _ => ?_)
  · exact vr_steps 2 rfl
  · refine (vr_steps 2 (x' := (18, [(2, v0), (0, v1), (0, M (M v0 9) (w32 ((w32 (3 * v1)) + 2))), q3, q4], [(0, 3), (0, M (M v0 9) (w32 ((w32 (3 * v1)) + 2)))], (K, M))) rfl).trans ?_
    refine (v_icmp (k := 1) (b := 47) (c := ¬ (M (M v0 9) (w32 ((w32 (3 * v1)) + 2))) = 3) rfl rfl).trans ?_
    refine c_congr (fun _ => ?_) (fun _ => ?_)
    · rfl
    · exact vr_steps 2 rfl
set_option maxRecDepth 100000 in
theorem e_X7_ties1_23 {sc : dS} {d : Nat} {K : List (Nat × Nat)} {M : dM} {v0 v1 v2 v3 : Int} {q4 : dV} : vr sc d c_X7_ties1 (23, [(2, v0), (0, v1), (0, v2), (0, v3), q4], [], (K, M)) = (if og K 7 v0 29 = true then (if (M v0 29) ≤ v3 then vr sc d c_X7_ties1 (47, [(2, v0), (0, v1), (0, v2), (0, v3), q4], [], (K, M)) else (if og K 7 v0 28 = true then (if ag K 8 (M v0 28) v3 = true then (if ag K 8 (M v0 28) v3 = true then vr sc d c_X7_ties1 (23, [(2, v0), (0, v1), (0, v2), (0, w32 (v3 + 1)), q4], [], (K, d_up M (M v0 28) v3 (i_xor (M (M v0 28) v3) 1))) else none) else none) else none)) else none) := by
  refine (vr_steps 2 (x' := (25, [(2, v0), (0, v1), (0, v2), (0, v3), q4], [(2, v0), (0, v3)], (K, M))) rfl).trans ?_
  refine (v_getf (a := 7) (b := 29) (t := 0) rfl rfl).trans ?_
  refine g_congr (fun _ => ?_)
  refine (v_icmp (k := 3) (b := 47) (c := (M v0 29) ≤ v3) rfl rfl).trans ?_
  refine c_congr (fun _ => ?_) (fun _ => ?_)
  · rfl
  · refine (vr_steps 1 (x' := (32, [(2, v0), (0, v1), (0, v2), (0, v3), q4], [(2, v0)], (K, M))) rfl).trans ?_
    refine (v_getf (a := 7) (b := 28) (t := 2) rfl rfl).trans ?_
    refine g_congr (fun _ => ?_)
    refine (vr_steps 2 (x' := (37, [(2, v0), (0, v1), (0, v2), (0, v3), q4], [(0, v3), (2, M v0 28), (0, v3), (2, M v0 28)], (K, M))) rfl).trans ?_
    refine (v_ald (a := 8) rfl (by decide)).trans ?_
    refine g_congr (fun _ => ?_)
    refine (vr_steps 2 (x' := (40, [(2, v0), (0, v1), (0, v2), (0, v3), q4], [(0, i_xor (M (M v0 28) v3) 1), (0, v3), (2, M v0 28)], (K, M))) rfl).trans ?_
    refine (v_ast rfl).trans ?_
    refine g_congr (fun _ => ?_)
    exact vr_steps 2 rfl
set_option maxRecDepth 100000 in
theorem e_X7_ties1_47 {sc : dS} {d : Nat} {K : List (Nat × Nat)} {M : dM} {v0 v1 v2 : Int} {q3 q4 : dV} : vr sc d c_X7_ties1 (47, [(2, v0), (0, v1), (0, v2), q3, q4], [], (K, M)) = (if ¬ v2 = 3 then (if v2 = 2 then (if og K 7 v0 29 = true then (if (M v0 29) ≤ 0 then vr sc d c_X7_ties1 (139, [(2, v0), (0, v1), (0, v2), q3, q4], [], (K, M)) else (if og K 7 v0 29 = true then (if og K 7 v0 29 = true then (if -2147483648 ≤ (w32 ((M v0 29) - 1)) ∧ (w32 ((M v0 29) - 1)) < 2147483648 then vr sc d c_X7_ties1 (139, [(2, v0), (0, v1), (0, v2), q3, q4], [], (K, d_up M v0 29 (w32 ((M v0 29) - 1)))) else none) else none) else none)) else none) else (if ¬ v2 = 4 then vr sc d c_X7_ties1 (139, [(2, v0), (0, v1), (0, v2), q3, q4], [], (K, M)) else (if og K 7 v0 29 = true then (if (M v0 29) ≤ 0 then vr sc d c_X7_ties1 (139, [(2, v0), (0, v1), (0, v2), q3, q4], [], (K, M)) else (if og K 7 v0 29 = true then (if og K 7 v0 29 = true then (if -2147483648 ≤ (w32 ((M v0 29) - 1)) ∧ (w32 ((M v0 29) - 1)) < 2147483648 then vr sc d c_X7_ties1 (139, [(2, v0), (0, v1), (0, v2), q3, q4], [], (K, d_up M v0 29 (w32 ((M v0 29) - 1)))) else none) else none) else none)) else none))) else vr sc d c_X7_ties1 (54, [(2, v0), (0, v1), (0, v2), (0, 0), q4], [], (K, M))) := by
  refine (vr_steps 2 (x' := (49, [(2, v0), (0, v1), (0, v2), q3, q4], [(0, 3), (0, v2)], (K, M))) rfl).trans ?_
  refine (v_icmp (k := 1) (b := 112) (c := ¬ v2 = 3) rfl rfl).trans ?_
  refine c_congr (fun _ => ?_) (fun _ => ?_)
  · refine (vr_steps 2 (x' := (114, [(2, v0), (0, v1), (0, v2), q3, q4], [(0, 2), (0, v2)], (K, M))) rfl).trans ?_
    refine (v_icmp (k := 0) (b := 122) (c := v2 = 2) rfl rfl).trans ?_
    refine c_congr (fun _ => ?_) (fun _ => ?_)
    · refine (vr_steps 1 (x' := (123, [(2, v0), (0, v1), (0, v2), q3, q4], [(2, v0)], (K, M))) rfl).trans ?_
      refine (v_getf (a := 7) (b := 29) (t := 0) rfl rfl).trans ?_
      refine g_congr (fun _ => ?_)
      refine (v_if (k := 5) (b := 139) (c := (M v0 29) ≤ 0) rfl rfl).trans ?_
      refine c_congr (fun _ => ?_) (fun _ => ?_)
      · rfl
      · refine (vr_steps 2 (x' := (131, [(2, v0), (0, v1), (0, v2), q3, q4], [(2, v0), (2, v0)], (K, M))) rfl).trans ?_
        refine (v_getf (a := 7) (b := 29) (t := 0) rfl rfl).trans ?_
        refine g_congr (fun _ => ?_)
        refine (vr_steps 2 (x' := (136, [(2, v0), (0, v1), (0, v2), q3, q4], [(0, w32 ((M v0 29) - 1)), (2, v0)], (K, M))) rfl).trans ?_
        refine (v_putf (a := 7) (b := 29) (t := 0) rfl rfl (by intro q; cases q)).trans ?_
        refine g_congr (fun _ => ?_)
        refine p_congr (fun _ => ?_)
        rfl
    · refine (vr_steps 2 (x' := (119, [(2, v0), (0, v1), (0, v2), q3, q4], [(0, 4), (0, v2)], (K, M))) rfl).trans ?_
      refine (v_icmp (k := 1) (b := 139) (c := ¬ v2 = 4) rfl rfl).trans ?_
      refine c_congr (fun _ => ?_) (fun _ => ?_)
      · rfl
      · refine (vr_steps 1 (x' := (123, [(2, v0), (0, v1), (0, v2), q3, q4], [(2, v0)], (K, M))) rfl).trans ?_
        refine (v_getf (a := 7) (b := 29) (t := 0) rfl rfl).trans ?_
        refine g_congr (fun _ => ?_)
        refine (v_if (k := 5) (b := 139) (c := (M v0 29) ≤ 0) rfl rfl).trans ?_
        refine c_congr (fun _ => ?_) (fun _ => ?_)
        · rfl
        · refine (vr_steps 2 (x' := (131, [(2, v0), (0, v1), (0, v2), q3, q4], [(2, v0), (2, v0)], (K, M))) rfl).trans ?_
          refine (v_getf (a := 7) (b := 29) (t := 0) rfl rfl).trans ?_
          refine g_congr (fun _ => ?_)
          refine (vr_steps 2 (x' := (136, [(2, v0), (0, v1), (0, v2), q3, q4], [(0, w32 ((M v0 29) - 1)), (2, v0)], (K, M))) rfl).trans ?_
          refine (v_putf (a := 7) (b := 29) (t := 0) rfl rfl (by intro q; cases q)).trans ?_
          refine g_congr (fun _ => ?_)
          refine p_congr (fun _ => ?_)
          rfl
  · exact vr_steps 2 rfl
set_option maxRecDepth 100000 in
theorem e_X7_ties1_54 {sc : dS} {d : Nat} {K : List (Nat × Nat)} {M : dM} {v0 v1 v2 v3 : Int} {q4 : dV} : vr sc d c_X7_ties1 (54, [(2, v0), (0, v1), (0, v2), (0, v3), q4], [], (K, M)) = (if og K 7 v0 29 = true then (if (w32 ((M v0 29).tdiv 2)) ≤ v3 then (if v2 = 2 then (if og K 7 v0 29 = true then (if (M v0 29) ≤ 0 then vr sc d c_X7_ties1 (139, [(2, v0), (0, v1), (0, v2), (0, v3), q4], [], (K, M)) else (if og K 7 v0 29 = true then (if og K 7 v0 29 = true then (if -2147483648 ≤ (w32 ((M v0 29) - 1)) ∧ (w32 ((M v0 29) - 1)) < 2147483648 then vr sc d c_X7_ties1 (139, [(2, v0), (0, v1), (0, v2), (0, v3), q4], [], (K, d_up M v0 29 (w32 ((M v0 29) - 1)))) else none) else none) else none)) else none) else (if ¬ v2 = 4 then vr sc d c_X7_ties1 (139, [(2, v0), (0, v1), (0, v2), (0, v3), q4], [], (K, M)) else (if og K 7 v0 29 = true then (if (M v0 29) ≤ 0 then vr sc d c_X7_ties1 (139, [(2, v0), (0, v1), (0, v2), (0, v3), q4], [], (K, M)) else (if og K 7 v0 29 = true then (if og K 7 v0 29 = true then (if -2147483648 ≤ (w32 ((M v0 29) - 1)) ∧ (w32 ((M v0 29) - 1)) < 2147483648 then vr sc d c_X7_ties1 (139, [(2, v0), (0, v1), (0, v2), (0, v3), q4], [], (K, d_up M v0 29 (w32 ((M v0 29) - 1)))) else none) else none) else none)) else none))) else (if og K 7 v0 28 = true then (if ag K 8 (M v0 28) v3 = true then (if og K 7 v0 28 = true then (if og K 7 v0 28 = true then (if og K 7 v0 29 = true then (if ag K 8 (M v0 28) (w32 ((w32 ((M v0 29) - 1)) - v3)) = true then (if ag K 8 (M v0 28) v3 = true then (if og K 7 v0 28 = true then (if og K 7 v0 29 = true then (if ag K 8 ((d_up M (M v0 28) v3 (M (M v0 28) (w32 ((w32 ((M v0 29) - 1)) - v3)))) v0 28) (w32 ((w32 (((d_up M (M v0 28) v3 (M (M v0 28) (w32 ((w32 ((M v0 29) - 1)) - v3)))) v0 29) - 1)) - v3)) = true then vr sc d c_X7_ties1 (54, [(2, v0), (0, v1), (0, v2), (0, w32 (v3 + 1)), (0, M (M v0 28) v3)], [], (K, d_up (d_up M (M v0 28) v3 (M (M v0 28) (w32 ((w32 ((M v0 29) - 1)) - v3)))) ((d_up M (M v0 28) v3 (M (M v0 28) (w32 ((w32 ((M v0 29) - 1)) - v3)))) v0 28) (w32 ((w32 (((d_up M (M v0 28) v3 (M (M v0 28) (w32 ((w32 ((M v0 29) - 1)) - v3)))) v0 29) - 1)) - v3)) (M (M v0 28) v3))) else none) else none) else none) else none) else none) else none) else none) else none) else none) else none)) else none) := by
  refine (vr_steps 2 (x' := (56, [(2, v0), (0, v1), (0, v2), (0, v3), q4], [(2, v0), (0, v3)], (K, M))) rfl).trans ?_
  refine (v_getf (a := 7) (b := 29) (t := 0) rfl rfl).trans ?_
  refine g_congr (fun _ => ?_)
  refine (vr_steps 2 (x' := (61, [(2, v0), (0, v1), (0, v2), (0, v3), q4], [(0, w32 ((M v0 29).tdiv 2)), (0, v3)], (K, M))) rfl).trans ?_
  refine (v_icmp (k := 3) (b := 112) (c := (w32 ((M v0 29).tdiv 2)) ≤ v3) rfl rfl).trans ?_
  refine c_congr (fun _ => ?_) (fun _ => ?_)
  · refine (vr_steps 2 (x' := (114, [(2, v0), (0, v1), (0, v2), (0, v3), q4], [(0, 2), (0, v2)], (K, M))) rfl).trans ?_
    refine (v_icmp (k := 0) (b := 122) (c := v2 = 2) rfl rfl).trans ?_
    refine c_congr (fun _ => ?_) (fun _ => ?_)
    · refine (vr_steps 1 (x' := (123, [(2, v0), (0, v1), (0, v2), (0, v3), q4], [(2, v0)], (K, M))) rfl).trans ?_
      refine (v_getf (a := 7) (b := 29) (t := 0) rfl rfl).trans ?_
      refine g_congr (fun _ => ?_)
      refine (v_if (k := 5) (b := 139) (c := (M v0 29) ≤ 0) rfl rfl).trans ?_
      refine c_congr (fun _ => ?_) (fun _ => ?_)
      · rfl
      · refine (vr_steps 2 (x' := (131, [(2, v0), (0, v1), (0, v2), (0, v3), q4], [(2, v0), (2, v0)], (K, M))) rfl).trans ?_
        refine (v_getf (a := 7) (b := 29) (t := 0) rfl rfl).trans ?_
        refine g_congr (fun _ => ?_)
        refine (vr_steps 2 (x' := (136, [(2, v0), (0, v1), (0, v2), (0, v3), q4], [(0, w32 ((M v0 29) - 1)), (2, v0)], (K, M))) rfl).trans ?_
        refine (v_putf (a := 7) (b := 29) (t := 0) rfl rfl (by intro q; cases q)).trans ?_
        refine g_congr (fun _ => ?_)
        refine p_congr (fun _ => ?_)
        rfl
    · refine (vr_steps 2 (x' := (119, [(2, v0), (0, v1), (0, v2), (0, v3), q4], [(0, 4), (0, v2)], (K, M))) rfl).trans ?_
      refine (v_icmp (k := 1) (b := 139) (c := ¬ v2 = 4) rfl rfl).trans ?_
      refine c_congr (fun _ => ?_) (fun _ => ?_)
      · rfl
      · refine (vr_steps 1 (x' := (123, [(2, v0), (0, v1), (0, v2), (0, v3), q4], [(2, v0)], (K, M))) rfl).trans ?_
        refine (v_getf (a := 7) (b := 29) (t := 0) rfl rfl).trans ?_
        refine g_congr (fun _ => ?_)
        refine (v_if (k := 5) (b := 139) (c := (M v0 29) ≤ 0) rfl rfl).trans ?_
        refine c_congr (fun _ => ?_) (fun _ => ?_)
        · rfl
        · refine (vr_steps 2 (x' := (131, [(2, v0), (0, v1), (0, v2), (0, v3), q4], [(2, v0), (2, v0)], (K, M))) rfl).trans ?_
          refine (v_getf (a := 7) (b := 29) (t := 0) rfl rfl).trans ?_
          refine g_congr (fun _ => ?_)
          refine (vr_steps 2 (x' := (136, [(2, v0), (0, v1), (0, v2), (0, v3), q4], [(0, w32 ((M v0 29) - 1)), (2, v0)], (K, M))) rfl).trans ?_
          refine (v_putf (a := 7) (b := 29) (t := 0) rfl rfl (by intro q; cases q)).trans ?_
          refine g_congr (fun _ => ?_)
          refine p_congr (fun _ => ?_)
          rfl
  · refine (vr_steps 1 (x' := (65, [(2, v0), (0, v1), (0, v2), (0, v3), q4], [(2, v0)], (K, M))) rfl).trans ?_
    refine (v_getf (a := 7) (b := 28) (t := 2) rfl rfl).trans ?_
    refine g_congr (fun _ => ?_)
    refine (vr_steps 1 (x' := (69, [(2, v0), (0, v1), (0, v2), (0, v3), q4], [(0, v3), (2, M v0 28)], (K, M))) rfl).trans ?_
    refine (v_ald (a := 8) rfl (by decide)).trans ?_
    refine g_congr (fun _ => ?_)
    refine (vr_steps 2 (x' := (73, [(2, v0), (0, v1), (0, v2), (0, v3), (0, M (M v0 28) v3)], [(2, v0)], (K, M))) rfl).trans ?_
    refine (v_getf (a := 7) (b := 28) (t := 2) rfl rfl).trans ?_
    refine g_congr (fun _ => ?_)
    refine (vr_steps 2 (x' := (78, [(2, v0), (0, v1), (0, v2), (0, v3), (0, M (M v0 28) v3)], [(2, v0), (0, v3), (2, M v0 28)], (K, M))) rfl).trans ?_
    refine (v_getf (a := 7) (b := 28) (t := 2) rfl rfl).trans ?_
    refine g_congr (fun _ => ?_)
    refine (vr_steps 1 (x' := (82, [(2, v0), (0, v1), (0, v2), (0, v3), (0, M (M v0 28) v3)], [(2, v0), (2, M v0 28), (0, v3), (2, M v0 28)], (K, M))) rfl).trans ?_
    refine (v_getf (a := 7) (b := 29) (t := 0) rfl rfl).trans ?_
    refine g_congr (fun _ => ?_)
    refine (vr_steps 4 (x' := (89, [(2, v0), (0, v1), (0, v2), (0, v3), (0, M (M v0 28) v3)], [(0, w32 ((w32 ((M v0 29) - 1)) - v3)), (2, M v0 28), (0, v3), (2, M v0 28)], (K, M))) rfl).trans ?_
    refine (v_ald (a := 8) rfl (by decide)).trans ?_
    refine g_congr (fun _ => ?_)
    refine (v_ast rfl).trans ?_
    refine g_congr (fun _ => ?_)
    refine (vr_steps 1 (x' := (92, [(2, v0), (0, v1), (0, v2), (0, v3), (0, M (M v0 28) v3)], [(2, v0)], (K, d_up M (M v0 28) v3 (M (M v0 28) (w32 ((w32 ((M v0 29) - 1)) - v3)))))) rfl).trans ?_
    refine (v_getf (a := 7) (b := 28) (t := 2) rfl rfl).trans ?_
    refine g_congr (fun _ => ?_)
    refine (vr_steps 1 (x' := (96, [(2, v0), (0, v1), (0, v2), (0, v3), (0, M (M v0 28) v3)], [(2, v0), (2, (d_up M (M v0 28) v3 (M (M v0 28) (w32 ((w32 ((M v0 29) - 1)) - v3)))) v0 28)], (K, d_up M (M v0 28) v3 (M (M v0 28) (w32 ((w32 ((M v0 29) - 1)) - v3)))))) rfl).trans ?_
    refine (v_getf (a := 7) (b := 29) (t := 0) rfl rfl).trans ?_
    refine g_congr (fun _ => ?_)
    refine (vr_steps 5 (x' := (105, [(2, v0), (0, v1), (0, v2), (0, v3), (0, M (M v0 28) v3)], [(0, M (M v0 28) v3), (0, w32 ((w32 (((d_up M (M v0 28) v3 (M (M v0 28) (w32 ((w32 ((M v0 29) - 1)) - v3)))) v0 29) - 1)) - v3)), (2, (d_up M (M v0 28) v3 (M (M v0 28) (w32 ((w32 ((M v0 29) - 1)) - v3)))) v0 28)], (K, d_up M (M v0 28) v3 (M (M v0 28) (w32 ((w32 ((M v0 29) - 1)) - v3)))))) rfl).trans ?_
    refine (v_ast rfl).trans ?_
    refine g_congr (fun _ => ?_)
    exact vr_steps 2 rfl
set_option maxRecDepth 100000 in
theorem e_X7_ties1_139 {sc : dS} {d : Nat} {K : List (Nat × Nat)} {M : dM} {v0 v1 v2 : Int} {q3 q4 : dV} : vr sc d c_X7_ties1 (139, [(2, v0), (0, v1), (0, v2), q3, q4], [], (K, M)) = (if ¬ v2 = 4 then (if ¬ v2 = 5 then vr sc d c_X7_ties1 (185, [(2, v0), (0, v1), (0, v2), q3, q4], [], (K, M)) else (if rg K 7 v0 = true then (vc sc d 151 [(2, v0)] (K, M)).bind (fun r => vr sc d c_X7_ties1 (185, [(2, v0), (0, v1), (0, v2), q3, q4], r.1 ++ [], r.2)) else none)) else (if og K 7 v0 29 = true then (if (M v0 29) ≤ 0 then (if ¬ v2 = 5 then vr sc d c_X7_ties1 (185, [(2, v0), (0, v1), (0, v2), q3, q4], [], (K, M)) else (if rg K 7 v0 = true then (vc sc d 151 [(2, v0)] (K, M)).bind (fun r => vr sc d c_X7_ties1 (185, [(2, v0), (0, v1), (0, v2), q3, q4], r.1 ++ [], r.2)) else none)) else (if og K 7 v0 28 = true then (if og K 7 v0 29 = true then (if og K 7 v0 28 = true then (if ag K 8 (M v0 28) 0 = true then (if ag K 8 (M v0 28) (M v0 29) = true then (if og K 7 v0 29 = true then (if og K 7 v0 29 = true then (if -2147483648 ≤ (w32 (((d_up M (M v0 28) (M v0 29) (M (M v0 28) 0)) v0 29) + 1)) ∧ (w32 (((d_up M (M v0 28) (M v0 29) (M (M v0 28) 0)) v0 29) + 1)) < 2147483648 then (if ¬ v2 = 5 then vr sc d c_X7_ties1 (185, [(2, v0), (0, v1), (0, v2), q3, q4], [], (K, d_up (d_up M (M v0 28) (M v0 29) (M (M v0 28) 0)) v0 29 (w32 (((d_up M (M v0 28) (M v0 29) (M (M v0 28) 0)) v0 29) + 1)))) else (if rg K 7 v0 = true then (vc sc d 151 [(2, v0)] (K, d_up (d_up M (M v0 28) (M v0 29) (M (M v0 28) 0)) v0 29 (w32 (((d_up M (M v0 28) (M v0 29) (M (M v0 28) 0)) v0 29) + 1)))).bind (fun r => vr sc d c_X7_ties1 (185, [(2, v0), (0, v1), (0, v2), q3, q4], r.1 ++ [], r.2)) else none)) else none) else none) else none) else none) else none) else none) else none) else none)) else none)) := by
  refine (vr_steps 2 (x' := (141, [(2, v0), (0, v1), (0, v2), q3, q4], [(0, 4), (0, v2)], (K, M))) rfl).trans ?_
  refine (v_icmp (k := 1) (b := 176) (c := ¬ v2 = 4) rfl rfl).trans ?_
  refine c_congr (fun _ => ?_) (fun _ => ?_)
  · refine (vr_steps 2 (x' := (178, [(2, v0), (0, v1), (0, v2), q3, q4], [(0, 5), (0, v2)], (K, M))) rfl).trans ?_
    refine (v_icmp (k := 1) (b := 185) (c := ¬ v2 = 5) rfl rfl).trans ?_
    refine c_congr (fun _ => ?_) (fun _ => ?_)
    · rfl
    · refine (vr_steps 1 (x' := (182, [(2, v0), (0, v1), (0, v2), q3, q4], [(2, v0)], (K, M))) rfl).trans ?_
      exact (v_virt (k := 151) (n := 1) (tag := 7) (r := v0) (av := []) (code := c_X7_ties1) (pc := 182) (len := 3) (L := [(2, v0), (0, v1), (0, v2), q3, q4]) (st := [(2, v0)]) rfl (Nat.le_of_ble_eq_true rfl) (Nat.le_of_ble_eq_true rfl) rfl).trans rfl
  · refine (vr_steps 1 (x' := (145, [(2, v0), (0, v1), (0, v2), q3, q4], [(2, v0)], (K, M))) rfl).trans ?_
    refine (v_getf (a := 7) (b := 29) (t := 0) rfl rfl).trans ?_
    refine g_congr (fun _ => ?_)
    refine (v_if (k := 5) (b := 176) (c := (M v0 29) ≤ 0) rfl rfl).trans ?_
    refine c_congr (fun _ => ?_) (fun _ => ?_)
    · refine (vr_steps 2 (x' := (178, [(2, v0), (0, v1), (0, v2), q3, q4], [(0, 5), (0, v2)], (K, M))) rfl).trans ?_
      refine (v_icmp (k := 1) (b := 185) (c := ¬ v2 = 5) rfl rfl).trans ?_
      refine c_congr (fun _ => ?_) (fun _ => ?_)
      · rfl
      · refine (vr_steps 1 (x' := (182, [(2, v0), (0, v1), (0, v2), q3, q4], [(2, v0)], (K, M))) rfl).trans ?_
        exact (v_virt (k := 151) (n := 1) (tag := 7) (r := v0) (av := []) (code := c_X7_ties1) (pc := 182) (len := 3) (L := [(2, v0), (0, v1), (0, v2), q3, q4]) (st := [(2, v0)]) rfl (Nat.le_of_ble_eq_true rfl) (Nat.le_of_ble_eq_true rfl) rfl).trans rfl
    · refine (vr_steps 1 (x' := (152, [(2, v0), (0, v1), (0, v2), q3, q4], [(2, v0)], (K, M))) rfl).trans ?_
      refine (v_getf (a := 7) (b := 28) (t := 2) rfl rfl).trans ?_
      refine g_congr (fun _ => ?_)
      refine (vr_steps 1 (x' := (156, [(2, v0), (0, v1), (0, v2), q3, q4], [(2, v0), (2, M v0 28)], (K, M))) rfl).trans ?_
      refine (v_getf (a := 7) (b := 29) (t := 0) rfl rfl).trans ?_
      refine g_congr (fun _ => ?_)
      refine (vr_steps 1 (x' := (160, [(2, v0), (0, v1), (0, v2), q3, q4], [(2, v0), (0, M v0 29), (2, M v0 28)], (K, M))) rfl).trans ?_
      refine (v_getf (a := 7) (b := 28) (t := 2) rfl rfl).trans ?_
      refine g_congr (fun _ => ?_)
      refine (vr_steps 1 (x' := (164, [(2, v0), (0, v1), (0, v2), q3, q4], [(0, 0), (2, M v0 28), (0, M v0 29), (2, M v0 28)], (K, M))) rfl).trans ?_
      refine (v_ald (a := 8) rfl (by decide)).trans ?_
      refine g_congr (fun _ => ?_)
      refine (v_ast rfl).trans ?_
      refine g_congr (fun _ => ?_)
      refine (vr_steps 2 (x' := (168, [(2, v0), (0, v1), (0, v2), q3, q4], [(2, v0), (2, v0)], (K, d_up M (M v0 28) (M v0 29) (M (M v0 28) 0)))) rfl).trans ?_
      refine (v_getf (a := 7) (b := 29) (t := 0) rfl rfl).trans ?_
      refine g_congr (fun _ => ?_)
      refine (vr_steps 2 (x' := (173, [(2, v0), (0, v1), (0, v2), q3, q4], [(0, w32 (((d_up M (M v0 28) (M v0 29) (M (M v0 28) 0)) v0 29) + 1)), (2, v0)], (K, d_up M (M v0 28) (M v0 29) (M (M v0 28) 0)))) rfl).trans ?_
      refine (v_putf (a := 7) (b := 29) (t := 0) rfl rfl (by intro q; cases q)).trans ?_
      refine g_congr (fun _ => ?_)
      refine p_congr (fun _ => ?_)
      refine (vr_steps 2 (x' := (178, [(2, v0), (0, v1), (0, v2), q3, q4], [(0, 5), (0, v2)], (K, d_up (d_up M (M v0 28) (M v0 29) (M (M v0 28) 0)) v0 29 (w32 (((d_up M (M v0 28) (M v0 29) (M (M v0 28) 0)) v0 29) + 1))))) rfl).trans ?_
      refine (v_icmp (k := 1) (b := 185) (c := ¬ v2 = 5) rfl rfl).trans ?_
      refine c_congr (fun _ => ?_) (fun _ => ?_)
      · rfl
      · refine (vr_steps 1 (x' := (182, [(2, v0), (0, v1), (0, v2), q3, q4], [(2, v0)], (K, d_up (d_up M (M v0 28) (M v0 29) (M (M v0 28) 0)) v0 29 (w32 (((d_up M (M v0 28) (M v0 29) (M (M v0 28) 0)) v0 29) + 1))))) rfl).trans ?_
        exact (v_virt (k := 151) (n := 1) (tag := 7) (r := v0) (av := []) (code := c_X7_ties1) (pc := 182) (len := 3) (L := [(2, v0), (0, v1), (0, v2), q3, q4]) (st := [(2, v0)]) rfl (Nat.le_of_ble_eq_true rfl) (Nat.le_of_ble_eq_true rfl) rfl).trans rfl
set_option maxRecDepth 100000 in
theorem e_X7_ties1_185 {sc : dS} {d : Nat} {K : List (Nat × Nat)} {M : dM} {v0 v1 v2 : Int} {q3 q4 : dV} : vr sc d c_X7_ties1 (185, [(2, v0), (0, v1), (0, v2), q3, q4], [], (K, M)) = (some ([], (K, M))) := by
  exact vr_ret (ai := (35, 1, 0, 0, [])) rfl rfl

noncomputable def c_X7_wordBad : Nat → Option dI := d_mcode m_X7_wordBad
set_option maxRecDepth 100000 in
theorem e_X7_wordBad_0 {sc : dS} {d : Nat} {K : List (Nat × Nat)} {M : dM} {v0 v1 : Int} {q2 : dV} : vr sc d c_X7_wordBad (0, [(2, v0), (0, v1), q2], [], (K, M)) = (if og K 7 v0 42 = true then (if ag K 9 (M v0 42) v1 = true then (if ¬ (M (M v0 42) v1) = 0 then (if og K 7 v0 44 = true then (if ag K 8 (M v0 44) v1 = true then (if (M (M v0 44) v1) ≤ 12 then vr sc d c_X7_wordBad (28, [(2, v0), (0, v1), (0, 0)], [], (K, M)) else some ([(0, (-2))], (K, M))) else none) else none) else some ([(0, (-11))], (K, M))) else none) else none) := by
  refine (vr_steps 1 (x' := (1, [(2, v0), (0, v1), q2], [(2, v0)], (K, M))) rfl).trans ?_
  refine (v_getf (a := 7) (b := 42) (t := 2) rfl rfl).trans ?_
  refine g_congr (fun _ => ?_)
  refine (vr_steps 1 (x' := (5, [(2, v0), (0, v1), q2], [(0, v1), (2, M v0 42)], (K, M))) rfl).trans ?_
  refine (v_ald (a := 9) rfl (by decide)).trans ?_
  refine g_congr (fun _ => ?_)
  refine (v_if (k := 1) (b := 12) (c := ¬ (M (M v0 42) v1) = 0) rfl rfl).trans ?_
  refine c_congr (fun _ => ?_) (fun _ => ?_)
  · refine (vr_steps 1 (x' := (13, [(2, v0), (0, v1), q2], [(2, v0)], (K, M))) rfl).trans ?_
    refine (v_getf (a := 7) (b := 44) (t := 2) rfl rfl).trans ?_
    refine g_congr (fun _ => ?_)
    refine (vr_steps 1 (x' := (17, [(2, v0), (0, v1), q2], [(0, v1), (2, M v0 44)], (K, M))) rfl).trans ?_
    refine (v_ald (a := 8) rfl (by decide)).trans ?_
    refine g_congr (fun _ => ?_)
    refine (vr_steps 1 (x' := (20, [(2, v0), (0, v1), q2], [(0, 12), (0, M (M v0 44) v1)], (K, M))) rfl).trans ?_
    refine (v_icmp (k := 5) (b := 26) (c := (M (M v0 44) v1) ≤ 12) rfl rfl).trans ?_
    refine c_congr (fun _ => ?_) (fun _ => ?_)
    · exact vr_steps 2 rfl
    · refine (vr_steps 1 (x' := (25, [(2, v0), (0, v1), q2], [(0, (-2))], (K, M))) rfl).trans ?_
      exact vr_ret (ai := (35, 1, 1, 0, [])) rfl rfl
  · refine (vr_steps 1 (x' := (11, [(2, v0), (0, v1), q2], [(0, (-11))], (K, M))) rfl).trans ?_
    exact vr_ret (ai := (35, 1, 1, 0, [])) rfl rfl
set_option maxRecDepth 100000 in
theorem e_X7_wordBad_28 {sc : dS} {d : Nat} {K : List (Nat × Nat)} {M : dM} {v0 v1 v2 : Int} : vr sc d c_X7_wordBad (28, [(2, v0), (0, v1), (0, v2)], [], (K, M)) = (if og K 7 v0 44 = true then (if ag K 8 (M v0 44) v1 = true then (if (M (M v0 44) v1) ≤ v2 then some ([(0, 0)], (K, M)) else (if og K 7 v0 45 = true then (if ag K 8 (M v0 45) (w32 ((w32 (40 * v1)) + v2)) = true then (vc sc d 114 [(1, M (M v0 45) (w32 ((w32 (40 * v1)) + v2))), (1, 0), (1, 3)] (K, M)).bind (fun r => vr sc d c_X7_wordBad (57, [(2, v0), (0, v1), (0, v2)], r.1 ++ [], r.2)) else none) else none)) else none) else none) := by
  refine (vr_steps 2 (x' := (30, [(2, v0), (0, v1), (0, v2)], [(2, v0), (0, v2)], (K, M))) rfl).trans ?_
  refine (v_getf (a := 7) (b := 44) (t := 2) rfl rfl).trans ?_
  refine g_congr (fun _ => ?_)
  refine (vr_steps 1 (x' := (34, [(2, v0), (0, v1), (0, v2)], [(0, v1), (2, M v0 44), (0, v2)], (K, M))) rfl).trans ?_
  refine (v_ald (a := 8) rfl (by decide)).trans ?_
  refine g_congr (fun _ => ?_)
  refine (v_icmp (k := 3) (b := 69) (c := (M (M v0 44) v1) ≤ v2) rfl rfl).trans ?_
  refine c_congr (fun _ => ?_) (fun _ => ?_)
  · refine (vr_steps 1 (x' := (70, [(2, v0), (0, v1), (0, v2)], [(0, 0)], (K, M))) rfl).trans ?_
    exact vr_ret (ai := (35, 1, 1, 0, [])) rfl rfl
  · refine (vr_steps 1 (x' := (39, [(2, v0), (0, v1), (0, v2)], [(2, v0)], (K, M))) rfl).trans ?_
    refine (v_getf (a := 7) (b := 45) (t := 2) rfl rfl).trans ?_
    refine g_congr (fun _ => ?_)
    refine (vr_steps 5 (x' := (48, [(2, v0), (0, v1), (0, v2)], [(0, w32 ((w32 (40 * v1)) + v2)), (2, M v0 45)], (K, M))) rfl).trans ?_
    refine (v_ald (a := 8) rfl (by decide)).trans ?_
    refine g_congr (fun _ => ?_)
    refine (vr_steps 3 (x' := (54, [(2, v0), (0, v1), (0, v2)], [(1, 3), (1, 0), (1, M (M v0 45) (w32 ((w32 (40 * v1)) + v2)))], (K, M))) rfl).trans ?_
    exact (v_stat (k := 114) (n := 3) (code := c_X7_wordBad) (pc := 54) (len := 3) (L := [(2, v0), (0, v1), (0, v2)]) (st := [(1, 3), (1, 0), (1, M (M v0 45) (w32 ((w32 (40 * v1)) + v2)))]) rfl (Nat.le_of_ble_eq_true rfl) (Nat.le_of_ble_eq_true rfl)).trans rfl
set_option maxRecDepth 100000 in
theorem e_X7_wordBad_57 {sc : dS} {d : Nat} {K : List (Nat × Nat)} {M : dM} {v0 v1 v2 s0 : Int} : vr sc d c_X7_wordBad (57, [(2, v0), (0, v1), (0, v2)], [(0, s0)], (K, M)) = (if ¬ s0 = 0 then vr sc d c_X7_wordBad (28, [(2, v0), (0, v1), (0, w32 (v2 + 1))], [], (K, M)) else some ([(0, (-2))], (K, M))) := by
  refine (v_if (k := 1) (b := 63) (c := ¬ s0 = 0) rfl rfl).trans ?_
  refine c_congr (fun _ => ?_) (fun _ => ?_)
  · exact vr_steps 2 rfl
  · refine (vr_steps 1 (x' := (62, [(2, v0), (0, v1), (0, v2)], [(0, (-2))], (K, M))) rfl).trans ?_
    exact vr_ret (ai := (35, 1, 1, 0, [])) rfl rfl

noncomputable def c_X7_tie : Nat → Option dI := d_mcode m_X7_tie
set_option maxRecDepth 100000 in
theorem e_X7_tie_0 {sc : dS} {d : Nat} {K : List (Nat × Nat)} {M : dM} {v0 v1 v2 v3 : Int} {q4 q5 : dV} : vr sc d c_X7_tie (0, [(2, v0), (0, v1), (0, v2), (0, v3), q4, q5], [], (K, M)) = ((vc sc d 196 [(0, v1)] (K, M)).bind (fun r => vr sc d c_X7_tie (4, [(2, v0), (0, v1), (0, v2), (0, v3), q4, q5], r.1 ++ [], r.2))) := by
  refine (vr_steps 1 (x' := (1, [(2, v0), (0, v1), (0, v2), (0, v3), q4, q5], [(0, v1)], (K, M))) rfl).trans ?_
  exact (v_stat (k := 196) (n := 1) (code := c_X7_tie) (pc := 1) (len := 3) (L := [(2, v0), (0, v1), (0, v2), (0, v3), q4, q5]) (st := [(0, v1)]) rfl (Nat.le_of_ble_eq_true rfl) (Nat.le_of_ble_eq_true rfl)).trans rfl
set_option maxRecDepth 100000 in
theorem e_X7_tie_4 {sc : dS} {d : Nat} {K : List (Nat × Nat)} {M : dM} {v0 v1 v2 v3 s0 : Int} {q4 q5 : dV} : vr sc d c_X7_tie (4, [(2, v0), (0, v1), (0, v2), (0, v3), q4, q5], [(0, s0)], (K, M)) = (if s0 = 0 then some ([(0, (-2))], (K, M)) else (if rg K 7 v0 = true then (vc sc d 118 [(2, v0), (0, v2)] (K, M)).bind (fun r => vr sc d c_X7_tie (12, [(2, v0), (0, v1), (0, v2), (0, v3), q4, q5], r.1 ++ [], r.2)) else none)) := by
  refine (v_if (k := 0) (b := 22) (c := s0 = 0) rfl rfl).trans ?_
  refine c_congr (fun _ => ?_) (fun _ => ?_)
  · refine (vr_steps 1 (x' := (24, [(2, v0), (0, v1), (0, v2), (0, v3), q4, q5], [(0, (-2))], (K, M))) rfl).trans ?_
    exact vr_ret (ai := (35, 1, 1, 0, [])) rfl rfl
  · refine (vr_steps 2 (x' := (9, [(2, v0), (0, v1), (0, v2), (0, v3), q4, q5], [(0, v2), (2, v0)], (K, M))) rfl).trans ?_
    exact (v_virt (k := 118) (n := 2) (tag := 7) (r := v0) (av := [(0, v2)]) (code := c_X7_tie) (pc := 9) (len := 3) (L := [(2, v0), (0, v1), (0, v2), (0, v3), q4, q5]) (st := [(0, v2), (2, v0)]) rfl (Nat.le_of_ble_eq_true rfl) (Nat.le_of_ble_eq_true rfl) rfl).trans rfl
set_option maxRecDepth 100000 in
theorem e_X7_tie_12 {sc : dS} {d : Nat} {K : List (Nat × Nat)} {M : dM} {v0 v1 v2 v3 s0 : Int} {q4 q5 : dV} : vr sc d c_X7_tie (12, [(2, v0), (0, v1), (0, v2), (0, v3), q4, q5], [(0, s0)], (K, M)) = (if s0 = 0 then some ([(0, (-2))], (K, M)) else (vc sc d 119 [(0, v3)] (K, M)).bind (fun r => vr sc d c_X7_tie (19, [(2, v0), (0, v1), (0, v2), (0, v3), q4, q5], r.1 ++ [], r.2))) := by
  refine (v_if (k := 0) (b := 22) (c := s0 = 0) rfl rfl).trans ?_
  refine c_congr (fun _ => ?_) (fun _ => ?_)
  · refine (vr_steps 1 (x' := (24, [(2, v0), (0, v1), (0, v2), (0, v3), q4, q5], [(0, (-2))], (K, M))) rfl).trans ?_
    exact vr_ret (ai := (35, 1, 1, 0, [])) rfl rfl
  · refine (vr_steps 1 (x' := (16, [(2, v0), (0, v1), (0, v2), (0, v3), q4, q5], [(0, v3)], (K, M))) rfl).trans ?_
    exact (v_stat (k := 119) (n := 1) (code := c_X7_tie) (pc := 16) (len := 3) (L := [(2, v0), (0, v1), (0, v2), (0, v3), q4, q5]) (st := [(0, v3)]) rfl (Nat.le_of_ble_eq_true rfl) (Nat.le_of_ble_eq_true rfl)).trans rfl
set_option maxRecDepth 100000 in
theorem e_X7_tie_19 {sc : dS} {d : Nat} {K : List (Nat × Nat)} {M : dM} {v0 v1 v2 v3 s0 : Int} {q4 q5 : dV} : vr sc d c_X7_tie (19, [(2, v0), (0, v1), (0, v2), (0, v3), q4, q5], [(0, s0)], (K, M)) = (if ¬ s0 = 0 then (if rg K 7 v0 = true then (vc sc d 156 [(2, v0), (0, v1)] (K, M)).bind (fun r => vr sc d c_X7_tie (30, [(2, v0), (0, v1), (0, v2), (0, v3), q4, q5], r.1 ++ [], r.2)) else none) else some ([(0, (-2))], (K, M))) := by
  refine (v_if (k := 1) (b := 25) (c := ¬ s0 = 0) rfl rfl).trans ?_
  refine c_congr (fun _ => ?_) (fun _ => ?_)
  · refine (vr_steps 2 (x' := (27, [(2, v0), (0, v1), (0, v2), (0, v3), q4, q5], [(0, v1), (2, v0)], (K, M))) rfl).trans ?_
    exact (v_virt (k := 156) (n := 2) (tag := 7) (r := v0) (av := [(0, v1)]) (code := c_X7_tie) (pc := 27) (len := 3) (L := [(2, v0), (0, v1), (0, v2), (0, v3), q4, q5]) (st := [(0, v1), (2, v0)]) rfl (Nat.le_of_ble_eq_true rfl) (Nat.le_of_ble_eq_true rfl) rfl).trans rfl
  · refine (vr_steps 1 (x' := (24, [(2, v0), (0, v1), (0, v2), (0, v3), q4, q5], [(0, (-2))], (K, M))) rfl).trans ?_
    exact vr_ret (ai := (35, 1, 1, 0, [])) rfl rfl
set_option maxRecDepth 100000 in
theorem e_X7_tie_30 {sc : dS} {d : Nat} {K : List (Nat × Nat)} {M : dM} {v0 v1 v2 v3 s0 : Int} {q4 q5 : dV} : vr sc d c_X7_tie (30, [(2, v0), (0, v1), (0, v2), (0, v3), q4, q5], [(0, s0)], (K, M)) = (if s0 = 0 then (if rg K 7 v0 = true then (vc sc d 148 [(2, v0), (0, v1)] (K, M)).bind (fun r => vr sc d c_X7_tie (45, [(2, v0), (0, v1), (0, v2), (0, v3), (0, s0), q5], r.1 ++ [], r.2)) else none) else some ([(0, s0)], (K, M))) := by
  refine (vr_steps 2 (x' := (34, [(2, v0), (0, v1), (0, v2), (0, v3), (0, s0), q5], [(0, s0)], (K, M))) rfl).trans ?_
  refine (v_if (k := 0) (b := 40) (c := s0 = 0) rfl rfl).trans ?_
  refine c_congr (fun _ => ?_) (fun _ => ?_)
  · refine (vr_steps 2 (x' := (42, [(2, v0), (0, v1), (0, v2), (0, v3), (0, s0), q5], [(0, v1), (2, v0)], (K, M))) rfl).trans ?_
    exact (v_virt (k := 148) (n := 2) (tag := 7) (r := v0) (av := [(0, v1)]) (code := c_X7_tie) (pc := 42) (len := 3) (L := [(2, v0), (0, v1), (0, v2), (0, v3), (0, s0), q5]) (st := [(0, v1), (2, v0)]) rfl (Nat.le_of_ble_eq_true rfl) (Nat.le_of_ble_eq_true rfl) rfl).trans rfl
  · refine (vr_steps 1 (x' := (39, [(2, v0), (0, v1), (0, v2), (0, v3), (0, s0), q5], [(0, s0)], (K, M))) rfl).trans ?_
    exact vr_ret (ai := (35, 1, 1, 0, [])) rfl rfl
set_option maxRecDepth 100000 in
theorem e_X7_tie_45 {sc : dS} {d : Nat} {K : List (Nat × Nat)} {M : dM} {v0 v1 v2 v3 v4 : Int} {q5 : dV} : vr sc d c_X7_tie (45, [(2, v0), (0, v1), (0, v2), (0, v3), (0, v4), q5], [], (K, M)) = (if rg K 7 v0 = true then (vc sc d 155 [(2, v0), (0, v2)] (K, M)).bind (fun r => vr sc d c_X7_tie (50, [(2, v0), (0, v1), (0, v2), (0, v3), (0, v4), q5], r.1 ++ [], r.2)) else none) := by
  refine (vr_steps 2 (x' := (47, [(2, v0), (0, v1), (0, v2), (0, v3), (0, v4), q5], [(0, v2), (2, v0)], (K, M))) rfl).trans ?_
  exact (v_virt (k := 155) (n := 2) (tag := 7) (r := v0) (av := [(0, v2)]) (code := c_X7_tie) (pc := 47) (len := 3) (L := [(2, v0), (0, v1), (0, v2), (0, v3), (0, v4), q5]) (st := [(0, v2), (2, v0)]) rfl (Nat.le_of_ble_eq_true rfl) (Nat.le_of_ble_eq_true rfl) rfl).trans rfl
set_option maxRecDepth 100000 in
theorem e_X7_tie_50 {sc : dS} {d : Nat} {K : List (Nat × Nat)} {M : dM} {v0 v1 v2 v3 v4 : Int} {q5 : dV} : vr sc d c_X7_tie (50, [(2, v0), (0, v1), (0, v2), (0, v3), (0, v4), q5], [], (K, M)) = (if og K 7 v0 10 = true then (if ag K 8 (M v0 10) (w32 ((w32 (3 * v3)) + 1)) = true then (if og K 7 v0 10 = true then (if og K 7 v0 29 = true then (if ag K 8 ((d_up M (M v0 10) (w32 ((w32 (3 * v3)) + 1)) v2) v0 10) (w32 ((w32 (3 * v3)) + 2)) = true then vr sc d c_X7_tie (78, [(2, v0), (0, v1), (0, v2), (0, v3), (0, v4), (0, 0)], [], (K, d_up (d_up M (M v0 10) (w32 ((w32 (3 * v3)) + 1)) v2) ((d_up M (M v0 10) (w32 ((w32 (3 * v3)) + 1)) v2) v0 10) (w32 ((w32 (3 * v3)) + 2)) ((d_up M (M v0 10) (w32 ((w32 (3 * v3)) + 1)) v2) v0 29))) else none) else none) else none) else none) else none) := by
  refine (vr_steps 1 (x' := (51, [(2, v0), (0, v1), (0, v2), (0, v3), (0, v4), q5], [(2, v0)], (K, M))) rfl).trans ?_
  refine (v_getf (a := 7) (b := 10) (t := 2) rfl rfl).trans ?_
  refine g_congr (fun _ => ?_)
  refine (vr_steps 6 (x' := (60, [(2, v0), (0, v1), (0, v2), (0, v3), (0, v4), q5], [(0, v2), (0, w32 ((w32 (3 * v3)) + 1)), (2, M v0 10)], (K, M))) rfl).trans ?_
  refine (v_ast rfl).trans ?_
  refine g_congr (fun _ => ?_)
  refine (vr_steps 1 (x' := (62, [(2, v0), (0, v1), (0, v2), (0, v3), (0, v4), q5], [(2, v0)], (K, d_up M (M v0 10) (w32 ((w32 (3 * v3)) + 1)) v2))) rfl).trans ?_
  refine (v_getf (a := 7) (b := 10) (t := 2) rfl rfl).trans ?_
  refine g_congr (fun _ => ?_)
  refine (vr_steps 6 (x' := (71, [(2, v0), (0, v1), (0, v2), (0, v3), (0, v4), q5], [(2, v0), (0, w32 ((w32 (3 * v3)) + 2)), (2, (d_up M (M v0 10) (w32 ((w32 (3 * v3)) + 1)) v2) v0 10)], (K, d_up M (M v0 10) (w32 ((w32 (3 * v3)) + 1)) v2))) rfl).trans ?_
  refine (v_getf (a := 7) (b := 29) (t := 0) rfl rfl).trans ?_
  refine g_congr (fun _ => ?_)
  refine (v_ast rfl).trans ?_
  refine g_congr (fun _ => ?_)
  exact vr_steps 2 rfl
set_option maxRecDepth 100000 in
theorem e_X7_tie_78 {sc : dS} {d : Nat} {K : List (Nat × Nat)} {M : dM} {v0 v1 v2 v3 v4 v5 : Int} : vr sc d c_X7_tie (78, [(2, v0), (0, v1), (0, v2), (0, v3), (0, v4), (0, v5)], [], (K, M)) = (if og K 7 v0 29 = true then (if (M v0 29) ≤ v5 then (if rg K 7 v0 = true then (vc sc d 154 [(2, v0)] (K, M)).bind (fun r => vr sc d c_X7_tie (116, [(2, v0), (0, v1), (0, v2), (0, v3), (0, v4), (0, v5)], r.1 ++ [], r.2)) else none) else (if og K 7 v0 11 = true then (if og K 7 v0 28 = true then (if ag K 8 (M v0 28) v5 = true then (if ag K 8 (M v0 11) (w32 ((w32 (12 * v3)) + v5)) = true then vr sc d c_X7_tie (78, [(2, v0), (0, v1), (0, v2), (0, v3), (0, v4), (0, w32 (v5 + 1))], [], (K, d_up M (M v0 11) (w32 ((w32 (12 * v3)) + v5)) (M (M v0 28) v5))) else none) else none) else none) else none)) else none) := by
  refine (vr_steps 2 (x' := (81, [(2, v0), (0, v1), (0, v2), (0, v3), (0, v4), (0, v5)], [(2, v0), (0, v5)], (K, M))) rfl).trans ?_
  refine (v_getf (a := 7) (b := 29) (t := 0) rfl rfl).trans ?_
  refine g_congr (fun _ => ?_)
  refine (v_icmp (k := 3) (b := 112) (c := (M v0 29) ≤ v5) rfl rfl).trans ?_
  refine c_congr (fun _ => ?_) (fun _ => ?_)
  · refine (vr_steps 1 (x' := (113, [(2, v0), (0, v1), (0, v2), (0, v3), (0, v4), (0, v5)], [(2, v0)], (K, M))) rfl).trans ?_
    exact (v_virt (k := 154) (n := 1) (tag := 7) (r := v0) (av := []) (code := c_X7_tie) (pc := 113) (len := 3) (L := [(2, v0), (0, v1), (0, v2), (0, v3), (0, v4), (0, v5)]) (st := [(2, v0)]) rfl (Nat.le_of_ble_eq_true rfl) (Nat.le_of_ble_eq_true rfl) rfl).trans rfl
  · refine (vr_steps 1 (x' := (88, [(2, v0), (0, v1), (0, v2), (0, v3), (0, v4), (0, v5)], [(2, v0)], (K, M))) rfl).trans ?_
    refine (v_getf (a := 7) (b := 11) (t := 2) rfl rfl).trans ?_
    refine g_congr (fun _ => ?_)
    refine (vr_steps 6 (x' := (99, [(2, v0), (0, v1), (0, v2), (0, v3), (0, v4), (0, v5)], [(2, v0), (0, w32 ((w32 (12 * v3)) + v5)), (2, M v0 11)], (K, M))) rfl).trans ?_
    refine (v_getf (a := 7) (b := 28) (t := 2) rfl rfl).trans ?_
    refine g_congr (fun _ => ?_)
    refine (vr_steps 1 (x' := (104, [(2, v0), (0, v1), (0, v2), (0, v3), (0, v4), (0, v5)], [(0, v5), (2, M v0 28), (0, w32 ((w32 (12 * v3)) + v5)), (2, M v0 11)], (K, M))) rfl).trans ?_
    refine (v_ald (a := 8) rfl (by decide)).trans ?_
    refine g_congr (fun _ => ?_)
    refine (v_ast rfl).trans ?_
    refine g_congr (fun _ => ?_)
    exact vr_steps 2 rfl
set_option maxRecDepth 100000 in
theorem e_X7_tie_116 {sc : dS} {d : Nat} {K : List (Nat × Nat)} {M : dM} {v0 v1 v2 v3 v4 v5 s0 : Int} : vr sc d c_X7_tie (116, [(2, v0), (0, v1), (0, v2), (0, v3), (0, v4), (0, v5)], [(0, s0)], (K, M)) = (some ([(0, s0)], (K, M))) := by
  exact vr_ret (ai := (35, 1, 1, 0, [])) rfl rfl

noncomputable def c_X7_ties : Nat → Option dI := d_mcode m_X7_ties
set_option maxRecDepth 100000 in
theorem e_X7_ties_0 {sc : dS} {d : Nat} {K : List (Nat × Nat)} {M : dM} {v0 v1 v2 : Int} {q3 : dV} : vr sc d c_X7_ties (0, [(2, v0), (0, v1), (0, v2), q3], [], (K, M)) = ((vc sc d 196 [(0, v1)] (K, M)).bind (fun r => vr sc d c_X7_ties (4, [(2, v0), (0, v1), (0, v2), q3], r.1 ++ [], r.2))) := by
  refine (vr_steps 1 (x' := (1, [(2, v0), (0, v1), (0, v2), q3], [(0, v1)], (K, M))) rfl).trans ?_
  exact (v_stat (k := 196) (n := 1) (code := c_X7_ties) (pc := 1) (len := 3) (L := [(2, v0), (0, v1), (0, v2), q3]) (st := [(0, v1)]) rfl (Nat.le_of_ble_eq_true rfl) (Nat.le_of_ble_eq_true rfl)).trans rfl
set_option maxRecDepth 100000 in
theorem e_X7_ties_4 {sc : dS} {d : Nat} {K : List (Nat × Nat)} {M : dM} {v0 v1 v2 s0 : Int} {q3 : dV} : vr sc d c_X7_ties (4, [(2, v0), (0, v1), (0, v2), q3], [(0, s0)], (K, M)) = (if s0 = 0 then some ([(0, (-2))], (K, M)) else (if rg K 7 v0 = true then (vc sc d 118 [(2, v0), (0, v2)] (K, M)).bind (fun r => vr sc d c_X7_ties (12, [(2, v0), (0, v1), (0, v2), q3], r.1 ++ [], r.2)) else none)) := by
  refine (v_if (k := 0) (b := 15) (c := s0 = 0) rfl rfl).trans ?_
  refine c_congr (fun _ => ?_) (fun _ => ?_)
  · refine (vr_steps 1 (x' := (17, [(2, v0), (0, v1), (0, v2), q3], [(0, (-2))], (K, M))) rfl).trans ?_
    exact vr_ret (ai := (35, 1, 1, 0, [])) rfl rfl
  · refine (vr_steps 2 (x' := (9, [(2, v0), (0, v1), (0, v2), q3], [(0, v2), (2, v0)], (K, M))) rfl).trans ?_
    exact (v_virt (k := 118) (n := 2) (tag := 7) (r := v0) (av := [(0, v2)]) (code := c_X7_ties) (pc := 9) (len := 3) (L := [(2, v0), (0, v1), (0, v2), q3]) (st := [(0, v2), (2, v0)]) rfl (Nat.le_of_ble_eq_true rfl) (Nat.le_of_ble_eq_true rfl) rfl).trans rfl
set_option maxRecDepth 100000 in
theorem e_X7_ties_12 {sc : dS} {d : Nat} {K : List (Nat × Nat)} {M : dM} {v0 v1 v2 s0 : Int} {q3 : dV} : vr sc d c_X7_ties (12, [(2, v0), (0, v1), (0, v2), q3], [(0, s0)], (K, M)) = (if ¬ s0 = 0 then (if rg K 7 v0 = true then (vc sc d 156 [(2, v0), (0, v1)] (K, M)).bind (fun r => vr sc d c_X7_ties (23, [(2, v0), (0, v1), (0, v2), q3], r.1 ++ [], r.2)) else none) else some ([(0, (-2))], (K, M))) := by
  refine (v_if (k := 1) (b := 18) (c := ¬ s0 = 0) rfl rfl).trans ?_
  refine c_congr (fun _ => ?_) (fun _ => ?_)
  · refine (vr_steps 2 (x' := (20, [(2, v0), (0, v1), (0, v2), q3], [(0, v1), (2, v0)], (K, M))) rfl).trans ?_
    exact (v_virt (k := 156) (n := 2) (tag := 7) (r := v0) (av := [(0, v1)]) (code := c_X7_ties) (pc := 20) (len := 3) (L := [(2, v0), (0, v1), (0, v2), q3]) (st := [(0, v1), (2, v0)]) rfl (Nat.le_of_ble_eq_true rfl) (Nat.le_of_ble_eq_true rfl) rfl).trans rfl
  · refine (vr_steps 1 (x' := (17, [(2, v0), (0, v1), (0, v2), q3], [(0, (-2))], (K, M))) rfl).trans ?_
    exact vr_ret (ai := (35, 1, 1, 0, [])) rfl rfl
set_option maxRecDepth 100000 in
theorem e_X7_ties_23 {sc : dS} {d : Nat} {K : List (Nat × Nat)} {M : dM} {v0 v1 v2 s0 : Int} {q3 : dV} : vr sc d c_X7_ties (23, [(2, v0), (0, v1), (0, v2), q3], [(0, s0)], (K, M)) = (if s0 = 0 then (if rg K 7 v0 = true then (vc sc d 148 [(2, v0), (0, v1)] (K, M)).bind (fun r => vr sc d c_X7_ties (35, [(2, v0), (0, v1), (0, v2), (0, s0)], r.1 ++ [], r.2)) else none) else some ([(0, s0)], (K, M))) := by
  refine (vr_steps 2 (x' := (25, [(2, v0), (0, v1), (0, v2), (0, s0)], [(0, s0)], (K, M))) rfl).trans ?_
  refine (v_if (k := 0) (b := 30) (c := s0 = 0) rfl rfl).trans ?_
  refine c_congr (fun _ => ?_) (fun _ => ?_)
  · refine (vr_steps 2 (x' := (32, [(2, v0), (0, v1), (0, v2), (0, s0)], [(0, v1), (2, v0)], (K, M))) rfl).trans ?_
    exact (v_virt (k := 148) (n := 2) (tag := 7) (r := v0) (av := [(0, v1)]) (code := c_X7_ties) (pc := 32) (len := 3) (L := [(2, v0), (0, v1), (0, v2), (0, s0)]) (st := [(0, v1), (2, v0)]) rfl (Nat.le_of_ble_eq_true rfl) (Nat.le_of_ble_eq_true rfl) rfl).trans rfl
  · refine (vr_steps 1 (x' := (29, [(2, v0), (0, v1), (0, v2), (0, s0)], [(0, s0)], (K, M))) rfl).trans ?_
    exact vr_ret (ai := (35, 1, 1, 0, [])) rfl rfl
set_option maxRecDepth 100000 in
theorem e_X7_ties_35 {sc : dS} {d : Nat} {K : List (Nat × Nat)} {M : dM} {v0 v1 v2 v3 : Int} : vr sc d c_X7_ties (35, [(2, v0), (0, v1), (0, v2), (0, v3)], [], (K, M)) = (if rg K 7 v0 = true then (vc sc d 155 [(2, v0), (0, v2)] (K, M)).bind (fun r => vr sc d c_X7_ties (40, [(2, v0), (0, v1), (0, v2), (0, v3)], r.1 ++ [], r.2)) else none) := by
  refine (vr_steps 2 (x' := (37, [(2, v0), (0, v1), (0, v2), (0, v3)], [(0, v2), (2, v0)], (K, M))) rfl).trans ?_
  exact (v_virt (k := 155) (n := 2) (tag := 7) (r := v0) (av := [(0, v2)]) (code := c_X7_ties) (pc := 37) (len := 3) (L := [(2, v0), (0, v1), (0, v2), (0, v3)]) (st := [(0, v2), (2, v0)]) rfl (Nat.le_of_ble_eq_true rfl) (Nat.le_of_ble_eq_true rfl) rfl).trans rfl
set_option maxRecDepth 100000 in
theorem e_X7_ties_40 {sc : dS} {d : Nat} {K : List (Nat × Nat)} {M : dM} {v0 v1 v2 v3 : Int} : vr sc d c_X7_ties (40, [(2, v0), (0, v1), (0, v2), (0, v3)], [], (K, M)) = (if rg K 7 v0 = true then (vc sc d 149 [(2, v0)] (K, M)).bind (fun r => vr sc d c_X7_ties (44, [(2, v0), (0, v1), (0, v2), (0, v3)], r.1 ++ [], r.2)) else none) := by
  refine (vr_steps 1 (x' := (41, [(2, v0), (0, v1), (0, v2), (0, v3)], [(2, v0)], (K, M))) rfl).trans ?_
  exact (v_virt (k := 149) (n := 1) (tag := 7) (r := v0) (av := []) (code := c_X7_ties) (pc := 41) (len := 3) (L := [(2, v0), (0, v1), (0, v2), (0, v3)]) (st := [(2, v0)]) rfl (Nat.le_of_ble_eq_true rfl) (Nat.le_of_ble_eq_true rfl) rfl).trans rfl
set_option maxRecDepth 100000 in
theorem e_X7_ties_44 {sc : dS} {d : Nat} {K : List (Nat × Nat)} {M : dM} {v0 v1 v2 v3 s0 : Int} : vr sc d c_X7_ties (44, [(2, v0), (0, v1), (0, v2), (0, v3)], [(0, s0)], (K, M)) = (some ([(0, s0)], (K, M))) := by
  exact vr_ret (ai := (35, 1, 1, 0, [])) rfl rfl

noncomputable def c_X7_comesAway : Nat → Option dI := d_mcode m_X7_comesAway
set_option maxRecDepth 100000 in
theorem e_X7_comesAway_0 {sc : dS} {d : Nat} {K : List (Nat × Nat)} {M : dM} {v0 v1 : Int} {q2 q3 : dV} : vr sc d c_X7_comesAway (0, [(2, v0), (0, v1), q2, q3], [], (K, M)) = (if rg K 7 v0 = true then (vc sc d 151 [(2, v0)] (K, M)).bind (fun r => vr sc d c_X7_comesAway (4, [(2, v0), (0, v1), q2, q3], r.1 ++ [], r.2)) else none) := by
  refine (vr_steps 1 (x' := (1, [(2, v0), (0, v1), q2, q3], [(2, v0)], (K, M))) rfl).trans ?_
  exact (v_virt (k := 151) (n := 1) (tag := 7) (r := v0) (av := []) (code := c_X7_comesAway) (pc := 1) (len := 3) (L := [(2, v0), (0, v1), q2, q3]) (st := [(2, v0)]) rfl (Nat.le_of_ble_eq_true rfl) (Nat.le_of_ble_eq_true rfl) rfl).trans rfl
set_option maxRecDepth 100000 in
theorem e_X7_comesAway_4 {sc : dS} {d : Nat} {K : List (Nat × Nat)} {M : dM} {v0 v1 : Int} {q2 q3 : dV} : vr sc d c_X7_comesAway (4, [(2, v0), (0, v1), q2, q3], [], (K, M)) = (if og K 7 v0 29 = true then (if ¬ (M v0 29) = 0 then vr sc d c_X7_comesAway (17, [(2, v0), (0, v1), (0, 0), (0, 0)], [], (K, M)) else some ([(0, 0)], (K, M))) else none) := by
  refine (vr_steps 1 (x' := (5, [(2, v0), (0, v1), q2, q3], [(2, v0)], (K, M))) rfl).trans ?_
  refine (v_getf (a := 7) (b := 29) (t := 0) rfl rfl).trans ?_
  refine g_congr (fun _ => ?_)
  refine (v_if (k := 1) (b := 13) (c := ¬ (M v0 29) = 0) rfl rfl).trans ?_
  refine c_congr (fun _ => ?_) (fun _ => ?_)
  · exact vr_steps 4 rfl
  · refine (vr_steps 1 (x' := (12, [(2, v0), (0, v1), q2, q3], [(0, 0)], (K, M))) rfl).trans ?_
    exact vr_ret (ai := (35, 1, 3, 0, [])) rfl rfl
set_option maxRecDepth 100000 in
theorem e_X7_comesAway_17 {sc : dS} {d : Nat} {K : List (Nat × Nat)} {M : dM} {v0 v1 v2 v3 : Int} : vr sc d c_X7_comesAway (17, [(2, v0), (0, v1), (0, v2), (0, v3)], [], (K, M)) = (if og K 7 v0 29 = true then (if (M v0 29) ≤ v3 then (if og K 7 v0 29 = true then (if -2147483648 ≤ v2 ∧ v2 < 2147483648 then (if rg K 7 v0 = true then (vc sc d 151 [(2, v0)] (K, d_up M v0 29 v2)).bind (fun r => vr sc d c_X7_comesAway (68, [(2, v0), (0, v1), (0, v2), (0, v3)], r.1 ++ [], r.2)) else none) else none) else none) else (if og K 7 v0 28 = true then (if ag K 8 (M v0 28) v3 = true then (if (w32 ((i_xor (M (M v0 28) v3) v1).tmod 2)) = 0 then vr sc d c_X7_comesAway (17, [(2, v0), (0, v1), (0, v2), (0, w32 (v3 + 1))], [], (K, M)) else (if og K 7 v0 28 = true then (if og K 7 v0 28 = true then (if ag K 8 (M v0 28) v3 = true then (if ag K 8 (M v0 28) v2 = true then vr sc d c_X7_comesAway (17, [(2, v0), (0, v1), (0, w32 (v2 + 1)), (0, w32 (v3 + 1))], [], (K, d_up M (M v0 28) v2 (M (M v0 28) v3))) else none) else none) else none) else none)) else none) else none)) else none) := by
  refine (vr_steps 2 (x' := (19, [(2, v0), (0, v1), (0, v2), (0, v3)], [(2, v0), (0, v3)], (K, M))) rfl).trans ?_
  refine (v_getf (a := 7) (b := 29) (t := 0) rfl rfl).trans ?_
  refine g_congr (fun _ => ?_)
  refine (v_icmp (k := 3) (b := 59) (c := (M v0 29) ≤ v3) rfl rfl).trans ?_
  refine c_congr (fun _ => ?_) (fun _ => ?_)
  · refine (vr_steps 2 (x' := (61, [(2, v0), (0, v1), (0, v2), (0, v3)], [(0, v2), (2, v0)], (K, M))) rfl).trans ?_
    refine (v_putf (a := 7) (b := 29) (t := 0) rfl rfl (by intro q; cases q)).trans ?_
    refine g_congr (fun _ => ?_)
    refine p_congr (fun _ => ?_)
    refine (vr_steps 1 (x' := (65, [(2, v0), (0, v1), (0, v2), (0, v3)], [(2, v0)], (K, d_up M v0 29 v2))) rfl).trans ?_
    exact (v_virt (k := 151) (n := 1) (tag := 7) (r := v0) (av := []) (code := c_X7_comesAway) (pc := 65) (len := 3) (L := [(2, v0), (0, v1), (0, v2), (0, v3)]) (st := [(2, v0)]) rfl (Nat.le_of_ble_eq_true rfl) (Nat.le_of_ble_eq_true rfl) rfl).trans rfl
  · refine (vr_steps 1 (x' := (26, [(2, v0), (0, v1), (0, v2), (0, v3)], [(2, v0)], (K, M))) rfl).trans ?_
    refine (v_getf (a := 7) (b := 28) (t := 2) rfl rfl).trans ?_
    refine g_congr (fun _ => ?_)
    refine (vr_steps 1 (x' := (30, [(2, v0), (0, v1), (0, v2), (0, v3)], [(0, v3), (2, M v0 28)], (K, M))) rfl).trans ?_
    refine (v_ald (a := 8) rfl (by decide)).trans ?_
    refine g_congr (fun _ => ?_)
    refine (vr_steps 4 (x' := (35, [(2, v0), (0, v1), (0, v2), (0, v3)], [(0, w32 ((i_xor (M (M v0 28) v3) v1).tmod 2))], (K, M))) rfl).trans ?_
    refine (v_if (k := 0) (b := 53) (c := (w32 ((i_xor (M (M v0 28) v3) v1).tmod 2)) = 0) rfl rfl).trans ?_
    refine c_congr (fun _ => ?_) (fun _ => ?_)
    · exact vr_steps 2 rfl
    · refine (vr_steps 1 (x' := (39, [(2, v0), (0, v1), (0, v2), (0, v3)], [(2, v0)], (K, M))) rfl).trans ?_
      refine (v_getf (a := 7) (b := 28) (t := 2) rfl rfl).trans ?_
      refine g_congr (fun _ => ?_)
      refine (vr_steps 2 (x' := (44, [(2, v0), (0, v1), (0, v2), (0, v3)], [(2, v0), (0, v2), (2, M v0 28)], (K, M))) rfl).trans ?_
      refine (v_getf (a := 7) (b := 28) (t := 2) rfl rfl).trans ?_
      refine g_congr (fun _ => ?_)
      refine (vr_steps 1 (x' := (48, [(2, v0), (0, v1), (0, v2), (0, v3)], [(0, v3), (2, M v0 28), (0, v2), (2, M v0 28)], (K, M))) rfl).trans ?_
      refine (v_ald (a := 8) rfl (by decide)).trans ?_
      refine g_congr (fun _ => ?_)
      refine (v_ast rfl).trans ?_
      refine g_congr (fun _ => ?_)
      exact vr_steps 3 rfl
set_option maxRecDepth 100000 in
theorem e_X7_comesAway_68 {sc : dS} {d : Nat} {K : List (Nat × Nat)} {M : dM} {v0 v1 v2 v3 : Int} : vr sc d c_X7_comesAway (68, [(2, v0), (0, v1), (0, v2), (0, v3)], [], (K, M)) = (if og K 7 v0 29 = true then (if ¬ (M v0 29) = 0 then some ([(0, 0)], (K, M)) else some ([(0, 1)], (K, M))) else none) := by
  refine (vr_steps 1 (x' := (69, [(2, v0), (0, v1), (0, v2), (0, v3)], [(2, v0)], (K, M))) rfl).trans ?_
  refine (v_getf (a := 7) (b := 29) (t := 0) rfl rfl).trans ?_
  refine g_congr (fun _ => ?_)
  refine (v_if (k := 1) (b := 79) (c := ¬ (M v0 29) = 0) rfl rfl).trans ?_
  refine c_congr (fun _ => ?_) (fun _ => ?_)
  · refine (vr_steps 1 (x' := (80, [(2, v0), (0, v1), (0, v2), (0, v3)], [(0, 0)], (K, M))) rfl).trans ?_
    exact vr_ret (ai := (35, 1, 3, 0, [])) rfl rfl
  · refine (vr_steps 2 (x' := (80, [(2, v0), (0, v1), (0, v2), (0, v3)], [(0, 1)], (K, M))) rfl).trans ?_
    exact vr_ret (ai := (35, 1, 3, 0, [])) rfl rfl

noncomputable def c_X7_awaySet : Nat → Option dI := d_mcode m_X7_awaySet
set_option maxRecDepth 100000 in
theorem e_X7_awaySet_0 {sc : dS} {d : Nat} {K : List (Nat × Nat)} {M : dM} {v0 v1 : Int} {q2 q3 : dV} : vr sc d c_X7_awaySet (0, [(2, v0), (0, v1), q2, q3], [], (K, M)) = (vr sc d c_X7_awaySet (4, [(2, v0), (0, v1), (0, 0), (0, 0)], [], (K, M))) := by
  exact vr_steps 4 rfl
set_option maxRecDepth 100000 in
theorem e_X7_awaySet_4 {sc : dS} {d : Nat} {K : List (Nat × Nat)} {M : dM} {v0 v1 v2 v3 : Int} : vr sc d c_X7_awaySet (4, [(2, v0), (0, v1), (0, v2), (0, v3)], [], (K, M)) = (if 4 ≤ v3 then some ([(0, v2)], (K, M)) else (if rg K 7 v0 = true then (vc sc d 148 [(2, v0), (0, v1)] (K, M)).bind (fun r => vr sc d c_X7_awaySet (14, [(2, v0), (0, v1), (0, v2), (0, v3)], r.1 ++ [], r.2)) else none)) := by
  refine (vr_steps 2 (x' := (6, [(2, v0), (0, v1), (0, v2), (0, v3)], [(0, 4), (0, v3)], (K, M))) rfl).trans ?_
  refine (v_icmp (k := 3) (b := 38) (c := 4 ≤ v3) rfl rfl).trans ?_
  refine c_congr (fun _ => ?_) (fun _ => ?_)
  · refine (vr_steps 1 (x' := (39, [(2, v0), (0, v1), (0, v2), (0, v3)], [(0, v2)], (K, M))) rfl).trans ?_
    exact vr_ret (ai := (35, 1, 1, 0, [])) rfl rfl
  · refine (vr_steps 2 (x' := (11, [(2, v0), (0, v1), (0, v2), (0, v3)], [(0, v1), (2, v0)], (K, M))) rfl).trans ?_
    exact (v_virt (k := 148) (n := 2) (tag := 7) (r := v0) (av := [(0, v1)]) (code := c_X7_awaySet) (pc := 11) (len := 3) (L := [(2, v0), (0, v1), (0, v2), (0, v3)]) (st := [(0, v1), (2, v0)]) rfl (Nat.le_of_ble_eq_true rfl) (Nat.le_of_ble_eq_true rfl) rfl).trans rfl
set_option maxRecDepth 100000 in
theorem e_X7_awaySet_14 {sc : dS} {d : Nat} {K : List (Nat × Nat)} {M : dM} {v0 v1 v2 v3 : Int} : vr sc d c_X7_awaySet (14, [(2, v0), (0, v1), (0, v2), (0, v3)], [], (K, M)) = (if rg K 7 v0 = true then (vc sc d 159 [(2, v0), (0, v3)] (K, M)).bind (fun r => vr sc d c_X7_awaySet (20, [(2, v0), (0, v1), (0, v2), (0, v3)], r.1 ++ [(0, v2)], r.2)) else none) := by
  refine (vr_steps 3 (x' := (17, [(2, v0), (0, v1), (0, v2), (0, v3)], [(0, v3), (2, v0), (0, v2)], (K, M))) rfl).trans ?_
  exact (v_virt (k := 159) (n := 2) (tag := 7) (r := v0) (av := [(0, v3)]) (code := c_X7_awaySet) (pc := 17) (len := 3) (L := [(2, v0), (0, v1), (0, v2), (0, v3)]) (st := [(0, v3), (2, v0), (0, v2)]) rfl (Nat.le_of_ble_eq_true rfl) (Nat.le_of_ble_eq_true rfl) rfl).trans rfl
set_option maxRecDepth 100000 in
theorem e_X7_awaySet_20 {sc : dS} {d : Nat} {K : List (Nat × Nat)} {M : dM} {v0 v1 v2 v3 s0 s1 : Int} : vr sc d c_X7_awaySet (20, [(2, v0), (0, v1), (0, v2), (0, v3)], [(0, s1), (0, s0)], (K, M)) = (if s1 = 0 then vr sc d c_X7_awaySet (4, [(2, v0), (0, v1), (0, i_or s0 (i_shl 0 v3)), (0, w32 (v3 + 1))], [], (K, M)) else vr sc d c_X7_awaySet (4, [(2, v0), (0, v1), (0, i_or s0 (i_shl 1 v3)), (0, w32 (v3 + 1))], [], (K, M))) := by
  refine (v_if (k := 0) (b := 27) (c := s1 = 0) rfl rfl).trans ?_
  refine c_congr (fun _ => ?_) (fun _ => ?_)
  · exact vr_steps 7 rfl
  · exact vr_steps 8 rfl

noncomputable def c_X7_knot : Nat → Option dI := d_mcode m_X7_knot
set_option maxRecDepth 100000 in
theorem e_X7_knot_0 {sc : dS} {d : Nat} {K : List (Nat × Nat)} {M : dM} {v0 v1 v2 : Int} {q3 : dV} : vr sc d c_X7_knot (0, [(2, v0), (0, v1), (0, v2), q3], [], (K, M)) = ((vc sc d 196 [(0, v1)] (K, M)).bind (fun r => vr sc d c_X7_knot (4, [(2, v0), (0, v1), (0, v2), q3], r.1 ++ [], r.2))) := by
  refine (vr_steps 1 (x' := (1, [(2, v0), (0, v1), (0, v2), q3], [(0, v1)], (K, M))) rfl).trans ?_
  exact (v_stat (k := 196) (n := 1) (code := c_X7_knot) (pc := 1) (len := 3) (L := [(2, v0), (0, v1), (0, v2), q3]) (st := [(0, v1)]) rfl (Nat.le_of_ble_eq_true rfl) (Nat.le_of_ble_eq_true rfl)).trans rfl
set_option maxRecDepth 100000 in
theorem e_X7_knot_4 {sc : dS} {d : Nat} {K : List (Nat × Nat)} {M : dM} {v0 v1 v2 s0 : Int} {q3 : dV} : vr sc d c_X7_knot (4, [(2, v0), (0, v1), (0, v2), q3], [(0, s0)], (K, M)) = (if s0 = 0 then some ([(0, (-2))], (K, M)) else (vc sc d 114 [(1, v2), (1, 0), (1, 4)] (K, M)).bind (fun r => vr sc d c_X7_knot (16, [(2, v0), (0, v1), (0, v2), q3], r.1 ++ [], r.2))) := by
  refine (v_if (k := 0) (b := 19) (c := s0 = 0) rfl rfl).trans ?_
  refine c_congr (fun _ => ?_) (fun _ => ?_)
  · refine (vr_steps 1 (x' := (21, [(2, v0), (0, v1), (0, v2), q3], [(0, (-2))], (K, M))) rfl).trans ?_
    exact vr_ret (ai := (35, 1, 1, 0, [])) rfl rfl
  · refine (vr_steps 4 (x' := (13, [(2, v0), (0, v1), (0, v2), q3], [(1, 4), (1, 0), (1, v2)], (K, M))) rfl).trans ?_
    exact (v_stat (k := 114) (n := 3) (code := c_X7_knot) (pc := 13) (len := 3) (L := [(2, v0), (0, v1), (0, v2), q3]) (st := [(1, 4), (1, 0), (1, v2)]) rfl (Nat.le_of_ble_eq_true rfl) (Nat.le_of_ble_eq_true rfl)).trans rfl
set_option maxRecDepth 100000 in
theorem e_X7_knot_16 {sc : dS} {d : Nat} {K : List (Nat × Nat)} {M : dM} {v0 v1 v2 s0 : Int} {q3 : dV} : vr sc d c_X7_knot (16, [(2, v0), (0, v1), (0, v2), q3], [(0, s0)], (K, M)) = (if ¬ s0 = 0 then (if rg K 7 v0 = true then (vc sc d 156 [(2, v0), (0, v1)] (K, M)).bind (fun r => vr sc d c_X7_knot (27, [(2, v0), (0, v1), (0, v2), q3], r.1 ++ [], r.2)) else none) else some ([(0, (-2))], (K, M))) := by
  refine (v_if (k := 1) (b := 22) (c := ¬ s0 = 0) rfl rfl).trans ?_
  refine c_congr (fun _ => ?_) (fun _ => ?_)
  · refine (vr_steps 2 (x' := (24, [(2, v0), (0, v1), (0, v2), q3], [(0, v1), (2, v0)], (K, M))) rfl).trans ?_
    exact (v_virt (k := 156) (n := 2) (tag := 7) (r := v0) (av := [(0, v1)]) (code := c_X7_knot) (pc := 24) (len := 3) (L := [(2, v0), (0, v1), (0, v2), q3]) (st := [(0, v1), (2, v0)]) rfl (Nat.le_of_ble_eq_true rfl) (Nat.le_of_ble_eq_true rfl) rfl).trans rfl
  · refine (vr_steps 1 (x' := (21, [(2, v0), (0, v1), (0, v2), q3], [(0, (-2))], (K, M))) rfl).trans ?_
    exact vr_ret (ai := (35, 1, 1, 0, [])) rfl rfl
set_option maxRecDepth 100000 in
theorem e_X7_knot_27 {sc : dS} {d : Nat} {K : List (Nat × Nat)} {M : dM} {v0 v1 v2 s0 : Int} {q3 : dV} : vr sc d c_X7_knot (27, [(2, v0), (0, v1), (0, v2), q3], [(0, s0)], (K, M)) = (if s0 = 0 then (if ¬ v2 = 4 then (if rg K 7 v0 = true then (vc sc d 148 [(2, v0), (0, v1)] (K, M)).bind (fun r => vr sc d c_X7_knot (50, [(2, v0), (0, v1), (0, v2), (0, s0)], r.1 ++ [], r.2)) else none) else (if rg K 7 v0 = true then (vc sc d 160 [(2, v0), (0, v1)] (K, M)).bind (fun r => vr sc d c_X7_knot (44, [(2, v0), (0, v1), (0, v2), (0, s0)], r.1 ++ [], r.2)) else none)) else some ([(0, s0)], (K, M))) := by
  refine (vr_steps 2 (x' := (29, [(2, v0), (0, v1), (0, v2), (0, s0)], [(0, s0)], (K, M))) rfl).trans ?_
  refine (v_if (k := 0) (b := 34) (c := s0 = 0) rfl rfl).trans ?_
  refine c_congr (fun _ => ?_) (fun _ => ?_)
  · refine (vr_steps 2 (x' := (36, [(2, v0), (0, v1), (0, v2), (0, s0)], [(0, 4), (0, v2)], (K, M))) rfl).trans ?_
    refine (v_icmp (k := 1) (b := 45) (c := ¬ v2 = 4) rfl rfl).trans ?_
    refine c_congr (fun _ => ?_) (fun _ => ?_)
    · refine (vr_steps 2 (x' := (47, [(2, v0), (0, v1), (0, v2), (0, s0)], [(0, v1), (2, v0)], (K, M))) rfl).trans ?_
      exact (v_virt (k := 148) (n := 2) (tag := 7) (r := v0) (av := [(0, v1)]) (code := c_X7_knot) (pc := 47) (len := 3) (L := [(2, v0), (0, v1), (0, v2), (0, s0)]) (st := [(0, v1), (2, v0)]) rfl (Nat.le_of_ble_eq_true rfl) (Nat.le_of_ble_eq_true rfl) rfl).trans rfl
    · refine (vr_steps 2 (x' := (41, [(2, v0), (0, v1), (0, v2), (0, s0)], [(0, v1), (2, v0)], (K, M))) rfl).trans ?_
      exact (v_virt (k := 160) (n := 2) (tag := 7) (r := v0) (av := [(0, v1)]) (code := c_X7_knot) (pc := 41) (len := 3) (L := [(2, v0), (0, v1), (0, v2), (0, s0)]) (st := [(0, v1), (2, v0)]) rfl (Nat.le_of_ble_eq_true rfl) (Nat.le_of_ble_eq_true rfl) rfl).trans rfl
  · refine (vr_steps 1 (x' := (33, [(2, v0), (0, v1), (0, v2), (0, s0)], [(0, s0)], (K, M))) rfl).trans ?_
    exact vr_ret (ai := (35, 1, 1, 0, [])) rfl rfl
set_option maxRecDepth 100000 in
theorem e_X7_knot_44 {sc : dS} {d : Nat} {K : List (Nat × Nat)} {M : dM} {v0 v1 v2 v3 s0 : Int} : vr sc d c_X7_knot (44, [(2, v0), (0, v1), (0, v2), (0, v3)], [(0, s0)], (K, M)) = (some ([(0, s0)], (K, M))) := by
  exact vr_ret (ai := (35, 1, 1, 0, [])) rfl rfl
set_option maxRecDepth 100000 in
theorem e_X7_knot_50 {sc : dS} {d : Nat} {K : List (Nat × Nat)} {M : dM} {v0 v1 v2 v3 : Int} : vr sc d c_X7_knot (50, [(2, v0), (0, v1), (0, v2), (0, v3)], [], (K, M)) = (if ¬ v2 = 1 then vr sc d c_X7_knot (59, [(2, v0), (0, v1), (0, v2), (0, v3)], [], (K, M)) else (if rg K 7 v0 = true then (vc sc d 151 [(2, v0)] (K, M)).bind (fun r => vr sc d c_X7_knot (59, [(2, v0), (0, v1), (0, v2), (0, v3)], r.1 ++ [], r.2)) else none)) := by
  refine (vr_steps 2 (x' := (52, [(2, v0), (0, v1), (0, v2), (0, v3)], [(0, 1), (0, v2)], (K, M))) rfl).trans ?_
  refine (v_icmp (k := 1) (b := 59) (c := ¬ v2 = 1) rfl rfl).trans ?_
  refine c_congr (fun _ => ?_) (fun _ => ?_)
  · rfl
  · refine (vr_steps 1 (x' := (56, [(2, v0), (0, v1), (0, v2), (0, v3)], [(2, v0)], (K, M))) rfl).trans ?_
    exact (v_virt (k := 151) (n := 1) (tag := 7) (r := v0) (av := []) (code := c_X7_knot) (pc := 56) (len := 3) (L := [(2, v0), (0, v1), (0, v2), (0, v3)]) (st := [(2, v0)]) rfl (Nat.le_of_ble_eq_true rfl) (Nat.le_of_ble_eq_true rfl) rfl).trans rfl
set_option maxRecDepth 100000 in
theorem e_X7_knot_59 {sc : dS} {d : Nat} {K : List (Nat × Nat)} {M : dM} {v0 v1 v2 v3 : Int} : vr sc d c_X7_knot (59, [(2, v0), (0, v1), (0, v2), (0, v3)], [], (K, M)) = (if v2 ≤ 1 then vr sc d c_X7_knot (68, [(2, v0), (0, v1), (0, v2), (0, v3)], [], (K, M)) else (if rg K 7 v0 = true then (vc sc d 152 [(2, v0)] (K, M)).bind (fun r => vr sc d c_X7_knot (68, [(2, v0), (0, v1), (0, v2), (0, v3)], r.1 ++ [], r.2)) else none)) := by
  refine (vr_steps 2 (x' := (61, [(2, v0), (0, v1), (0, v2), (0, v3)], [(0, 1), (0, v2)], (K, M))) rfl).trans ?_
  refine (v_icmp (k := 5) (b := 68) (c := v2 ≤ 1) rfl rfl).trans ?_
  refine c_congr (fun _ => ?_) (fun _ => ?_)
  · rfl
  · refine (vr_steps 1 (x' := (65, [(2, v0), (0, v1), (0, v2), (0, v3)], [(2, v0)], (K, M))) rfl).trans ?_
    exact (v_virt (k := 152) (n := 1) (tag := 7) (r := v0) (av := []) (code := c_X7_knot) (pc := 65) (len := 3) (L := [(2, v0), (0, v1), (0, v2), (0, v3)]) (st := [(2, v0)]) rfl (Nat.le_of_ble_eq_true rfl) (Nat.le_of_ble_eq_true rfl) rfl).trans rfl
set_option maxRecDepth 100000 in
theorem e_X7_knot_68 {sc : dS} {d : Nat} {K : List (Nat × Nat)} {M : dM} {v0 v1 v2 v3 : Int} : vr sc d c_X7_knot (68, [(2, v0), (0, v1), (0, v2), (0, v3)], [], (K, M)) = (if ¬ v2 = 3 then (if rg K 7 v0 = true then (vc sc d 149 [(2, v0)] (K, M)).bind (fun r => vr sc d c_X7_knot (84, [(2, v0), (0, v1), (0, v2), (0, v3)], r.1 ++ [], r.2)) else none) else (if og K 7 v0 29 = true then vr sc d c_X7_knot (84, [(2, v0), (0, v1), (0, v2), (0, v3)], [(0, M v0 29)], (K, M)) else none)) := by
  refine (vr_steps 2 (x' := (70, [(2, v0), (0, v1), (0, v2), (0, v3)], [(0, 3), (0, v2)], (K, M))) rfl).trans ?_
  refine (v_icmp (k := 1) (b := 80) (c := ¬ v2 = 3) rfl rfl).trans ?_
  refine c_congr (fun _ => ?_) (fun _ => ?_)
  · refine (vr_steps 1 (x' := (81, [(2, v0), (0, v1), (0, v2), (0, v3)], [(2, v0)], (K, M))) rfl).trans ?_
    exact (v_virt (k := 149) (n := 1) (tag := 7) (r := v0) (av := []) (code := c_X7_knot) (pc := 81) (len := 3) (L := [(2, v0), (0, v1), (0, v2), (0, v3)]) (st := [(2, v0)]) rfl (Nat.le_of_ble_eq_true rfl) (Nat.le_of_ble_eq_true rfl) rfl).trans rfl
  · refine (vr_steps 1 (x' := (74, [(2, v0), (0, v1), (0, v2), (0, v3)], [(2, v0)], (K, M))) rfl).trans ?_
    refine (v_getf (a := 7) (b := 29) (t := 0) rfl rfl).trans ?_
    refine g_congr (fun _ => ?_)
    exact vr_steps 1 rfl
set_option maxRecDepth 100000 in
theorem e_X7_knot_84 {sc : dS} {d : Nat} {K : List (Nat × Nat)} {M : dM} {v0 v1 v2 v3 s0 : Int} : vr sc d c_X7_knot (84, [(2, v0), (0, v1), (0, v2), (0, v3)], [(0, s0)], (K, M)) = (some ([(0, s0)], (K, M))) := by
  exact vr_ret (ai := (35, 1, 1, 0, [])) rfl rfl

noncomputable def c_X7_isTurned : Nat → Option dI := d_mcode m_X7_isTurned
set_option maxRecDepth 100000 in
theorem e_X7_isTurned_0 {sc : dS} {d : Nat} {K : List (Nat × Nat)} {M : dM} {v0 v1 : Int} {q2 : dV} : vr sc d c_X7_isTurned (0, [(2, v0), (0, v1), q2], [], (K, M)) = (vr sc d c_X7_isTurned (2, [(2, v0), (0, v1), (0, 0)], [], (K, M))) := by
  exact vr_steps 2 rfl
set_option maxRecDepth 100000 in
theorem e_X7_isTurned_2 {sc : dS} {d : Nat} {K : List (Nat × Nat)} {M : dM} {v0 v1 v2 : Int} : vr sc d c_X7_isTurned (2, [(2, v0), (0, v1), (0, v2)], [], (K, M)) = (if og K 7 v0 29 = true then (if (M v0 29) ≤ v2 then some ([(0, 1)], (K, M)) else (if og K 7 v0 28 = true then (if ag K 8 (M v0 28) v2 = true then (if og K 7 v0 30 = true then (if og K 7 v0 29 = true then (if (M v0 29) = 0 then none else if ag K 8 (M v0 30) (w32 ((w32 (v2 + v1)).tmod (M v0 29))) = true then (if (M (M v0 28) v2) = (M (M v0 30) (w32 ((w32 (v2 + v1)).tmod (M v0 29)))) then vr sc d c_X7_isTurned (2, [(2, v0), (0, v1), (0, w32 (v2 + 1))], [], (K, M)) else some ([(0, 0)], (K, M))) else none) else none) else none) else none) else none)) else none) := by
  refine (vr_steps 2 (x' := (4, [(2, v0), (0, v1), (0, v2)], [(2, v0), (0, v2)], (K, M))) rfl).trans ?_
  refine (v_getf (a := 7) (b := 29) (t := 0) rfl rfl).trans ?_
  refine g_congr (fun _ => ?_)
  refine (v_icmp (k := 3) (b := 40) (c := (M v0 29) ≤ v2) rfl rfl).trans ?_
  refine c_congr (fun _ => ?_) (fun _ => ?_)
  · refine (vr_steps 1 (x' := (41, [(2, v0), (0, v1), (0, v2)], [(0, 1)], (K, M))) rfl).trans ?_
    exact vr_ret (ai := (35, 1, 3, 0, [])) rfl rfl
  · refine (vr_steps 1 (x' := (11, [(2, v0), (0, v1), (0, v2)], [(2, v0)], (K, M))) rfl).trans ?_
    refine (v_getf (a := 7) (b := 28) (t := 2) rfl rfl).trans ?_
    refine g_congr (fun _ => ?_)
    refine (vr_steps 1 (x' := (15, [(2, v0), (0, v1), (0, v2)], [(0, v2), (2, M v0 28)], (K, M))) rfl).trans ?_
    refine (v_ald (a := 8) rfl (by decide)).trans ?_
    refine g_congr (fun _ => ?_)
    refine (vr_steps 1 (x' := (17, [(2, v0), (0, v1), (0, v2)], [(2, v0), (0, M (M v0 28) v2)], (K, M))) rfl).trans ?_
    refine (v_getf (a := 7) (b := 30) (t := 2) rfl rfl).trans ?_
    refine g_congr (fun _ => ?_)
    refine (vr_steps 4 (x' := (24, [(2, v0), (0, v1), (0, v2)], [(2, v0), (0, w32 (v2 + v1)), (2, M v0 30), (0, M (M v0 28) v2)], (K, M))) rfl).trans ?_
    refine (v_getf (a := 7) (b := 29) (t := 0) rfl rfl).trans ?_
    refine g_congr (fun _ => ?_)
    refine (v_div (k := 10) (w := w32 ((w32 (v2 + v1)).tmod (M v0 29))) rfl rfl).trans ?_
    refine n_congr (fun _ => ?_)
    refine (v_ald (a := 8) rfl (by decide)).trans ?_
    refine g_congr (fun _ => ?_)
    refine (v_icmp (k := 0) (b := 34) (c := (M (M v0 28) v2) = (M (M v0 30) (w32 ((w32 (v2 + v1)).tmod (M v0 29))))) rfl rfl).trans ?_
    refine c_congr (fun _ => ?_) (fun _ => ?_)
    · exact vr_steps 2 rfl
    · refine (vr_steps 1 (x' := (33, [(2, v0), (0, v1), (0, v2)], [(0, 0)], (K, M))) rfl).trans ?_
      exact vr_ret (ai := (35, 1, 3, 0, [])) rfl rfl

noncomputable def c_X7_one : Nat → Option dI := d_mcode m_X7_one
set_option maxRecDepth 100000 in
theorem e_X7_one_0 {sc : dS} {d : Nat} {K : List (Nat × Nat)} {M : dM} {v0 v1 v2 : Int} {q3 q4 q5 : dV} : vr sc d c_X7_one (0, [(2, v0), (0, v1), (0, v2), q3, q4, q5], [], (K, M)) = ((vc sc d 119 [(0, v1)] (K, M)).bind (fun r => vr sc d c_X7_one (4, [(2, v0), (0, v1), (0, v2), q3, q4, q5], r.1 ++ [], r.2))) := by
  refine (vr_steps 1 (x' := (1, [(2, v0), (0, v1), (0, v2), q3, q4, q5], [(0, v1)], (K, M))) rfl).trans ?_
  exact (v_stat (k := 119) (n := 1) (code := c_X7_one) (pc := 1) (len := 3) (L := [(2, v0), (0, v1), (0, v2), q3, q4, q5]) (st := [(0, v1)]) rfl (Nat.le_of_ble_eq_true rfl) (Nat.le_of_ble_eq_true rfl)).trans rfl
set_option maxRecDepth 100000 in
theorem e_X7_one_4 {sc : dS} {d : Nat} {K : List (Nat × Nat)} {M : dM} {v0 v1 v2 s0 : Int} {q3 q4 q5 : dV} : vr sc d c_X7_one (4, [(2, v0), (0, v1), (0, v2), q3, q4, q5], [(0, s0)], (K, M)) = (if s0 = 0 then some ([(0, (-2))], (K, M)) else (vc sc d 119 [(0, v2)] (K, M)).bind (fun r => vr sc d c_X7_one (11, [(2, v0), (0, v1), (0, v2), q3, q4, q5], r.1 ++ [], r.2))) := by
  refine (v_if (k := 0) (b := 14) (c := s0 = 0) rfl rfl).trans ?_
  refine c_congr (fun _ => ?_) (fun _ => ?_)
  · refine (vr_steps 1 (x' := (16, [(2, v0), (0, v1), (0, v2), q3, q4, q5], [(0, (-2))], (K, M))) rfl).trans ?_
    exact vr_ret (ai := (35, 1, 1, 0, [])) rfl rfl
  · refine (vr_steps 1 (x' := (8, [(2, v0), (0, v1), (0, v2), q3, q4, q5], [(0, v2)], (K, M))) rfl).trans ?_
    exact (v_stat (k := 119) (n := 1) (code := c_X7_one) (pc := 8) (len := 3) (L := [(2, v0), (0, v1), (0, v2), q3, q4, q5]) (st := [(0, v2)]) rfl (Nat.le_of_ble_eq_true rfl) (Nat.le_of_ble_eq_true rfl)).trans rfl
set_option maxRecDepth 100000 in
theorem e_X7_one_11 {sc : dS} {d : Nat} {K : List (Nat × Nat)} {M : dM} {v0 v1 v2 s0 : Int} {q3 q4 q5 : dV} : vr sc d c_X7_one (11, [(2, v0), (0, v1), (0, v2), q3, q4, q5], [(0, s0)], (K, M)) = (if ¬ s0 = 0 then (if rg K 7 v0 = true then (vc sc d 147 [(2, v0), (0, v2)] (K, M)).bind (fun r => vr sc d c_X7_one (22, [(2, v0), (0, v1), (0, v2), q3, q4, q5], r.1 ++ [], r.2)) else none) else some ([(0, (-2))], (K, M))) := by
  refine (v_if (k := 1) (b := 17) (c := ¬ s0 = 0) rfl rfl).trans ?_
  refine c_congr (fun _ => ?_) (fun _ => ?_)
  · refine (vr_steps 2 (x' := (19, [(2, v0), (0, v1), (0, v2), q3, q4, q5], [(0, v2), (2, v0)], (K, M))) rfl).trans ?_
    exact (v_virt (k := 147) (n := 2) (tag := 7) (r := v0) (av := [(0, v2)]) (code := c_X7_one) (pc := 19) (len := 3) (L := [(2, v0), (0, v1), (0, v2), q3, q4, q5]) (st := [(0, v2), (2, v0)]) rfl (Nat.le_of_ble_eq_true rfl) (Nat.le_of_ble_eq_true rfl) rfl).trans rfl
  · refine (vr_steps 1 (x' := (16, [(2, v0), (0, v1), (0, v2), q3, q4, q5], [(0, (-2))], (K, M))) rfl).trans ?_
    exact vr_ret (ai := (35, 1, 1, 0, [])) rfl rfl
set_option maxRecDepth 100000 in
theorem e_X7_one_22 {sc : dS} {d : Nat} {K : List (Nat × Nat)} {M : dM} {v0 v1 v2 : Int} {q3 q4 q5 : dV} : vr sc d c_X7_one (22, [(2, v0), (0, v1), (0, v2), q3, q4, q5], [], (K, M)) = (if rg K 7 v0 = true then (vc sc d 154 [(2, v0)] (K, M)).bind (fun r => vr sc d c_X7_one (26, [(2, v0), (0, v1), (0, v2), q3, q4, q5], r.1 ++ [], r.2)) else none) := by
  refine (vr_steps 1 (x' := (23, [(2, v0), (0, v1), (0, v2), q3, q4, q5], [(2, v0)], (K, M))) rfl).trans ?_
  exact (v_virt (k := 154) (n := 1) (tag := 7) (r := v0) (av := []) (code := c_X7_one) (pc := 23) (len := 3) (L := [(2, v0), (0, v1), (0, v2), q3, q4, q5]) (st := [(2, v0)]) rfl (Nat.le_of_ble_eq_true rfl) (Nat.le_of_ble_eq_true rfl) rfl).trans rfl
set_option maxRecDepth 100000 in
theorem e_X7_one_26 {sc : dS} {d : Nat} {K : List (Nat × Nat)} {M : dM} {v0 v1 v2 s0 : Int} {q3 q4 q5 : dV} : vr sc d c_X7_one (26, [(2, v0), (0, v1), (0, v2), q3, q4, q5], [(0, s0)], (K, M)) = (vr sc d c_X7_one (30, [(2, v0), (0, v1), (0, v2), (0, s0), (0, 0), q5], [], (K, M))) := by
  exact vr_steps 3 rfl
set_option maxRecDepth 100000 in
theorem e_X7_one_30 {sc : dS} {d : Nat} {K : List (Nat × Nat)} {M : dM} {v0 v1 v2 v3 v4 : Int} {q5 : dV} : vr sc d c_X7_one (30, [(2, v0), (0, v1), (0, v2), (0, v3), (0, v4), q5], [], (K, M)) = (if v3 ≤ v4 then (if rg K 7 v0 = true then (vc sc d 147 [(2, v0), (0, v1)] (K, M)).bind (fun r => vr sc d c_X7_one (61, [(2, v0), (0, v1), (0, v2), (0, v3), (0, v4), q5], r.1 ++ [], r.2)) else none) else (if og K 7 v0 30 = true then (if og K 7 v0 28 = true then (if ag K 8 (M v0 28) v4 = true then (if ag K 8 (M v0 30) v4 = true then vr sc d c_X7_one (30, [(2, v0), (0, v1), (0, v2), (0, v3), (0, w32 (v4 + 1)), q5], [], (K, d_up M (M v0 30) v4 (M (M v0 28) v4))) else none) else none) else none) else none)) := by
  refine (vr_steps 2 (x' := (33, [(2, v0), (0, v1), (0, v2), (0, v3), (0, v4), q5], [(0, v3), (0, v4)], (K, M))) rfl).trans ?_
  refine (v_icmp (k := 3) (b := 56) (c := v3 ≤ v4) rfl rfl).trans ?_
  refine c_congr (fun _ => ?_) (fun _ => ?_)
  · refine (vr_steps 2 (x' := (58, [(2, v0), (0, v1), (0, v2), (0, v3), (0, v4), q5], [(0, v1), (2, v0)], (K, M))) rfl).trans ?_
    exact (v_virt (k := 147) (n := 2) (tag := 7) (r := v0) (av := [(0, v1)]) (code := c_X7_one) (pc := 58) (len := 3) (L := [(2, v0), (0, v1), (0, v2), (0, v3), (0, v4), q5]) (st := [(0, v1), (2, v0)]) rfl (Nat.le_of_ble_eq_true rfl) (Nat.le_of_ble_eq_true rfl) rfl).trans rfl
  · refine (vr_steps 1 (x' := (37, [(2, v0), (0, v1), (0, v2), (0, v3), (0, v4), q5], [(2, v0)], (K, M))) rfl).trans ?_
    refine (v_getf (a := 7) (b := 30) (t := 2) rfl rfl).trans ?_
    refine g_congr (fun _ => ?_)
    refine (vr_steps 2 (x' := (43, [(2, v0), (0, v1), (0, v2), (0, v3), (0, v4), q5], [(2, v0), (0, v4), (2, M v0 30)], (K, M))) rfl).trans ?_
    refine (v_getf (a := 7) (b := 28) (t := 2) rfl rfl).trans ?_
    refine g_congr (fun _ => ?_)
    refine (vr_steps 1 (x' := (48, [(2, v0), (0, v1), (0, v2), (0, v3), (0, v4), q5], [(0, v4), (2, M v0 28), (0, v4), (2, M v0 30)], (K, M))) rfl).trans ?_
    refine (v_ald (a := 8) rfl (by decide)).trans ?_
    refine g_congr (fun _ => ?_)
    refine (v_ast rfl).trans ?_
    refine g_congr (fun _ => ?_)
    exact vr_steps 2 rfl
set_option maxRecDepth 100000 in
theorem e_X7_one_61 {sc : dS} {d : Nat} {K : List (Nat × Nat)} {M : dM} {v0 v1 v2 v3 v4 : Int} {q5 : dV} : vr sc d c_X7_one (61, [(2, v0), (0, v1), (0, v2), (0, v3), (0, v4), q5], [], (K, M)) = (if rg K 7 v0 = true then (vc sc d 154 [(2, v0)] (K, M)).bind (fun r => vr sc d c_X7_one (65, [(2, v0), (0, v1), (0, v2), (0, v3), (0, v4), q5], r.1 ++ [], r.2)) else none) := by
  refine (vr_steps 1 (x' := (62, [(2, v0), (0, v1), (0, v2), (0, v3), (0, v4), q5], [(2, v0)], (K, M))) rfl).trans ?_
  exact (v_virt (k := 154) (n := 1) (tag := 7) (r := v0) (av := []) (code := c_X7_one) (pc := 62) (len := 3) (L := [(2, v0), (0, v1), (0, v2), (0, v3), (0, v4), q5]) (st := [(2, v0)]) rfl (Nat.le_of_ble_eq_true rfl) (Nat.le_of_ble_eq_true rfl) rfl).trans rfl
set_option maxRecDepth 100000 in
theorem e_X7_one_65 {sc : dS} {d : Nat} {K : List (Nat × Nat)} {M : dM} {v0 v1 v2 v3 v4 s0 : Int} {q5 : dV} : vr sc d c_X7_one (65, [(2, v0), (0, v1), (0, v2), (0, v3), (0, v4), q5], [(0, s0)], (K, M)) = (if s0 = v3 then (if ¬ v3 = 0 then vr sc d c_X7_one (85, [(2, v0), (0, v1), (0, v2), (0, v3), (0, 0), (0, 0)], [], (K, M)) else vr sc d c_X7_one (85, [(2, v0), (0, v1), (0, v2), (0, v3), (0, 1), (0, 0)], [], (K, M))) else some ([(0, 0)], (K, M))) := by
  refine (vr_steps 1 (x' := (66, [(2, v0), (0, v1), (0, v2), (0, v3), (0, v4), q5], [(0, v3), (0, s0)], (K, M))) rfl).trans ?_
  refine (v_icmp (k := 0) (b := 71) (c := s0 = v3) rfl rfl).trans ?_
  refine c_congr (fun _ => ?_) (fun _ => ?_)
  · refine (vr_steps 1 (x' := (72, [(2, v0), (0, v1), (0, v2), (0, v3), (0, v4), q5], [(0, v3)], (K, M))) rfl).trans ?_
    refine (v_if (k := 1) (b := 79) (c := ¬ v3 = 0) rfl rfl).trans ?_
    refine c_congr (fun _ => ?_) (fun _ => ?_)
    · exact vr_steps 4 rfl
    · exact vr_steps 5 rfl
  · refine (vr_steps 1 (x' := (70, [(2, v0), (0, v1), (0, v2), (0, v3), (0, v4), q5], [(0, 0)], (K, M))) rfl).trans ?_
    exact vr_ret (ai := (35, 1, 1, 0, [])) rfl rfl
set_option maxRecDepth 100000 in
theorem e_X7_one_85 {sc : dS} {d : Nat} {K : List (Nat × Nat)} {M : dM} {v0 v1 v2 v3 v4 v5 : Int} : vr sc d c_X7_one (85, [(2, v0), (0, v1), (0, v2), (0, v3), (0, v4), (0, v5)], [], (K, M)) = (if v3 ≤ v5 then (if v4 = 0 then some ([(0, 0)], (K, M)) else some ([(0, 1)], (K, M))) else (if ¬ v4 = 0 then (if v4 = 0 then some ([(0, 0)], (K, M)) else some ([(0, 1)], (K, M))) else (if rg K 7 v0 = true then (vc sc d 162 [(2, v0), (0, v5)] (K, M)).bind (fun r => vr sc d c_X7_one (102, [(2, v0), (0, v1), (0, v2), (0, v3), (0, v4), (0, v5)], r.1 ++ [], r.2)) else none))) := by
  refine (vr_steps 2 (x' := (88, [(2, v0), (0, v1), (0, v2), (0, v3), (0, v4), (0, v5)], [(0, v3), (0, v5)], (K, M))) rfl).trans ?_
  refine (v_icmp (k := 3) (b := 110) (c := v3 ≤ v5) rfl rfl).trans ?_
  refine c_congr (fun _ => ?_) (fun _ => ?_)
  · refine (vr_steps 1 (x' := (112, [(2, v0), (0, v1), (0, v2), (0, v3), (0, v4), (0, v5)], [(0, v4)], (K, M))) rfl).trans ?_
    refine (v_if (k := 0) (b := 119) (c := v4 = 0) rfl rfl).trans ?_
    refine c_congr (fun _ => ?_) (fun _ => ?_)
    · refine (vr_steps 1 (x' := (120, [(2, v0), (0, v1), (0, v2), (0, v3), (0, v4), (0, v5)], [(0, 0)], (K, M))) rfl).trans ?_
      exact vr_ret (ai := (35, 1, 1, 0, [])) rfl rfl
    · refine (vr_steps 2 (x' := (120, [(2, v0), (0, v1), (0, v2), (0, v3), (0, v4), (0, v5)], [(0, 1)], (K, M))) rfl).trans ?_
      exact vr_ret (ai := (35, 1, 1, 0, [])) rfl rfl
  · refine (vr_steps 1 (x' := (93, [(2, v0), (0, v1), (0, v2), (0, v3), (0, v4), (0, v5)], [(0, v4)], (K, M))) rfl).trans ?_
    refine (v_if (k := 1) (b := 110) (c := ¬ v4 = 0) rfl rfl).trans ?_
    refine c_congr (fun _ => ?_) (fun _ => ?_)
    · refine (vr_steps 1 (x' := (112, [(2, v0), (0, v1), (0, v2), (0, v3), (0, v4), (0, v5)], [(0, v4)], (K, M))) rfl).trans ?_
      refine (v_if (k := 0) (b := 119) (c := v4 = 0) rfl rfl).trans ?_
      refine c_congr (fun _ => ?_) (fun _ => ?_)
      · refine (vr_steps 1 (x' := (120, [(2, v0), (0, v1), (0, v2), (0, v3), (0, v4), (0, v5)], [(0, 0)], (K, M))) rfl).trans ?_
        exact vr_ret (ai := (35, 1, 1, 0, [])) rfl rfl
      · refine (vr_steps 2 (x' := (120, [(2, v0), (0, v1), (0, v2), (0, v3), (0, v4), (0, v5)], [(0, 1)], (K, M))) rfl).trans ?_
        exact vr_ret (ai := (35, 1, 1, 0, [])) rfl rfl
    · refine (vr_steps 2 (x' := (99, [(2, v0), (0, v1), (0, v2), (0, v3), (0, v4), (0, v5)], [(0, v5), (2, v0)], (K, M))) rfl).trans ?_
      exact (v_virt (k := 162) (n := 2) (tag := 7) (r := v0) (av := [(0, v5)]) (code := c_X7_one) (pc := 99) (len := 3) (L := [(2, v0), (0, v1), (0, v2), (0, v3), (0, v4), (0, v5)]) (st := [(0, v5), (2, v0)]) rfl (Nat.le_of_ble_eq_true rfl) (Nat.le_of_ble_eq_true rfl) rfl).trans rfl
set_option maxRecDepth 100000 in
theorem e_X7_one_102 {sc : dS} {d : Nat} {K : List (Nat × Nat)} {M : dM} {v0 v1 v2 v3 v4 v5 s0 : Int} : vr sc d c_X7_one (102, [(2, v0), (0, v1), (0, v2), (0, v3), (0, v4), (0, v5)], [(0, s0)], (K, M)) = (vr sc d c_X7_one (85, [(2, v0), (0, v1), (0, v2), (0, v3), (0, s0), (0, w32 (v5 + 1))], [], (K, M))) := by
  exact vr_steps 3 rfl

noncomputable def c_X7_holdsOf : Nat → Option dI := d_mcode m_X7_holdsOf
set_option maxRecDepth 100000 in
theorem e_X7_holdsOf_0 {sc : dS} {d : Nat} {K : List (Nat × Nat)} {M : dM} {v0 v1 v2 v3 : Int} {q4 q5 q6 q7 : dV} : vr sc d c_X7_holdsOf (0, [(2, v0), (0, v1), (0, v2), (0, v3), q4, q5, q6, q7], [], (K, M)) = (if og K 7 v0 9 = true then (if ag K 8 (M v0 9) (w32 ((w32 (3 * v1)) + 2)) = true then (if ¬ (M (M v0 9) (w32 ((w32 (3 * v1)) + 2))) = 5 then (if ¬ (M (M v0 9) (w32 ((w32 (3 * v1)) + 2))) = 4 then (if rg K 7 v0 = true then (vc sc d 145 [(2, v0), (0, 0), (0, v1), (0, v2), (0, v3)] (K, M)).bind (fun r => vr sc d c_X7_holdsOf (53, [(2, v0), (0, v1), (0, v2), (0, v3), (0, M (M v0 9) (w32 ((w32 (3 * v1)) + 2))), q5, q6, q7], r.1 ++ [], r.2)) else none) else (if og K 7 v0 8 = true then (if ¬ (M v0 8) = 1 then (if rg K 7 v0 = true then (vc sc d 145 [(2, v0), (0, 0), (0, v1), (0, v2), (0, v3)] (K, M)).bind (fun r => vr sc d c_X7_holdsOf (53, [(2, v0), (0, v1), (0, v2), (0, v3), (0, M (M v0 9) (w32 ((w32 (3 * v1)) + 2))), q5, q6, q7], r.1 ++ [], r.2)) else none) else some ([(0, 0)], (K, M))) else none)) else (if v3 ≤ 0 then some ([(0, 0)], (K, M)) else some ([(0, 99)], (K, M)))) else none) else none) := by
  refine (vr_steps 1 (x' := (1, [(2, v0), (0, v1), (0, v2), (0, v3), q4, q5, q6, q7], [(2, v0)], (K, M))) rfl).trans ?_
  refine (v_getf (a := 7) (b := 9) (t := 2) rfl rfl).trans ?_
  refine g_congr (fun _ => ?_)
  refine (vr_steps 5 (x' := (9, [(2, v0), (0, v1), (0, v2), (0, v3), q4, q5, q6, q7], [(0, w32 ((w32 (3 * v1)) + 2)), (2, M v0 9)], (K, M))) rfl).trans ?_
  refine (v_ald (a := 8) rfl (by decide)).trans ?_
  refine g_congr (fun _ => ?_)
  refine (vr_steps 3 (x' := (15, [(2, v0), (0, v1), (0, v2), (0, v3), (0, M (M v0 9) (w32 ((w32 (3 * v1)) + 2))), q5, q6, q7], [(0, 5), (0, M (M v0 9) (w32 ((w32 (3 * v1)) + 2)))], (K, M))) rfl).trans ?_
  refine (v_icmp (k := 1) (b := 29) (c := ¬ (M (M v0 9) (w32 ((w32 (3 * v1)) + 2))) = 5) rfl rfl).trans ?_
  refine c_congr (fun _ => ?_) (fun _ => ?_)
  · refine (vr_steps 2 (x' := (32, [(2, v0), (0, v1), (0, v2), (0, v3), (0, M (M v0 9) (w32 ((w32 (3 * v1)) + 2))), q5, q6, q7], [(0, 4), (0, M (M v0 9) (w32 ((w32 (3 * v1)) + 2)))], (K, M))) rfl).trans ?_
    refine (v_icmp (k := 1) (b := 45) (c := ¬ (M (M v0 9) (w32 ((w32 (3 * v1)) + 2))) = 4) rfl rfl).trans ?_
    refine c_congr (fun _ => ?_) (fun _ => ?_)
    · refine (vr_steps 5 (x' := (50, [(2, v0), (0, v1), (0, v2), (0, v3), (0, M (M v0 9) (w32 ((w32 (3 * v1)) + 2))), q5, q6, q7], [(0, v3), (0, v2), (0, v1), (0, 0), (2, v0)], (K, M))) rfl).trans ?_
      exact (v_virt (k := 145) (n := 5) (tag := 7) (r := v0) (av := [(0, 0), (0, v1), (0, v2), (0, v3)]) (code := c_X7_holdsOf) (pc := 50) (len := 3) (L := [(2, v0), (0, v1), (0, v2), (0, v3), (0, M (M v0 9) (w32 ((w32 (3 * v1)) + 2))), q5, q6, q7]) (st := [(0, v3), (0, v2), (0, v1), (0, 0), (2, v0)]) rfl (Nat.le_of_ble_eq_true rfl) (Nat.le_of_ble_eq_true rfl) rfl).trans rfl
    · refine (vr_steps 1 (x' := (36, [(2, v0), (0, v1), (0, v2), (0, v3), (0, M (M v0 9) (w32 ((w32 (3 * v1)) + 2))), q5, q6, q7], [(2, v0)], (K, M))) rfl).trans ?_
      refine (v_getf (a := 7) (b := 8) (t := 0) rfl rfl).trans ?_
      refine g_congr (fun _ => ?_)
      refine (vr_steps 1 (x' := (40, [(2, v0), (0, v1), (0, v2), (0, v3), (0, M (M v0 9) (w32 ((w32 (3 * v1)) + 2))), q5, q6, q7], [(0, 1), (0, M v0 8)], (K, M))) rfl).trans ?_
      refine (v_icmp (k := 1) (b := 45) (c := ¬ (M v0 8) = 1) rfl rfl).trans ?_
      refine c_congr (fun _ => ?_) (fun _ => ?_)
      · refine (vr_steps 5 (x' := (50, [(2, v0), (0, v1), (0, v2), (0, v3), (0, M (M v0 9) (w32 ((w32 (3 * v1)) + 2))), q5, q6, q7], [(0, v3), (0, v2), (0, v1), (0, 0), (2, v0)], (K, M))) rfl).trans ?_
        exact (v_virt (k := 145) (n := 5) (tag := 7) (r := v0) (av := [(0, 0), (0, v1), (0, v2), (0, v3)]) (code := c_X7_holdsOf) (pc := 50) (len := 3) (L := [(2, v0), (0, v1), (0, v2), (0, v3), (0, M (M v0 9) (w32 ((w32 (3 * v1)) + 2))), q5, q6, q7]) (st := [(0, v3), (0, v2), (0, v1), (0, 0), (2, v0)]) rfl (Nat.le_of_ble_eq_true rfl) (Nat.le_of_ble_eq_true rfl) rfl).trans rfl
      · refine (vr_steps 1 (x' := (44, [(2, v0), (0, v1), (0, v2), (0, v3), (0, M (M v0 9) (w32 ((w32 (3 * v1)) + 2))), q5, q6, q7], [(0, 0)], (K, M))) rfl).trans ?_
        exact vr_ret (ai := (35, 1, 1, 0, [])) rfl rfl
  · refine (vr_steps 1 (x' := (19, [(2, v0), (0, v1), (0, v2), (0, v3), (0, M (M v0 9) (w32 ((w32 (3 * v1)) + 2))), q5, q6, q7], [(0, v3)], (K, M))) rfl).trans ?_
    refine (v_if (k := 5) (b := 27) (c := v3 ≤ 0) rfl rfl).trans ?_
    refine c_congr (fun _ => ?_) (fun _ => ?_)
    · refine (vr_steps 1 (x' := (28, [(2, v0), (0, v1), (0, v2), (0, v3), (0, M (M v0 9) (w32 ((w32 (3 * v1)) + 2))), q5, q6, q7], [(0, 0)], (K, M))) rfl).trans ?_
      exact vr_ret (ai := (35, 1, 1, 0, [])) rfl rfl
    · refine (vr_steps 2 (x' := (28, [(2, v0), (0, v1), (0, v2), (0, v3), (0, M (M v0 9) (w32 ((w32 (3 * v1)) + 2))), q5, q6, q7], [(0, 99)], (K, M))) rfl).trans ?_
      exact vr_ret (ai := (35, 1, 1, 0, [])) rfl rfl
set_option maxRecDepth 100000 in
theorem e_X7_holdsOf_53 {sc : dS} {d : Nat} {K : List (Nat × Nat)} {M : dM} {v0 v1 v2 v3 v4 s0 : Int} {q5 q6 q7 : dV} : vr sc d c_X7_holdsOf (53, [(2, v0), (0, v1), (0, v2), (0, v3), (0, v4), q5, q6, q7], [(0, s0)], (K, M)) = (if ¬ (w32 (v3.tmod 2)) = 1 then vr sc d c_X7_holdsOf (78, [(2, v0), (0, v1), (0, v2), (0, v3), (0, v4), (0, s0), q6, q7], [(0, s0)], (K, M)) else (if og K 7 v0 9 = true then (if ag K 8 (M v0 9) (w32 (3 * v1)) = true then vr sc d c_X7_holdsOf (78, [(2, v0), (0, v1), (0, v2), (0, v3), (0, v4), (0, s0), q6, q7], [(0, w32 (s0 + (M (M v0 9) (w32 (3 * v1)))))], (K, M)) else none) else none)) := by
  refine (vr_steps 5 (x' := (59, [(2, v0), (0, v1), (0, v2), (0, v3), (0, v4), (0, s0), q6, q7], [(0, 1), (0, w32 (v3.tmod 2))], (K, M))) rfl).trans ?_
  refine (v_icmp (k := 1) (b := 76) (c := ¬ (w32 (v3.tmod 2)) = 1) rfl rfl).trans ?_
  refine c_congr (fun _ => ?_) (fun _ => ?_)
  · exact vr_steps 1 rfl
  · refine (vr_steps 2 (x' := (65, [(2, v0), (0, v1), (0, v2), (0, v3), (0, v4), (0, s0), q6, q7], [(2, v0), (0, s0)], (K, M))) rfl).trans ?_
    refine (v_getf (a := 7) (b := 9) (t := 2) rfl rfl).trans ?_
    refine g_congr (fun _ => ?_)
    refine (vr_steps 3 (x' := (71, [(2, v0), (0, v1), (0, v2), (0, v3), (0, v4), (0, s0), q6, q7], [(0, w32 (3 * v1)), (2, M v0 9), (0, s0)], (K, M))) rfl).trans ?_
    refine (v_ald (a := 8) rfl (by decide)).trans ?_
    refine g_congr (fun _ => ?_)
    exact vr_steps 2 rfl
set_option maxRecDepth 100000 in
theorem e_X7_holdsOf_78 {sc : dS} {d : Nat} {K : List (Nat × Nat)} {M : dM} {v0 v1 v2 v3 v4 v5 s0 : Int} {q6 q7 : dV} : vr sc d c_X7_holdsOf (78, [(2, v0), (0, v1), (0, v2), (0, v3), (0, v4), (0, v5), q6, q7], [(0, s0)], (K, M)) = (if ¬ v4 = 1 then (if ¬ v4 = 3 then (if v4 = 2 then (vc sc d 115 [(0, w32 (v5.tdiv 2)), (0, 0), (0, 99)] (K, M)).bind (fun r => vr sc d c_X7_holdsOf (141, [(2, v0), (0, v1), (0, v2), (0, v3), (0, v4), (0, v5), (0, s0), (0, w32 (v5.tdiv 2))], r.1 ++ [], r.2)) else (if ¬ v4 = 4 then (vc sc d 115 [(0, v5), (0, 0), (0, 99)] (K, M)).bind (fun r => vr sc d c_X7_holdsOf (141, [(2, v0), (0, v1), (0, v2), (0, v3), (0, v4), (0, v5), (0, s0), (0, v5)], r.1 ++ [], r.2)) else (vc sc d 115 [(0, w32 (v5.tdiv 2)), (0, 0), (0, 99)] (K, M)).bind (fun r => vr sc d c_X7_holdsOf (141, [(2, v0), (0, v1), (0, v2), (0, v3), (0, v4), (0, v5), (0, s0), (0, w32 (v5.tdiv 2))], r.1 ++ [], r.2)))) else (vc sc d 115 [(0, s0), (0, 0), (0, 99)] (K, M)).bind (fun r => vr sc d c_X7_holdsOf (106, [(2, v0), (0, v1), (0, v2), (0, v3), (0, v4), (0, v5), (0, s0), q7], r.1 ++ [(0, 2)], r.2))) else (vc sc d 115 [(0, s0), (0, 0), (0, 99)] (K, M)).bind (fun r => vr sc d c_X7_holdsOf (141, [(2, v0), (0, v1), (0, v2), (0, v3), (0, v4), (0, v5), (0, s0), (0, s0)], r.1 ++ [], r.2))) := by
  refine (vr_steps 3 (x' := (83, [(2, v0), (0, v1), (0, v2), (0, v3), (0, v4), (0, v5), (0, s0), q7], [(0, 1), (0, v4)], (K, M))) rfl).trans ?_
  refine (v_icmp (k := 1) (b := 91) (c := ¬ v4 = 1) rfl rfl).trans ?_
  refine c_congr (fun _ => ?_) (fun _ => ?_)
  · refine (vr_steps 2 (x' := (94, [(2, v0), (0, v1), (0, v2), (0, v3), (0, v4), (0, v5), (0, s0), q7], [(0, 3), (0, v4)], (K, M))) rfl).trans ?_
    refine (v_icmp (k := 1) (b := 110) (c := ¬ v4 = 3) rfl rfl).trans ?_
    refine c_congr (fun _ => ?_) (fun _ => ?_)
    · refine (vr_steps 2 (x' := (113, [(2, v0), (0, v1), (0, v2), (0, v3), (0, v4), (0, v5), (0, s0), q7], [(0, 2), (0, v4)], (K, M))) rfl).trans ?_
      refine (v_icmp (k := 0) (b := 122) (c := v4 = 2) rfl rfl).trans ?_
      refine c_congr (fun _ => ?_) (fun _ => ?_)
      · refine (vr_steps 8 (x' := (138, [(2, v0), (0, v1), (0, v2), (0, v3), (0, v4), (0, v5), (0, s0), (0, w32 (v5.tdiv 2))], [(0, 99), (0, 0), (0, w32 (v5.tdiv 2))], (K, M))) rfl).trans ?_
        exact (v_stat (k := 115) (n := 3) (code := c_X7_holdsOf) (pc := 138) (len := 3) (L := [(2, v0), (0, v1), (0, v2), (0, v3), (0, v4), (0, v5), (0, s0), (0, w32 (v5.tdiv 2))]) (st := [(0, 99), (0, 0), (0, w32 (v5.tdiv 2))]) rfl (Nat.le_of_ble_eq_true rfl) (Nat.le_of_ble_eq_true rfl)).trans rfl
      · refine (vr_steps 2 (x' := (119, [(2, v0), (0, v1), (0, v2), (0, v3), (0, v4), (0, v5), (0, s0), q7], [(0, 4), (0, v4)], (K, M))) rfl).trans ?_
        refine (v_icmp (k := 1) (b := 129) (c := ¬ v4 = 4) rfl rfl).trans ?_
        refine c_congr (fun _ => ?_) (fun _ => ?_)
        · refine (vr_steps 5 (x' := (138, [(2, v0), (0, v1), (0, v2), (0, v3), (0, v4), (0, v5), (0, s0), (0, v5)], [(0, 99), (0, 0), (0, v5)], (K, M))) rfl).trans ?_
          exact (v_stat (k := 115) (n := 3) (code := c_X7_holdsOf) (pc := 138) (len := 3) (L := [(2, v0), (0, v1), (0, v2), (0, v3), (0, v4), (0, v5), (0, s0), (0, v5)]) (st := [(0, 99), (0, 0), (0, v5)]) rfl (Nat.le_of_ble_eq_true rfl) (Nat.le_of_ble_eq_true rfl)).trans rfl
        · refine (vr_steps 8 (x' := (138, [(2, v0), (0, v1), (0, v2), (0, v3), (0, v4), (0, v5), (0, s0), (0, w32 (v5.tdiv 2))], [(0, 99), (0, 0), (0, w32 (v5.tdiv 2))], (K, M))) rfl).trans ?_
          exact (v_stat (k := 115) (n := 3) (code := c_X7_holdsOf) (pc := 138) (len := 3) (L := [(2, v0), (0, v1), (0, v2), (0, v3), (0, v4), (0, v5), (0, s0), (0, w32 (v5.tdiv 2))]) (st := [(0, 99), (0, 0), (0, w32 (v5.tdiv 2))]) rfl (Nat.le_of_ble_eq_true rfl) (Nat.le_of_ble_eq_true rfl)).trans rfl
    · refine (vr_steps 4 (x' := (103, [(2, v0), (0, v1), (0, v2), (0, v3), (0, v4), (0, v5), (0, s0), q7], [(0, 99), (0, 0), (0, s0), (0, 2)], (K, M))) rfl).trans ?_
      exact (v_stat (k := 115) (n := 3) (code := c_X7_holdsOf) (pc := 103) (len := 3) (L := [(2, v0), (0, v1), (0, v2), (0, v3), (0, v4), (0, v5), (0, s0), q7]) (st := [(0, 99), (0, 0), (0, s0), (0, 2)]) rfl (Nat.le_of_ble_eq_true rfl) (Nat.le_of_ble_eq_true rfl)).trans rfl
  · refine (vr_steps 6 (x' := (138, [(2, v0), (0, v1), (0, v2), (0, v3), (0, v4), (0, v5), (0, s0), (0, s0)], [(0, 99), (0, 0), (0, s0)], (K, M))) rfl).trans ?_
    exact (v_stat (k := 115) (n := 3) (code := c_X7_holdsOf) (pc := 138) (len := 3) (L := [(2, v0), (0, v1), (0, v2), (0, v3), (0, v4), (0, v5), (0, s0), (0, s0)]) (st := [(0, 99), (0, 0), (0, s0)]) rfl (Nat.le_of_ble_eq_true rfl) (Nat.le_of_ble_eq_true rfl)).trans rfl
set_option maxRecDepth 100000 in
theorem e_X7_holdsOf_106 {sc : dS} {d : Nat} {K : List (Nat × Nat)} {M : dM} {v0 v1 v2 v3 v4 v5 v6 s0 s1 : Int} {q7 : dV} : vr sc d c_X7_holdsOf (106, [(2, v0), (0, v1), (0, v2), (0, v3), (0, v4), (0, v5), (0, v6), q7], [(0, s1), (0, s0)], (K, M)) = ((vc sc d 115 [(0, w32 (s0 * s1)), (0, 0), (0, 99)] (K, M)).bind (fun r => vr sc d c_X7_holdsOf (141, [(2, v0), (0, v1), (0, v2), (0, v3), (0, v4), (0, v5), (0, v6), (0, w32 (s0 * s1))], r.1 ++ [], r.2))) := by
  refine (vr_steps 6 (x' := (138, [(2, v0), (0, v1), (0, v2), (0, v3), (0, v4), (0, v5), (0, v6), (0, w32 (s0 * s1))], [(0, 99), (0, 0), (0, w32 (s0 * s1))], (K, M))) rfl).trans ?_
  exact (v_stat (k := 115) (n := 3) (code := c_X7_holdsOf) (pc := 138) (len := 3) (L := [(2, v0), (0, v1), (0, v2), (0, v3), (0, v4), (0, v5), (0, v6), (0, w32 (s0 * s1))]) (st := [(0, 99), (0, 0), (0, w32 (s0 * s1))]) rfl (Nat.le_of_ble_eq_true rfl) (Nat.le_of_ble_eq_true rfl)).trans rfl
set_option maxRecDepth 100000 in
theorem e_X7_holdsOf_141 {sc : dS} {d : Nat} {K : List (Nat × Nat)} {M : dM} {v0 v1 v2 v3 v4 v5 v6 v7 s0 : Int} : vr sc d c_X7_holdsOf (141, [(2, v0), (0, v1), (0, v2), (0, v3), (0, v4), (0, v5), (0, v6), (0, v7)], [(0, s0)], (K, M)) = (some ([(0, s0)], (K, M))) := by
  exact vr_ret (ai := (35, 1, 1, 0, [])) rfl rfl

noncomputable def c_X7_footHolds : Nat → Option dI := d_mcode m_X7_footHolds
set_option maxRecDepth 100000 in
theorem e_X7_footHolds_0 {sc : dS} {d : Nat} {K : List (Nat × Nat)} {M : dM} {v0 v1 : Int} : vr sc d c_X7_footHolds (0, [(2, v0), (0, v1)], [], (K, M)) = (if rg K 7 v0 = true then (vc sc d 147 [(2, v0), (0, v1)] (K, M)).bind (fun r => vr sc d c_X7_footHolds (5, [(2, v0), (0, v1)], r.1 ++ [], r.2)) else none) := by
  refine (vr_steps 2 (x' := (2, [(2, v0), (0, v1)], [(0, v1), (2, v0)], (K, M))) rfl).trans ?_
  exact (v_virt (k := 147) (n := 2) (tag := 7) (r := v0) (av := [(0, v1)]) (code := c_X7_footHolds) (pc := 2) (len := 3) (L := [(2, v0), (0, v1)]) (st := [(0, v1), (2, v0)]) rfl (Nat.le_of_ble_eq_true rfl) (Nat.le_of_ble_eq_true rfl) rfl).trans rfl
set_option maxRecDepth 100000 in
theorem e_X7_footHolds_5 {sc : dS} {d : Nat} {K : List (Nat × Nat)} {M : dM} {v0 v1 : Int} : vr sc d c_X7_footHolds (5, [(2, v0), (0, v1)], [], (K, M)) = (if og K 7 v0 10 = true then (if ag K 8 (M v0 10) (w32 ((w32 (3 * v1)) + 1)) = true then (if rg K 7 v0 = true then (vc sc d 154 [(2, v0)] (K, M)).bind (fun r => vr sc d c_X7_footHolds (21, [(2, v0), (0, v1)], r.1 ++ [(0, v1), (0, M (M v0 10) (w32 ((w32 (3 * v1)) + 1))), (2, v0)], r.2)) else none) else none) else none) := by
  refine (vr_steps 2 (x' := (7, [(2, v0), (0, v1)], [(2, v0), (2, v0)], (K, M))) rfl).trans ?_
  refine (v_getf (a := 7) (b := 10) (t := 2) rfl rfl).trans ?_
  refine g_congr (fun _ => ?_)
  refine (vr_steps 5 (x' := (15, [(2, v0), (0, v1)], [(0, w32 ((w32 (3 * v1)) + 1)), (2, M v0 10), (2, v0)], (K, M))) rfl).trans ?_
  refine (v_ald (a := 8) rfl (by decide)).trans ?_
  refine g_congr (fun _ => ?_)
  refine (vr_steps 2 (x' := (18, [(2, v0), (0, v1)], [(2, v0), (0, v1), (0, M (M v0 10) (w32 ((w32 (3 * v1)) + 1))), (2, v0)], (K, M))) rfl).trans ?_
  exact (v_virt (k := 154) (n := 1) (tag := 7) (r := v0) (av := []) (code := c_X7_footHolds) (pc := 18) (len := 3) (L := [(2, v0), (0, v1)]) (st := [(2, v0), (0, v1), (0, M (M v0 10) (w32 ((w32 (3 * v1)) + 1))), (2, v0)]) rfl (Nat.le_of_ble_eq_true rfl) (Nat.le_of_ble_eq_true rfl) rfl).trans rfl
set_option maxRecDepth 100000 in
theorem e_X7_footHolds_21 {sc : dS} {d : Nat} {K : List (Nat × Nat)} {M : dM} {v0 v1 s0 s1 s2 s3 : Int} : vr sc d c_X7_footHolds (21, [(2, v0), (0, v1)], [(0, s3), (0, s2), (0, s1), (2, s0)], (K, M)) = (if rg K 7 s0 = true then (vc sc d 164 [(2, s0), (0, s1), (0, s2), (0, s3)] (K, M)).bind (fun r => vr sc d c_X7_footHolds (24, [(2, v0), (0, v1)], r.1 ++ [], r.2)) else none) := by
  exact (v_virt (k := 164) (n := 4) (tag := 7) (r := s0) (av := [(0, s1), (0, s2), (0, s3)]) (code := c_X7_footHolds) (pc := 21) (len := 3) (L := [(2, v0), (0, v1)]) (st := [(0, s3), (0, s2), (0, s1), (2, s0)]) rfl (Nat.le_of_ble_eq_true rfl) (Nat.le_of_ble_eq_true rfl) rfl).trans rfl
set_option maxRecDepth 100000 in
theorem e_X7_footHolds_24 {sc : dS} {d : Nat} {K : List (Nat × Nat)} {M : dM} {v0 v1 s0 : Int} : vr sc d c_X7_footHolds (24, [(2, v0), (0, v1)], [(0, s0)], (K, M)) = (some ([(0, s0)], (K, M))) := by
  exact vr_ret (ai := (35, 1, 1, 0, [])) rfl rfl

noncomputable def c_X7_holds : Nat → Option dI := d_mcode m_X7_holds
set_option maxRecDepth 100000 in
theorem e_X7_holds_0 {sc : dS} {d : Nat} {K : List (Nat × Nat)} {M : dM} {v0 v1 : Int} : vr sc d c_X7_holds (0, [(2, v0), (0, v1)], [], (K, M)) = ((vc sc d 119 [(0, v1)] (K, M)).bind (fun r => vr sc d c_X7_holds (4, [(2, v0), (0, v1)], r.1 ++ [], r.2))) := by
  refine (vr_steps 1 (x' := (1, [(2, v0), (0, v1)], [(0, v1)], (K, M))) rfl).trans ?_
  exact (v_stat (k := 119) (n := 1) (code := c_X7_holds) (pc := 1) (len := 3) (L := [(2, v0), (0, v1)]) (st := [(0, v1)]) rfl (Nat.le_of_ble_eq_true rfl) (Nat.le_of_ble_eq_true rfl)).trans rfl
set_option maxRecDepth 100000 in
theorem e_X7_holds_4 {sc : dS} {d : Nat} {K : List (Nat × Nat)} {M : dM} {v0 v1 s0 : Int} : vr sc d c_X7_holds (4, [(2, v0), (0, v1)], [(0, s0)], (K, M)) = (if ¬ s0 = 0 then (if og K 7 v0 10 = true then (if ag K 8 (M v0 10) (w32 ((w32 (3 * v1)) + 1)) = true then (if ¬ (M (M v0 10) (w32 ((w32 (3 * v1)) + 1))) = (-1) then (if rg K 7 v0 = true then (vc sc d 165 [(2, v0), (0, v1)] (K, M)).bind (fun r => vr sc d c_X7_holds (34, [(2, v0), (0, v1)], r.1 ++ [], r.2)) else none) else vr sc d c_X7_holds (34, [(2, v0), (0, v1)], [(0, (-3))], (K, M))) else none) else none) else some ([(0, (-2))], (K, M))) := by
  refine (v_if (k := 1) (b := 10) (c := ¬ s0 = 0) rfl rfl).trans ?_
  refine c_congr (fun _ => ?_) (fun _ => ?_)
  · refine (vr_steps 1 (x' := (11, [(2, v0), (0, v1)], [(2, v0)], (K, M))) rfl).trans ?_
    refine (v_getf (a := 7) (b := 10) (t := 2) rfl rfl).trans ?_
    refine g_congr (fun _ => ?_)
    refine (vr_steps 5 (x' := (19, [(2, v0), (0, v1)], [(0, w32 ((w32 (3 * v1)) + 1)), (2, M v0 10)], (K, M))) rfl).trans ?_
    refine (v_ald (a := 8) rfl (by decide)).trans ?_
    refine g_congr (fun _ => ?_)
    refine (vr_steps 1 (x' := (21, [(2, v0), (0, v1)], [(0, (-1)), (0, M (M v0 10) (w32 ((w32 (3 * v1)) + 1)))], (K, M))) rfl).trans ?_
    refine (v_icmp (k := 1) (b := 29) (c := ¬ (M (M v0 10) (w32 ((w32 (3 * v1)) + 1))) = (-1)) rfl rfl).trans ?_
    refine c_congr (fun _ => ?_) (fun _ => ?_)
    · refine (vr_steps 2 (x' := (31, [(2, v0), (0, v1)], [(0, v1), (2, v0)], (K, M))) rfl).trans ?_
      exact (v_virt (k := 165) (n := 2) (tag := 7) (r := v0) (av := [(0, v1)]) (code := c_X7_holds) (pc := 31) (len := 3) (L := [(2, v0), (0, v1)]) (st := [(0, v1), (2, v0)]) rfl (Nat.le_of_ble_eq_true rfl) (Nat.le_of_ble_eq_true rfl) rfl).trans rfl
    · exact vr_steps 2 rfl
  · refine (vr_steps 1 (x' := (9, [(2, v0), (0, v1)], [(0, (-2))], (K, M))) rfl).trans ?_
    exact vr_ret (ai := (35, 1, 1, 0, [])) rfl rfl
set_option maxRecDepth 100000 in
theorem e_X7_holds_34 {sc : dS} {d : Nat} {K : List (Nat × Nat)} {M : dM} {v0 v1 s0 : Int} : vr sc d c_X7_holds (34, [(2, v0), (0, v1)], [(0, s0)], (K, M)) = (some ([(0, s0)], (K, M))) := by
  exact vr_ret (ai := (35, 1, 1, 0, [])) rfl rfl

noncomputable def c_X7_passesAt : Nat → Option dI := d_mcode m_X7_passesAt
set_option maxRecDepth 100000 in
theorem e_X7_passesAt_0 {sc : dS} {d : Nat} {K : List (Nat × Nat)} {M : dM} {v0 v1 : Int} : vr sc d c_X7_passesAt (0, [(2, v0), (0, v1)], [], (K, M)) = (if og K 7 v0 10 = true then (if ag K 8 (M v0 10) (w32 ((w32 (3 * v1)) + 1)) = true then (if (M (M v0 10) (w32 ((w32 (3 * v1)) + 1))) = (-1) then some ([(0, 0)], (K, M)) else (if rg K 7 v0 = true then (vc sc d 165 [(2, v0), (0, v1)] (K, M)).bind (fun r => vr sc d c_X7_passesAt (19, [(2, v0), (0, v1)], r.1 ++ [], r.2)) else none)) else none) else none) := by
  refine (vr_steps 1 (x' := (1, [(2, v0), (0, v1)], [(2, v0)], (K, M))) rfl).trans ?_
  refine (v_getf (a := 7) (b := 10) (t := 2) rfl rfl).trans ?_
  refine g_congr (fun _ => ?_)
  refine (vr_steps 5 (x' := (9, [(2, v0), (0, v1)], [(0, w32 ((w32 (3 * v1)) + 1)), (2, M v0 10)], (K, M))) rfl).trans ?_
  refine (v_ald (a := 8) rfl (by decide)).trans ?_
  refine g_congr (fun _ => ?_)
  refine (vr_steps 1 (x' := (11, [(2, v0), (0, v1)], [(0, (-1)), (0, M (M v0 10) (w32 ((w32 (3 * v1)) + 1)))], (K, M))) rfl).trans ?_
  refine (v_icmp (k := 0) (b := 34) (c := (M (M v0 10) (w32 ((w32 (3 * v1)) + 1))) = (-1)) rfl rfl).trans ?_
  refine c_congr (fun _ => ?_) (fun _ => ?_)
  · refine (vr_steps 1 (x' := (35, [(2, v0), (0, v1)], [(0, 0)], (K, M))) rfl).trans ?_
    exact vr_ret (ai := (35, 1, 3, 0, [])) rfl rfl
  · refine (vr_steps 2 (x' := (16, [(2, v0), (0, v1)], [(0, v1), (2, v0)], (K, M))) rfl).trans ?_
    exact (v_virt (k := 165) (n := 2) (tag := 7) (r := v0) (av := [(0, v1)]) (code := c_X7_passesAt) (pc := 16) (len := 3) (L := [(2, v0), (0, v1)]) (st := [(0, v1), (2, v0)]) rfl (Nat.le_of_ble_eq_true rfl) (Nat.le_of_ble_eq_true rfl) rfl).trans rfl
set_option maxRecDepth 100000 in
theorem e_X7_passesAt_19 {sc : dS} {d : Nat} {K : List (Nat × Nat)} {M : dM} {v0 v1 s0 : Int} : vr sc d c_X7_passesAt (19, [(2, v0), (0, v1)], [(0, s0)], (K, M)) = (if og K 7 v0 10 = true then (if ag K 8 (M v0 10) (w32 (3 * v1)) = true then (if s0 < (M (M v0 10) (w32 (3 * v1))) then some ([(0, 0)], (K, M)) else some ([(0, 1)], (K, M))) else none) else none) := by
  refine (vr_steps 1 (x' := (20, [(2, v0), (0, v1)], [(2, v0), (0, s0)], (K, M))) rfl).trans ?_
  refine (v_getf (a := 7) (b := 10) (t := 2) rfl rfl).trans ?_
  refine g_congr (fun _ => ?_)
  refine (vr_steps 3 (x' := (26, [(2, v0), (0, v1)], [(0, w32 (3 * v1)), (2, M v0 10), (0, s0)], (K, M))) rfl).trans ?_
  refine (v_ald (a := 8) rfl (by decide)).trans ?_
  refine g_congr (fun _ => ?_)
  refine (v_icmp (k := 2) (b := 34) (c := s0 < (M (M v0 10) (w32 (3 * v1)))) rfl rfl).trans ?_
  refine c_congr (fun _ => ?_) (fun _ => ?_)
  · refine (vr_steps 1 (x' := (35, [(2, v0), (0, v1)], [(0, 0)], (K, M))) rfl).trans ?_
    exact vr_ret (ai := (35, 1, 3, 0, [])) rfl rfl
  · refine (vr_steps 2 (x' := (35, [(2, v0), (0, v1)], [(0, 1)], (K, M))) rfl).trans ?_
    exact vr_ret (ai := (35, 1, 3, 0, [])) rfl rfl

noncomputable def c_X7_passedBy : Nat → Option dI := d_mcode m_X7_passedBy
set_option maxRecDepth 100000 in
theorem e_X7_passedBy_0 {sc : dS} {d : Nat} {K : List (Nat × Nat)} {M : dM} {v0 v1 : Int} {q2 q3 : dV} : vr sc d c_X7_passedBy (0, [(2, v0), (0, v1), q2, q3], [], (K, M)) = (vr sc d c_X7_passedBy (4, [(2, v0), (0, v1), (0, 0), (0, 0)], [], (K, M))) := by
  exact vr_steps 4 rfl
set_option maxRecDepth 100000 in
theorem e_X7_passedBy_4 {sc : dS} {d : Nat} {K : List (Nat × Nat)} {M : dM} {v0 v1 v2 v3 : Int} : vr sc d c_X7_passedBy (4, [(2, v0), (0, v1), (0, v2), (0, v3)], [], (K, M)) = (if 6 ≤ v3 then some ([(0, v2)], (K, M)) else (if og K 7 v0 10 = true then (if ag K 8 (M v0 10) (w32 ((w32 (3 * v3)) + 1)) = true then (if ¬ (M (M v0 10) (w32 ((w32 (3 * v3)) + 1))) = v1 then vr sc d c_X7_passedBy (4, [(2, v0), (0, v1), (0, i_or v2 (i_shl 0 v3)), (0, w32 (v3 + 1))], [], (K, M)) else (if rg K 7 v0 = true then (vc sc d 167 [(2, v0), (0, v3)] (K, M)).bind (fun r => vr sc d c_X7_passedBy (30, [(2, v0), (0, v1), (0, v2), (0, v3)], r.1 ++ [(0, v2)], r.2)) else none)) else none) else none)) := by
  refine (vr_steps 2 (x' := (7, [(2, v0), (0, v1), (0, v2), (0, v3)], [(0, 6), (0, v3)], (K, M))) rfl).trans ?_
  refine (v_icmp (k := 3) (b := 48) (c := 6 ≤ v3) rfl rfl).trans ?_
  refine c_congr (fun _ => ?_) (fun _ => ?_)
  · refine (vr_steps 1 (x' := (49, [(2, v0), (0, v1), (0, v2), (0, v3)], [(0, v2)], (K, M))) rfl).trans ?_
    exact vr_ret (ai := (35, 1, 1, 0, [])) rfl rfl
  · refine (vr_steps 2 (x' := (12, [(2, v0), (0, v1), (0, v2), (0, v3)], [(2, v0), (0, v2)], (K, M))) rfl).trans ?_
    refine (v_getf (a := 7) (b := 10) (t := 2) rfl rfl).trans ?_
    refine g_congr (fun _ => ?_)
    refine (vr_steps 5 (x' := (20, [(2, v0), (0, v1), (0, v2), (0, v3)], [(0, w32 ((w32 (3 * v3)) + 1)), (2, M v0 10), (0, v2)], (K, M))) rfl).trans ?_
    refine (v_ald (a := 8) rfl (by decide)).trans ?_
    refine g_congr (fun _ => ?_)
    refine (vr_steps 1 (x' := (22, [(2, v0), (0, v1), (0, v2), (0, v3)], [(0, v1), (0, M (M v0 10) (w32 ((w32 (3 * v3)) + 1))), (0, v2)], (K, M))) rfl).trans ?_
    refine (v_icmp (k := 1) (b := 37) (c := ¬ (M (M v0 10) (w32 ((w32 (3 * v3)) + 1))) = v1) rfl rfl).trans ?_
    refine c_congr (fun _ => ?_) (fun _ => ?_)
    · exact vr_steps 7 rfl
    · refine (vr_steps 2 (x' := (27, [(2, v0), (0, v1), (0, v2), (0, v3)], [(0, v3), (2, v0), (0, v2)], (K, M))) rfl).trans ?_
      exact (v_virt (k := 167) (n := 2) (tag := 7) (r := v0) (av := [(0, v3)]) (code := c_X7_passedBy) (pc := 27) (len := 3) (L := [(2, v0), (0, v1), (0, v2), (0, v3)]) (st := [(0, v3), (2, v0), (0, v2)]) rfl (Nat.le_of_ble_eq_true rfl) (Nat.le_of_ble_eq_true rfl) rfl).trans rfl
set_option maxRecDepth 100000 in
theorem e_X7_passedBy_30 {sc : dS} {d : Nat} {K : List (Nat × Nat)} {M : dM} {v0 v1 v2 v3 s0 s1 : Int} : vr sc d c_X7_passedBy (30, [(2, v0), (0, v1), (0, v2), (0, v3)], [(0, s1), (0, s0)], (K, M)) = (if s1 = 0 then vr sc d c_X7_passedBy (4, [(2, v0), (0, v1), (0, i_or s0 (i_shl 0 v3)), (0, w32 (v3 + 1))], [], (K, M)) else vr sc d c_X7_passedBy (4, [(2, v0), (0, v1), (0, i_or s0 (i_shl 1 v3)), (0, w32 (v3 + 1))], [], (K, M))) := by
  refine (v_if (k := 0) (b := 37) (c := s1 = 0) rfl rfl).trans ?_
  refine c_congr (fun _ => ?_) (fun _ => ?_)
  · exact vr_steps 7 rfl
  · exact vr_steps 8 rfl

noncomputable def c_X7_learnsOf : Nat → Option dI := d_mcode m_X7_learnsOf
set_option maxRecDepth 100000 in
theorem e_X7_learnsOf_0 {sc : dS} {d : Nat} {K : List (Nat × Nat)} {M : dM} {v0 v1 v2 v3 : Int} {q4 q5 q6 : dV} : vr sc d c_X7_learnsOf (0, [(2, v0), (0, v1), (0, v2), (0, v3), q4, q5, q6], [], (K, M)) = (if og K 7 v0 9 = true then (if ag K 8 (M v0 9) (w32 ((w32 (3 * v1)) + 2)) = true then (if (M (M v0 9) (w32 ((w32 (3 * v1)) + 2))) = 5 then (if ¬ (M (M v0 9) (w32 ((w32 (3 * v1)) + 2))) = 5 then (if og K 7 v0 9 = true then (if ag K 8 (M v0 9) (w32 (3 * v1)) = true then some ([(0, w32 (-(M (M v0 9) (w32 (3 * v1)))))], (K, M)) else none) else none) else some ([(0, 0)], (K, M))) else (if ¬ (M (M v0 9) (w32 ((w32 (3 * v1)) + 2))) = 4 then (if rg K 7 v0 = true then (vc sc d 147 [(2, v0), (0, v2)] (K, M)).bind (fun r => vr sc d c_X7_learnsOf (53, [(2, v0), (0, v1), (0, v2), (0, v3), (0, M (M v0 9) (w32 ((w32 (3 * v1)) + 2))), q5, q6], r.1 ++ [], r.2)) else none) else (if ¬ v3 = 0 then (if rg K 7 v0 = true then (vc sc d 147 [(2, v0), (0, v2)] (K, M)).bind (fun r => vr sc d c_X7_learnsOf (53, [(2, v0), (0, v1), (0, v2), (0, v3), (0, M (M v0 9) (w32 ((w32 (3 * v1)) + 2))), q5, q6], r.1 ++ [], r.2)) else none) else (if ¬ (M (M v0 9) (w32 ((w32 (3 * v1)) + 2))) = 5 then (if og K 7 v0 9 = true then (if ag K 8 (M v0 9) (w32 (3 * v1)) = true then some ([(0, w32 (-(M (M v0 9) (w32 (3 * v1)))))], (K, M)) else none) else none) else some ([(0, 0)], (K, M)))))) else none) else none) := by
  refine (vr_steps 1 (x' := (1, [(2, v0), (0, v1), (0, v2), (0, v3), q4, q5, q6], [(2, v0)], (K, M))) rfl).trans ?_
  refine (v_getf (a := 7) (b := 9) (t := 2) rfl rfl).trans ?_
  refine g_congr (fun _ => ?_)
  refine (vr_steps 5 (x' := (9, [(2, v0), (0, v1), (0, v2), (0, v3), q4, q5, q6], [(0, w32 ((w32 (3 * v1)) + 2)), (2, M v0 9)], (K, M))) rfl).trans ?_
  refine (v_ald (a := 8) rfl (by decide)).trans ?_
  refine g_congr (fun _ => ?_)
  refine (vr_steps 3 (x' := (15, [(2, v0), (0, v1), (0, v2), (0, v3), (0, M (M v0 9) (w32 ((w32 (3 * v1)) + 2))), q5, q6], [(0, 5), (0, M (M v0 9) (w32 ((w32 (3 * v1)) + 2)))], (K, M))) rfl).trans ?_
  refine (v_icmp (k := 0) (b := 28) (c := (M (M v0 9) (w32 ((w32 (3 * v1)) + 2))) = 5) rfl rfl).trans ?_
  refine c_congr (fun _ => ?_) (fun _ => ?_)
  · refine (vr_steps 2 (x' := (31, [(2, v0), (0, v1), (0, v2), (0, v3), (0, M (M v0 9) (w32 ((w32 (3 * v1)) + 2))), q5, q6], [(0, 5), (0, M (M v0 9) (w32 ((w32 (3 * v1)) + 2)))], (K, M))) rfl).trans ?_
    refine (v_icmp (k := 1) (b := 38) (c := ¬ (M (M v0 9) (w32 ((w32 (3 * v1)) + 2))) = 5) rfl rfl).trans ?_
    refine c_congr (fun _ => ?_) (fun _ => ?_)
    · refine (vr_steps 1 (x' := (39, [(2, v0), (0, v1), (0, v2), (0, v3), (0, M (M v0 9) (w32 ((w32 (3 * v1)) + 2))), q5, q6], [(2, v0)], (K, M))) rfl).trans ?_
      refine (v_getf (a := 7) (b := 9) (t := 2) rfl rfl).trans ?_
      refine g_congr (fun _ => ?_)
      refine (vr_steps 3 (x' := (45, [(2, v0), (0, v1), (0, v2), (0, v3), (0, M (M v0 9) (w32 ((w32 (3 * v1)) + 2))), q5, q6], [(0, w32 (3 * v1)), (2, M v0 9)], (K, M))) rfl).trans ?_
      refine (v_ald (a := 8) rfl (by decide)).trans ?_
      refine g_congr (fun _ => ?_)
      refine (vr_steps 1 (x' := (47, [(2, v0), (0, v1), (0, v2), (0, v3), (0, M (M v0 9) (w32 ((w32 (3 * v1)) + 2))), q5, q6], [(0, w32 (-(M (M v0 9) (w32 (3 * v1)))))], (K, M))) rfl).trans ?_
      exact vr_ret (ai := (35, 1, 1, 0, [])) rfl rfl
    · refine (vr_steps 2 (x' := (47, [(2, v0), (0, v1), (0, v2), (0, v3), (0, M (M v0 9) (w32 ((w32 (3 * v1)) + 2))), q5, q6], [(0, 0)], (K, M))) rfl).trans ?_
      exact vr_ret (ai := (35, 1, 1, 0, [])) rfl rfl
  · refine (vr_steps 2 (x' := (21, [(2, v0), (0, v1), (0, v2), (0, v3), (0, M (M v0 9) (w32 ((w32 (3 * v1)) + 2))), q5, q6], [(0, 4), (0, M (M v0 9) (w32 ((w32 (3 * v1)) + 2)))], (K, M))) rfl).trans ?_
    refine (v_icmp (k := 1) (b := 48) (c := ¬ (M (M v0 9) (w32 ((w32 (3 * v1)) + 2))) = 4) rfl rfl).trans ?_
    refine c_congr (fun _ => ?_) (fun _ => ?_)
    · refine (vr_steps 2 (x' := (50, [(2, v0), (0, v1), (0, v2), (0, v3), (0, M (M v0 9) (w32 ((w32 (3 * v1)) + 2))), q5, q6], [(0, v2), (2, v0)], (K, M))) rfl).trans ?_
      exact (v_virt (k := 147) (n := 2) (tag := 7) (r := v0) (av := [(0, v2)]) (code := c_X7_learnsOf) (pc := 50) (len := 3) (L := [(2, v0), (0, v1), (0, v2), (0, v3), (0, M (M v0 9) (w32 ((w32 (3 * v1)) + 2))), q5, q6]) (st := [(0, v2), (2, v0)]) rfl (Nat.le_of_ble_eq_true rfl) (Nat.le_of_ble_eq_true rfl) rfl).trans rfl
    · refine (vr_steps 1 (x' := (25, [(2, v0), (0, v1), (0, v2), (0, v3), (0, M (M v0 9) (w32 ((w32 (3 * v1)) + 2))), q5, q6], [(0, v3)], (K, M))) rfl).trans ?_
      refine (v_if (k := 1) (b := 48) (c := ¬ v3 = 0) rfl rfl).trans ?_
      refine c_congr (fun _ => ?_) (fun _ => ?_)
      · refine (vr_steps 2 (x' := (50, [(2, v0), (0, v1), (0, v2), (0, v3), (0, M (M v0 9) (w32 ((w32 (3 * v1)) + 2))), q5, q6], [(0, v2), (2, v0)], (K, M))) rfl).trans ?_
        exact (v_virt (k := 147) (n := 2) (tag := 7) (r := v0) (av := [(0, v2)]) (code := c_X7_learnsOf) (pc := 50) (len := 3) (L := [(2, v0), (0, v1), (0, v2), (0, v3), (0, M (M v0 9) (w32 ((w32 (3 * v1)) + 2))), q5, q6]) (st := [(0, v2), (2, v0)]) rfl (Nat.le_of_ble_eq_true rfl) (Nat.le_of_ble_eq_true rfl) rfl).trans rfl
      · refine (vr_steps 2 (x' := (31, [(2, v0), (0, v1), (0, v2), (0, v3), (0, M (M v0 9) (w32 ((w32 (3 * v1)) + 2))), q5, q6], [(0, 5), (0, M (M v0 9) (w32 ((w32 (3 * v1)) + 2)))], (K, M))) rfl).trans ?_
        refine (v_icmp (k := 1) (b := 38) (c := ¬ (M (M v0 9) (w32 ((w32 (3 * v1)) + 2))) = 5) rfl rfl).trans ?_
        refine c_congr (fun _ => ?_) (fun _ => ?_)
        · refine (vr_steps 1 (x' := (39, [(2, v0), (0, v1), (0, v2), (0, v3), (0, M (M v0 9) (w32 ((w32 (3 * v1)) + 2))), q5, q6], [(2, v0)], (K, M))) rfl).trans ?_
          refine (v_getf (a := 7) (b := 9) (t := 2) rfl rfl).trans ?_
          refine g_congr (fun _ => ?_)
          refine (vr_steps 3 (x' := (45, [(2, v0), (0, v1), (0, v2), (0, v3), (0, M (M v0 9) (w32 ((w32 (3 * v1)) + 2))), q5, q6], [(0, w32 (3 * v1)), (2, M v0 9)], (K, M))) rfl).trans ?_
          refine (v_ald (a := 8) rfl (by decide)).trans ?_
          refine g_congr (fun _ => ?_)
          refine (vr_steps 1 (x' := (47, [(2, v0), (0, v1), (0, v2), (0, v3), (0, M (M v0 9) (w32 ((w32 (3 * v1)) + 2))), q5, q6], [(0, w32 (-(M (M v0 9) (w32 (3 * v1)))))], (K, M))) rfl).trans ?_
          exact vr_ret (ai := (35, 1, 1, 0, [])) rfl rfl
        · refine (vr_steps 2 (x' := (47, [(2, v0), (0, v1), (0, v2), (0, v3), (0, M (M v0 9) (w32 ((w32 (3 * v1)) + 2))), q5, q6], [(0, 0)], (K, M))) rfl).trans ?_
          exact vr_ret (ai := (35, 1, 1, 0, [])) rfl rfl
set_option maxRecDepth 100000 in
theorem e_X7_learnsOf_53 {sc : dS} {d : Nat} {K : List (Nat × Nat)} {M : dM} {v0 v1 v2 v3 v4 : Int} {q5 q6 : dV} : vr sc d c_X7_learnsOf (53, [(2, v0), (0, v1), (0, v2), (0, v3), (0, v4), q5, q6], [], (K, M)) = (if rg K 7 v0 = true then (vc sc d 154 [(2, v0)] (K, M)).bind (fun r => vr sc d c_X7_learnsOf (61, [(2, v0), (0, v1), (0, v2), (0, v3), (0, v4), q5, q6], r.1 ++ [(0, v2), (0, v1), (0, 1), (2, v0)], r.2)) else none) := by
  refine (vr_steps 5 (x' := (58, [(2, v0), (0, v1), (0, v2), (0, v3), (0, v4), q5, q6], [(2, v0), (0, v2), (0, v1), (0, 1), (2, v0)], (K, M))) rfl).trans ?_
  exact (v_virt (k := 154) (n := 1) (tag := 7) (r := v0) (av := []) (code := c_X7_learnsOf) (pc := 58) (len := 3) (L := [(2, v0), (0, v1), (0, v2), (0, v3), (0, v4), q5, q6]) (st := [(2, v0), (0, v2), (0, v1), (0, 1), (2, v0)]) rfl (Nat.le_of_ble_eq_true rfl) (Nat.le_of_ble_eq_true rfl) rfl).trans rfl
set_option maxRecDepth 100000 in
theorem e_X7_learnsOf_61 {sc : dS} {d : Nat} {K : List (Nat × Nat)} {M : dM} {v0 v1 v2 v3 v4 s0 s1 s2 s3 s4 : Int} {q5 q6 : dV} : vr sc d c_X7_learnsOf (61, [(2, v0), (0, v1), (0, v2), (0, v3), (0, v4), q5, q6], [(0, s4), (0, s3), (0, s2), (0, s1), (2, s0)], (K, M)) = (if rg K 7 s0 = true then (vc sc d 145 [(2, s0), (0, s1), (0, s2), (0, s3), (0, s4)] (K, M)).bind (fun r => vr sc d c_X7_learnsOf (64, [(2, v0), (0, v1), (0, v2), (0, v3), (0, v4), q5, q6], r.1 ++ [], r.2)) else none) := by
  exact (v_virt (k := 145) (n := 5) (tag := 7) (r := s0) (av := [(0, s1), (0, s2), (0, s3), (0, s4)]) (code := c_X7_learnsOf) (pc := 61) (len := 3) (L := [(2, v0), (0, v1), (0, v2), (0, v3), (0, v4), q5, q6]) (st := [(0, s4), (0, s3), (0, s2), (0, s1), (2, s0)]) rfl (Nat.le_of_ble_eq_true rfl) (Nat.le_of_ble_eq_true rfl) rfl).trans rfl
set_option maxRecDepth 100000 in
theorem e_X7_learnsOf_64 {sc : dS} {d : Nat} {K : List (Nat × Nat)} {M : dM} {v0 v1 v2 v3 v4 s0 : Int} {q5 q6 : dV} : vr sc d c_X7_learnsOf (64, [(2, v0), (0, v1), (0, v2), (0, v3), (0, v4), q5, q6], [(0, s0)], (K, M)) = (if v3 = 0 then (if ¬ v4 = 2 then (if ¬ v4 = 3 then some ([(0, 0)], (K, M)) else some ([(0, w32 (0 + 1))], (K, M))) else some ([(0, s0)], (K, M))) else (if ¬ v4 = 2 then (if ¬ v4 = 3 then some ([(0, s0)], (K, M)) else some ([(0, w32 (s0 + 1))], (K, M))) else some ([(0, s0)], (K, M)))) := by
  refine (vr_steps 2 (x' := (67, [(2, v0), (0, v1), (0, v2), (0, v3), (0, v4), (0, s0), q6], [(0, v3)], (K, M))) rfl).trans ?_
  refine (v_if (k := 0) (b := 75) (c := v3 = 0) rfl rfl).trans ?_
  refine c_congr (fun _ => ?_) (fun _ => ?_)
  · refine (vr_steps 4 (x' := (81, [(2, v0), (0, v1), (0, v2), (0, v3), (0, v4), (0, s0), (0, 0)], [(0, 2), (0, v4)], (K, M))) rfl).trans ?_
    refine (v_icmp (k := 1) (b := 89) (c := ¬ v4 = 2) rfl rfl).trans ?_
    refine c_congr (fun _ => ?_) (fun _ => ?_)
    · refine (vr_steps 2 (x' := (92, [(2, v0), (0, v1), (0, v2), (0, v3), (0, v4), (0, s0), (0, 0)], [(0, 3), (0, v4)], (K, M))) rfl).trans ?_
      refine (v_icmp (k := 1) (b := 102) (c := ¬ v4 = 3) rfl rfl).trans ?_
      refine c_congr (fun _ => ?_) (fun _ => ?_)
      · refine (vr_steps 1 (x' := (104, [(2, v0), (0, v1), (0, v2), (0, v3), (0, v4), (0, s0), (0, 0)], [(0, 0)], (K, M))) rfl).trans ?_
        exact vr_ret (ai := (35, 1, 1, 0, [])) rfl rfl
      · refine (vr_steps 4 (x' := (104, [(2, v0), (0, v1), (0, v2), (0, v3), (0, v4), (0, s0), (0, 0)], [(0, w32 (0 + 1))], (K, M))) rfl).trans ?_
        exact vr_ret (ai := (35, 1, 1, 0, [])) rfl rfl
    · refine (vr_steps 2 (x' := (104, [(2, v0), (0, v1), (0, v2), (0, v3), (0, v4), (0, s0), (0, 0)], [(0, s0)], (K, M))) rfl).trans ?_
      exact vr_ret (ai := (35, 1, 1, 0, [])) rfl rfl
  · refine (vr_steps 5 (x' := (81, [(2, v0), (0, v1), (0, v2), (0, v3), (0, v4), (0, s0), (0, s0)], [(0, 2), (0, v4)], (K, M))) rfl).trans ?_
    refine (v_icmp (k := 1) (b := 89) (c := ¬ v4 = 2) rfl rfl).trans ?_
    refine c_congr (fun _ => ?_) (fun _ => ?_)
    · refine (vr_steps 2 (x' := (92, [(2, v0), (0, v1), (0, v2), (0, v3), (0, v4), (0, s0), (0, s0)], [(0, 3), (0, v4)], (K, M))) rfl).trans ?_
      refine (v_icmp (k := 1) (b := 102) (c := ¬ v4 = 3) rfl rfl).trans ?_
      refine c_congr (fun _ => ?_) (fun _ => ?_)
      · refine (vr_steps 1 (x' := (104, [(2, v0), (0, v1), (0, v2), (0, v3), (0, v4), (0, s0), (0, s0)], [(0, s0)], (K, M))) rfl).trans ?_
        exact vr_ret (ai := (35, 1, 1, 0, [])) rfl rfl
      · refine (vr_steps 4 (x' := (104, [(2, v0), (0, v1), (0, v2), (0, v3), (0, v4), (0, s0), (0, s0)], [(0, w32 (s0 + 1))], (K, M))) rfl).trans ?_
        exact vr_ret (ai := (35, 1, 1, 0, [])) rfl rfl
    · refine (vr_steps 2 (x' := (104, [(2, v0), (0, v1), (0, v2), (0, v3), (0, v4), (0, s0), (0, s0)], [(0, s0)], (K, M))) rfl).trans ?_
      exact vr_ret (ai := (35, 1, 1, 0, [])) rfl rfl

noncomputable def c_X7_passes : Nat → Option dI := d_mcode m_X7_passes
set_option maxRecDepth 100000 in
theorem e_X7_passes_0 {sc : dS} {d : Nat} {K : List (Nat × Nat)} {M : dM} {v0 : Int} {q1 q2 q3 q4 : dV} : vr sc d c_X7_passes (0, [(2, v0), q1, q2, q3, q4], [], (K, M)) = (vr sc d c_X7_passes (4, [(2, v0), (0, 0), (0, 0), q3, q4], [], (K, M))) := by
  exact vr_steps 4 rfl
set_option maxRecDepth 100000 in
theorem e_X7_passes_4 {sc : dS} {d : Nat} {K : List (Nat × Nat)} {M : dM} {v0 v1 v2 : Int} {q3 q4 : dV} : vr sc d c_X7_passes (4, [(2, v0), (0, v1), (0, v2), q3, q4], [], (K, M)) = (if 6 ≤ v2 then vr sc d c_X7_passes (36, [(2, v0), (0, v1), (0, 0), q3, q4], [], (K, M)) else (if rg K 7 v0 = true then (vc sc d 167 [(2, v0), (0, v2)] (K, M)).bind (fun r => vr sc d c_X7_passes (16, [(2, v0), (0, v1), (0, v2), q3, q4], r.1 ++ [(0, v1)], r.2)) else none)) := by
  refine (vr_steps 2 (x' := (7, [(2, v0), (0, v1), (0, v2), q3, q4], [(0, 6), (0, v2)], (K, M))) rfl).trans ?_
  refine (v_icmp (k := 3) (b := 34) (c := 6 ≤ v2) rfl rfl).trans ?_
  refine c_congr (fun _ => ?_) (fun _ => ?_)
  · exact vr_steps 2 rfl
  · refine (vr_steps 3 (x' := (13, [(2, v0), (0, v1), (0, v2), q3, q4], [(0, v2), (2, v0), (0, v1)], (K, M))) rfl).trans ?_
    exact (v_virt (k := 167) (n := 2) (tag := 7) (r := v0) (av := [(0, v2)]) (code := c_X7_passes) (pc := 13) (len := 3) (L := [(2, v0), (0, v1), (0, v2), q3, q4]) (st := [(0, v2), (2, v0), (0, v1)]) rfl (Nat.le_of_ble_eq_true rfl) (Nat.le_of_ble_eq_true rfl) rfl).trans rfl
set_option maxRecDepth 100000 in
theorem e_X7_passes_16 {sc : dS} {d : Nat} {K : List (Nat × Nat)} {M : dM} {v0 v1 v2 s0 s1 : Int} {q3 q4 : dV} : vr sc d c_X7_passes (16, [(2, v0), (0, v1), (0, v2), q3, q4], [(0, s1), (0, s0)], (K, M)) = (if s1 = 0 then vr sc d c_X7_passes (4, [(2, v0), (0, i_or s0 (i_shl 0 v2)), (0, w32 (v2 + 1)), q3, q4], [], (K, M)) else vr sc d c_X7_passes (4, [(2, v0), (0, i_or s0 (i_shl 1 v2)), (0, w32 (v2 + 1)), q3, q4], [], (K, M))) := by
  refine (v_if (k := 0) (b := 23) (c := s1 = 0) rfl rfl).trans ?_
  refine c_congr (fun _ => ?_) (fun _ => ?_)
  · exact vr_steps 7 rfl
  · exact vr_steps 8 rfl
set_option maxRecDepth 100000 in
theorem e_X7_passes_36 {sc : dS} {d : Nat} {K : List (Nat × Nat)} {M : dM} {v0 v1 v2 : Int} {q3 q4 : dV} : vr sc d c_X7_passes (36, [(2, v0), (0, v1), (0, v2), q3, q4], [], (K, M)) = (if 6 ≤ v2 then (if og K 7 v0 7 = true then (if og K 7 v0 7 = true then (if -2147483648 ≤ (w32 ((M v0 7) + 1)) ∧ (w32 ((M v0 7) + 1)) < 2147483648 then some ([(0, v1)], (K, d_up M v0 7 (w32 ((M v0 7) + 1)))) else none) else none) else none) else (if og K 7 v0 10 = true then (if ag K 8 (M v0 10) (w32 ((w32 (3 * v2)) + 1)) = true then (if ¬ (i_and (i_shr v1 v2) 1) = 1 then vr sc d c_X7_passes (67, [(2, v0), (0, v1), (0, v2), (0, M (M v0 10) (w32 ((w32 (3 * v2)) + 1))), q4], [(0, 0)], (K, M)) else vr sc d c_X7_passes (67, [(2, v0), (0, v1), (0, v2), (0, M (M v0 10) (w32 ((w32 (3 * v2)) + 1))), q4], [(0, 1)], (K, M))) else none) else none)) := by
  refine (vr_steps 2 (x' := (39, [(2, v0), (0, v1), (0, v2), q3, q4], [(0, 6), (0, v2)], (K, M))) rfl).trans ?_
  refine (v_icmp (k := 3) (b := 164) (c := 6 ≤ v2) rfl rfl).trans ?_
  refine c_congr (fun _ => ?_) (fun _ => ?_)
  · refine (vr_steps 2 (x' := (166, [(2, v0), (0, v1), (0, v2), q3, q4], [(2, v0), (2, v0)], (K, M))) rfl).trans ?_
    refine (v_getf (a := 7) (b := 7) (t := 0) rfl rfl).trans ?_
    refine g_congr (fun _ => ?_)
    refine (vr_steps 2 (x' := (171, [(2, v0), (0, v1), (0, v2), q3, q4], [(0, w32 ((M v0 7) + 1)), (2, v0)], (K, M))) rfl).trans ?_
    refine (v_putf (a := 7) (b := 7) (t := 0) rfl rfl (by intro q; cases q)).trans ?_
    refine g_congr (fun _ => ?_)
    refine p_congr (fun _ => ?_)
    refine (vr_steps 1 (x' := (175, [(2, v0), (0, v1), (0, v2), q3, q4], [(0, v1)], (K, d_up M v0 7 (w32 ((M v0 7) + 1))))) rfl).trans ?_
    exact vr_ret (ai := (35, 1, 1, 0, [])) rfl rfl
  · refine (vr_steps 1 (x' := (43, [(2, v0), (0, v1), (0, v2), q3, q4], [(2, v0)], (K, M))) rfl).trans ?_
    refine (v_getf (a := 7) (b := 10) (t := 2) rfl rfl).trans ?_
    refine g_congr (fun _ => ?_)
    refine (vr_steps 5 (x' := (51, [(2, v0), (0, v1), (0, v2), q3, q4], [(0, w32 ((w32 (3 * v2)) + 1)), (2, M v0 10)], (K, M))) rfl).trans ?_
    refine (v_ald (a := 8) rfl (by decide)).trans ?_
    refine g_congr (fun _ => ?_)
    refine (vr_steps 7 (x' := (59, [(2, v0), (0, v1), (0, v2), (0, M (M v0 10) (w32 ((w32 (3 * v2)) + 1))), q4], [(0, 1), (0, i_and (i_shr v1 v2) 1)], (K, M))) rfl).trans ?_
    refine (v_icmp (k := 1) (b := 66) (c := ¬ (i_and (i_shr v1 v2) 1) = 1) rfl rfl).trans ?_
    refine c_congr (fun _ => ?_) (fun _ => ?_)
    · exact vr_steps 1 rfl
    · exact vr_steps 2 rfl
set_option maxRecDepth 100000 in
theorem e_X7_passes_67 {sc : dS} {d : Nat} {K : List (Nat × Nat)} {M : dM} {v0 v1 v2 v3 s0 : Int} {q4 : dV} : vr sc d c_X7_passes (67, [(2, v0), (0, v1), (0, v2), (0, v3), q4], [(0, s0)], (K, M)) = (if v3 = (-1) then vr sc d c_X7_passes (36, [(2, v0), (0, v1), (0, w32 (v2 + 1)), (0, v3), (0, s0)], [], (K, M)) else (if og K 7 v0 9 = true then (if og K 7 v0 9 = true then (if ag K 8 (M v0 9) (w32 ((w32 (3 * v3)) + 1)) = true then (if rg K 7 v0 = true then (vc sc d 169 [(2, v0), (0, v3), (0, v2), (0, s0)] (K, M)).bind (fun r => vr sc d c_X7_passes (101, [(2, v0), (0, v1), (0, v2), (0, v3), (0, s0)], r.1 ++ [(0, M (M v0 9) (w32 ((w32 (3 * v3)) + 1))), (0, w32 ((w32 (3 * v3)) + 1)), (2, M v0 9)], r.2)) else none) else none) else none) else none)) := by
  refine (vr_steps 3 (x' := (71, [(2, v0), (0, v1), (0, v2), (0, v3), (0, s0)], [(0, (-1)), (0, v3)], (K, M))) rfl).trans ?_
  refine (v_icmp (k := 0) (b := 158) (c := v3 = (-1)) rfl rfl).trans ?_
  refine c_congr (fun _ => ?_) (fun _ => ?_)
  · exact vr_steps 2 rfl
  · refine (vr_steps 1 (x' := (75, [(2, v0), (0, v1), (0, v2), (0, v3), (0, s0)], [(2, v0)], (K, M))) rfl).trans ?_
    refine (v_getf (a := 7) (b := 9) (t := 2) rfl rfl).trans ?_
    refine g_congr (fun _ => ?_)
    refine (vr_steps 6 (x' := (84, [(2, v0), (0, v1), (0, v2), (0, v3), (0, s0)], [(2, v0), (0, w32 ((w32 (3 * v3)) + 1)), (2, M v0 9)], (K, M))) rfl).trans ?_
    refine (v_getf (a := 7) (b := 9) (t := 2) rfl rfl).trans ?_
    refine g_congr (fun _ => ?_)
    refine (vr_steps 5 (x' := (92, [(2, v0), (0, v1), (0, v2), (0, v3), (0, s0)], [(0, w32 ((w32 (3 * v3)) + 1)), (2, M v0 9), (0, w32 ((w32 (3 * v3)) + 1)), (2, M v0 9)], (K, M))) rfl).trans ?_
    refine (v_ald (a := 8) rfl (by decide)).trans ?_
    refine g_congr (fun _ => ?_)
    refine (vr_steps 4 (x' := (98, [(2, v0), (0, v1), (0, v2), (0, v3), (0, s0)], [(0, s0), (0, v2), (0, v3), (2, v0), (0, M (M v0 9) (w32 ((w32 (3 * v3)) + 1))), (0, w32 ((w32 (3 * v3)) + 1)), (2, M v0 9)], (K, M))) rfl).trans ?_
    exact (v_virt (k := 169) (n := 4) (tag := 7) (r := v0) (av := [(0, v3), (0, v2), (0, s0)]) (code := c_X7_passes) (pc := 98) (len := 3) (L := [(2, v0), (0, v1), (0, v2), (0, v3), (0, s0)]) (st := [(0, s0), (0, v2), (0, v3), (2, v0), (0, M (M v0 9) (w32 ((w32 (3 * v3)) + 1))), (0, w32 ((w32 (3 * v3)) + 1)), (2, M v0 9)]) rfl (Nat.le_of_ble_eq_true rfl) (Nat.le_of_ble_eq_true rfl) rfl).trans rfl
set_option maxRecDepth 100000 in
theorem e_X7_passes_101 {sc : dS} {d : Nat} {K : List (Nat × Nat)} {M : dM} {v0 v1 v2 v3 v4 s0 s1 s2 s3 : Int} : vr sc d c_X7_passes (101, [(2, v0), (0, v1), (0, v2), (0, v3), (0, v4)], [(0, s3), (0, s2), (0, s1), (2, s0)], (K, M)) = ((vc sc d 115 [(0, w32 (s2 + s3)), (0, 0), (0, 99)] (K, M)).bind (fun r => vr sc d c_X7_passes (108, [(2, v0), (0, v1), (0, v2), (0, v3), (0, v4)], r.1 ++ [(0, s1), (2, s0)], r.2))) := by
  refine (vr_steps 3 (x' := (105, [(2, v0), (0, v1), (0, v2), (0, v3), (0, v4)], [(0, 99), (0, 0), (0, w32 (s2 + s3)), (0, s1), (2, s0)], (K, M))) rfl).trans ?_
  exact (v_stat (k := 115) (n := 3) (code := c_X7_passes) (pc := 105) (len := 3) (L := [(2, v0), (0, v1), (0, v2), (0, v3), (0, v4)]) (st := [(0, 99), (0, 0), (0, w32 (s2 + s3)), (0, s1), (2, s0)]) rfl (Nat.le_of_ble_eq_true rfl) (Nat.le_of_ble_eq_true rfl)).trans rfl
set_option maxRecDepth 100000 in
theorem e_X7_passes_108 {sc : dS} {d : Nat} {K : List (Nat × Nat)} {M : dM} {v0 v1 v2 v3 v4 s0 s1 s2 : Int} : vr sc d c_X7_passes (108, [(2, v0), (0, v1), (0, v2), (0, v3), (0, v4)], [(0, s2), (0, s1), (2, s0)], (K, M)) = (if ag K 8 s0 s1 = true then (if og K 7 v0 10 = true then (if v4 = 0 then vr sc d c_X7_passes (128, [(2, v0), (0, v1), (0, v2), (0, v3), (0, v4)], [(0, (-1)), (0, w32 ((w32 (3 * v2)) + 1)), (2, (d_up M s0 s1 s2) v0 10)], (K, d_up M s0 s1 s2)) else vr sc d c_X7_passes (128, [(2, v0), (0, v1), (0, v2), (0, v3), (0, v4)], [(0, v3), (0, w32 ((w32 (3 * v2)) + 1)), (2, (d_up M s0 s1 s2) v0 10)], (K, d_up M s0 s1 s2))) else none) else none) := by
  refine (v_ast rfl).trans ?_
  refine g_congr (fun _ => ?_)
  refine (vr_steps 1 (x' := (110, [(2, v0), (0, v1), (0, v2), (0, v3), (0, v4)], [(2, v0)], (K, d_up M s0 s1 s2))) rfl).trans ?_
  refine (v_getf (a := 7) (b := 10) (t := 2) rfl rfl).trans ?_
  refine g_congr (fun _ => ?_)
  refine (vr_steps 6 (x' := (120, [(2, v0), (0, v1), (0, v2), (0, v3), (0, v4)], [(0, v4), (0, w32 ((w32 (3 * v2)) + 1)), (2, (d_up M s0 s1 s2) v0 10)], (K, d_up M s0 s1 s2))) rfl).trans ?_
  refine (v_if (k := 0) (b := 127) (c := v4 = 0) rfl rfl).trans ?_
  refine c_congr (fun _ => ?_) (fun _ => ?_)
  · exact vr_steps 1 rfl
  · exact vr_steps 2 rfl
set_option maxRecDepth 100000 in
theorem e_X7_passes_128 {sc : dS} {d : Nat} {K : List (Nat × Nat)} {M : dM} {v0 v1 v2 v3 v4 s0 s1 s2 : Int} : vr sc d c_X7_passes (128, [(2, v0), (0, v1), (0, v2), (0, v3), (0, v4)], [(0, s2), (0, s1), (2, s0)], (K, M)) = (if ag K 8 s0 s1 = true then (if og K 7 v0 10 = true then (if v4 = 0 then (if ag K 8 ((d_up M s0 s1 s2) v0 10) (w32 ((w32 (3 * v2)) + 2)) = true then vr sc d c_X7_passes (36, [(2, v0), (0, v1), (0, w32 (v2 + 1)), (0, v3), (0, v4)], [], (K, d_up (d_up M s0 s1 s2) ((d_up M s0 s1 s2) v0 10) (w32 ((w32 (3 * v2)) + 2)) 0)) else none) else (if og K 7 v0 10 = true then (if ag K 8 ((d_up M s0 s1 s2) v0 10) (w32 ((w32 (3 * v2)) + 2)) = true then (if ag K 8 ((d_up M s0 s1 s2) v0 10) (w32 ((w32 (3 * v2)) + 2)) = true then vr sc d c_X7_passes (36, [(2, v0), (0, v1), (0, w32 (v2 + 1)), (0, v3), (0, v4)], [], (K, d_up (d_up M s0 s1 s2) ((d_up M s0 s1 s2) v0 10) (w32 ((w32 (3 * v2)) + 2)) ((d_up M s0 s1 s2) ((d_up M s0 s1 s2) v0 10) (w32 ((w32 (3 * v2)) + 2))))) else none) else none) else none)) else none) else none) := by
  refine (v_ast rfl).trans ?_
  refine g_congr (fun _ => ?_)
  refine (vr_steps 1 (x' := (130, [(2, v0), (0, v1), (0, v2), (0, v3), (0, v4)], [(2, v0)], (K, d_up M s0 s1 s2))) rfl).trans ?_
  refine (v_getf (a := 7) (b := 10) (t := 2) rfl rfl).trans ?_
  refine g_congr (fun _ => ?_)
  refine (vr_steps 6 (x' := (140, [(2, v0), (0, v1), (0, v2), (0, v3), (0, v4)], [(0, v4), (0, w32 ((w32 (3 * v2)) + 2)), (2, (d_up M s0 s1 s2) v0 10)], (K, d_up M s0 s1 s2))) rfl).trans ?_
  refine (v_if (k := 0) (b := 156) (c := v4 = 0) rfl rfl).trans ?_
  refine c_congr (fun _ => ?_) (fun _ => ?_)
  · refine (vr_steps 1 (x' := (157, [(2, v0), (0, v1), (0, v2), (0, v3), (0, v4)], [(0, 0), (0, w32 ((w32 (3 * v2)) + 2)), (2, (d_up M s0 s1 s2) v0 10)], (K, d_up M s0 s1 s2))) rfl).trans ?_
    refine (v_ast rfl).trans ?_
    refine g_congr (fun _ => ?_)
    exact vr_steps 2 rfl
  · refine (vr_steps 1 (x' := (144, [(2, v0), (0, v1), (0, v2), (0, v3), (0, v4)], [(2, v0), (0, w32 ((w32 (3 * v2)) + 2)), (2, (d_up M s0 s1 s2) v0 10)], (K, d_up M s0 s1 s2))) rfl).trans ?_
    refine (v_getf (a := 7) (b := 10) (t := 2) rfl rfl).trans ?_
    refine g_congr (fun _ => ?_)
    refine (vr_steps 5 (x' := (152, [(2, v0), (0, v1), (0, v2), (0, v3), (0, v4)], [(0, w32 ((w32 (3 * v2)) + 2)), (2, (d_up M s0 s1 s2) v0 10), (0, w32 ((w32 (3 * v2)) + 2)), (2, (d_up M s0 s1 s2) v0 10)], (K, d_up M s0 s1 s2))) rfl).trans ?_
    refine (v_ald (a := 8) rfl (by decide)).trans ?_
    refine g_congr (fun _ => ?_)
    refine (vr_steps 1 (x' := (157, [(2, v0), (0, v1), (0, v2), (0, v3), (0, v4)], [(0, (d_up M s0 s1 s2) ((d_up M s0 s1 s2) v0 10) (w32 ((w32 (3 * v2)) + 2))), (0, w32 ((w32 (3 * v2)) + 2)), (2, (d_up M s0 s1 s2) v0 10)], (K, d_up M s0 s1 s2))) rfl).trans ?_
    refine (v_ast rfl).trans ?_
    refine g_congr (fun _ => ?_)
    exact vr_steps 2 rfl

noncomputable def c_X7_evening : Nat → Option dI := d_mcode m_X7_evening
set_option maxRecDepth 100000 in
theorem e_X7_evening_0 {sc : dS} {d : Nat} {K : List (Nat × Nat)} {M : dM} {v0 : Int} : vr sc d c_X7_evening (0, [(2, v0)], [], (K, M)) = (if og K 7 v0 7 = true then (if ¬ (M v0 7) = 999 then (if rg K 7 v0 = true then (vc sc d 170 [(2, v0)] (K, M)).bind (fun r => vr sc d c_X7_evening (19, [(2, v0)], r.1 ++ [], r.2)) else none) else vr sc d c_X7_evening (19, [(2, v0)], [(0, (-3))], (K, M))) else none) := by
  refine (vr_steps 1 (x' := (1, [(2, v0)], [(2, v0)], (K, M))) rfl).trans ?_
  refine (v_getf (a := 7) (b := 7) (t := 0) rfl rfl).trans ?_
  refine g_congr (fun _ => ?_)
  refine (vr_steps 1 (x' := (7, [(2, v0)], [(0, 999), (0, M v0 7)], (K, M))) rfl).trans ?_
  refine (v_icmp (k := 1) (b := 15) (c := ¬ (M v0 7) = 999) rfl rfl).trans ?_
  refine c_congr (fun _ => ?_) (fun _ => ?_)
  · refine (vr_steps 1 (x' := (16, [(2, v0)], [(2, v0)], (K, M))) rfl).trans ?_
    exact (v_virt (k := 170) (n := 1) (tag := 7) (r := v0) (av := []) (code := c_X7_evening) (pc := 16) (len := 3) (L := [(2, v0)]) (st := [(2, v0)]) rfl (Nat.le_of_ble_eq_true rfl) (Nat.le_of_ble_eq_true rfl) rfl).trans rfl
  · exact vr_steps 2 rfl
set_option maxRecDepth 100000 in
theorem e_X7_evening_19 {sc : dS} {d : Nat} {K : List (Nat × Nat)} {M : dM} {v0 s0 : Int} : vr sc d c_X7_evening (19, [(2, v0)], [(0, s0)], (K, M)) = (some ([(0, s0)], (K, M))) := by
  exact vr_ret (ai := (35, 1, 1, 0, [])) rfl rfl

noncomputable def c_X7_laysAside : Nat → Option dI := d_mcode m_X7_laysAside
set_option maxRecDepth 100000 in
theorem e_X7_laysAside_0 {sc : dS} {d : Nat} {K : List (Nat × Nat)} {M : dM} {v0 : Int} {q1 : dV} : vr sc d c_X7_laysAside (0, [(2, v0), q1], [], (K, M)) = (vr sc d c_X7_laysAside (2, [(2, v0), (0, 0)], [], (K, M))) := by
  exact vr_steps 2 rfl
set_option maxRecDepth 100000 in
theorem e_X7_laysAside_2 {sc : dS} {d : Nat} {K : List (Nat × Nat)} {M : dM} {v0 v1 : Int} : vr sc d c_X7_laysAside (2, [(2, v0), (0, v1)], [], (K, M)) = (if 15 ≤ v1 then vr sc d c_X7_laysAside (28, [(2, v0), (0, 0)], [], (K, M)) else (if og K 7 v0 31 = true then (if og K 7 v0 9 = true then (if ag K 8 (M v0 9) v1 = true then (if ag K 8 (M v0 31) v1 = true then vr sc d c_X7_laysAside (2, [(2, v0), (0, w32 (v1 + 1))], [], (K, d_up M (M v0 31) v1 (M (M v0 9) v1))) else none) else none) else none) else none)) := by
  refine (vr_steps 2 (x' := (5, [(2, v0), (0, v1)], [(0, 15), (0, v1)], (K, M))) rfl).trans ?_
  refine (v_icmp (k := 3) (b := 26) (c := 15 ≤ v1) rfl rfl).trans ?_
  refine c_congr (fun _ => ?_) (fun _ => ?_)
  · exact vr_steps 2 rfl
  · refine (vr_steps 1 (x' := (9, [(2, v0), (0, v1)], [(2, v0)], (K, M))) rfl).trans ?_
    refine (v_getf (a := 7) (b := 31) (t := 2) rfl rfl).trans ?_
    refine g_congr (fun _ => ?_)
    refine (vr_steps 2 (x' := (14, [(2, v0), (0, v1)], [(2, v0), (0, v1), (2, M v0 31)], (K, M))) rfl).trans ?_
    refine (v_getf (a := 7) (b := 9) (t := 2) rfl rfl).trans ?_
    refine g_congr (fun _ => ?_)
    refine (vr_steps 1 (x' := (18, [(2, v0), (0, v1)], [(0, v1), (2, M v0 9), (0, v1), (2, M v0 31)], (K, M))) rfl).trans ?_
    refine (v_ald (a := 8) rfl (by decide)).trans ?_
    refine g_congr (fun _ => ?_)
    refine (v_ast rfl).trans ?_
    refine g_congr (fun _ => ?_)
    exact vr_steps 2 rfl
set_option maxRecDepth 100000 in
theorem e_X7_laysAside_28 {sc : dS} {d : Nat} {K : List (Nat × Nat)} {M : dM} {v0 v1 : Int} : vr sc d c_X7_laysAside (28, [(2, v0), (0, v1)], [], (K, M)) = (if 18 ≤ v1 then (if og K 7 v0 31 = true then (if og K 7 v0 7 = true then (if ag K 8 (M v0 31) 33 = true then some ([], (K, d_up M (M v0 31) 33 (M v0 7))) else none) else none) else none) else (if og K 7 v0 31 = true then (if og K 7 v0 10 = true then (if ag K 8 (M v0 10) v1 = true then (if ag K 8 (M v0 31) (w32 (15 + v1)) = true then vr sc d c_X7_laysAside (28, [(2, v0), (0, w32 (v1 + 1))], [], (K, d_up M (M v0 31) (w32 (15 + v1)) (M (M v0 10) v1))) else none) else none) else none) else none)) := by
  refine (vr_steps 2 (x' := (31, [(2, v0), (0, v1)], [(0, 18), (0, v1)], (K, M))) rfl).trans ?_
  refine (v_icmp (k := 3) (b := 55) (c := 18 ≤ v1) rfl rfl).trans ?_
  refine c_congr (fun _ => ?_) (fun _ => ?_)
  · refine (vr_steps 1 (x' := (56, [(2, v0), (0, v1)], [(2, v0)], (K, M))) rfl).trans ?_
    refine (v_getf (a := 7) (b := 31) (t := 2) rfl rfl).trans ?_
    refine g_congr (fun _ => ?_)
    refine (vr_steps 2 (x' := (62, [(2, v0), (0, v1)], [(2, v0), (0, 33), (2, M v0 31)], (K, M))) rfl).trans ?_
    refine (v_getf (a := 7) (b := 7) (t := 0) rfl rfl).trans ?_
    refine g_congr (fun _ => ?_)
    refine (v_ast rfl).trans ?_
    refine g_congr (fun _ => ?_)
    exact vr_ret (ai := (35, 1, 0, 0, [])) rfl rfl
  · refine (vr_steps 1 (x' := (35, [(2, v0), (0, v1)], [(2, v0)], (K, M))) rfl).trans ?_
    refine (v_getf (a := 7) (b := 31) (t := 2) rfl rfl).trans ?_
    refine g_congr (fun _ => ?_)
    refine (vr_steps 4 (x' := (43, [(2, v0), (0, v1)], [(2, v0), (0, w32 (15 + v1)), (2, M v0 31)], (K, M))) rfl).trans ?_
    refine (v_getf (a := 7) (b := 10) (t := 2) rfl rfl).trans ?_
    refine g_congr (fun _ => ?_)
    refine (vr_steps 1 (x' := (47, [(2, v0), (0, v1)], [(0, v1), (2, M v0 10), (0, w32 (15 + v1)), (2, M v0 31)], (K, M))) rfl).trans ?_
    refine (v_ald (a := 8) rfl (by decide)).trans ?_
    refine g_congr (fun _ => ?_)
    refine (v_ast rfl).trans ?_
    refine g_congr (fun _ => ?_)
    exact vr_steps 2 rfl

noncomputable def c_X7_laysBack : Nat → Option dI := d_mcode m_X7_laysBack
set_option maxRecDepth 100000 in
theorem e_X7_laysBack_0 {sc : dS} {d : Nat} {K : List (Nat × Nat)} {M : dM} {v0 : Int} {q1 : dV} : vr sc d c_X7_laysBack (0, [(2, v0), q1], [], (K, M)) = (vr sc d c_X7_laysBack (2, [(2, v0), (0, 0)], [], (K, M))) := by
  exact vr_steps 2 rfl
set_option maxRecDepth 100000 in
theorem e_X7_laysBack_2 {sc : dS} {d : Nat} {K : List (Nat × Nat)} {M : dM} {v0 v1 : Int} : vr sc d c_X7_laysBack (2, [(2, v0), (0, v1)], [], (K, M)) = (if 15 ≤ v1 then vr sc d c_X7_laysBack (28, [(2, v0), (0, 0)], [], (K, M)) else (if og K 7 v0 9 = true then (if og K 7 v0 31 = true then (if ag K 8 (M v0 31) v1 = true then (if ag K 8 (M v0 9) v1 = true then vr sc d c_X7_laysBack (2, [(2, v0), (0, w32 (v1 + 1))], [], (K, d_up M (M v0 9) v1 (M (M v0 31) v1))) else none) else none) else none) else none)) := by
  refine (vr_steps 2 (x' := (5, [(2, v0), (0, v1)], [(0, 15), (0, v1)], (K, M))) rfl).trans ?_
  refine (v_icmp (k := 3) (b := 26) (c := 15 ≤ v1) rfl rfl).trans ?_
  refine c_congr (fun _ => ?_) (fun _ => ?_)
  · exact vr_steps 2 rfl
  · refine (vr_steps 1 (x' := (9, [(2, v0), (0, v1)], [(2, v0)], (K, M))) rfl).trans ?_
    refine (v_getf (a := 7) (b := 9) (t := 2) rfl rfl).trans ?_
    refine g_congr (fun _ => ?_)
    refine (vr_steps 2 (x' := (14, [(2, v0), (0, v1)], [(2, v0), (0, v1), (2, M v0 9)], (K, M))) rfl).trans ?_
    refine (v_getf (a := 7) (b := 31) (t := 2) rfl rfl).trans ?_
    refine g_congr (fun _ => ?_)
    refine (vr_steps 1 (x' := (18, [(2, v0), (0, v1)], [(0, v1), (2, M v0 31), (0, v1), (2, M v0 9)], (K, M))) rfl).trans ?_
    refine (v_ald (a := 8) rfl (by decide)).trans ?_
    refine g_congr (fun _ => ?_)
    refine (v_ast rfl).trans ?_
    refine g_congr (fun _ => ?_)
    exact vr_steps 2 rfl
set_option maxRecDepth 100000 in
theorem e_X7_laysBack_28 {sc : dS} {d : Nat} {K : List (Nat × Nat)} {M : dM} {v0 v1 : Int} : vr sc d c_X7_laysBack (28, [(2, v0), (0, v1)], [], (K, M)) = (if 18 ≤ v1 then (if og K 7 v0 31 = true then (if ag K 8 (M v0 31) 33 = true then (if og K 7 v0 7 = true then (if -2147483648 ≤ (M (M v0 31) 33) ∧ (M (M v0 31) 33) < 2147483648 then some ([], (K, d_up M v0 7 (M (M v0 31) 33))) else none) else none) else none) else none) else (if og K 7 v0 10 = true then (if og K 7 v0 31 = true then (if ag K 8 (M v0 31) (w32 (15 + v1)) = true then (if ag K 8 (M v0 10) v1 = true then vr sc d c_X7_laysBack (28, [(2, v0), (0, w32 (v1 + 1))], [], (K, d_up M (M v0 10) v1 (M (M v0 31) (w32 (15 + v1))))) else none) else none) else none) else none)) := by
  refine (vr_steps 2 (x' := (31, [(2, v0), (0, v1)], [(0, 18), (0, v1)], (K, M))) rfl).trans ?_
  refine (v_icmp (k := 3) (b := 55) (c := 18 ≤ v1) rfl rfl).trans ?_
  refine c_congr (fun _ => ?_) (fun _ => ?_)
  · refine (vr_steps 2 (x' := (57, [(2, v0), (0, v1)], [(2, v0), (2, v0)], (K, M))) rfl).trans ?_
    refine (v_getf (a := 7) (b := 31) (t := 2) rfl rfl).trans ?_
    refine g_congr (fun _ => ?_)
    refine (vr_steps 1 (x' := (62, [(2, v0), (0, v1)], [(0, 33), (2, M v0 31), (2, v0)], (K, M))) rfl).trans ?_
    refine (v_ald (a := 8) rfl (by decide)).trans ?_
    refine g_congr (fun _ => ?_)
    refine (v_putf (a := 7) (b := 7) (t := 0) rfl rfl (by intro q; cases q)).trans ?_
    refine g_congr (fun _ => ?_)
    refine p_congr (fun _ => ?_)
    exact vr_ret (ai := (35, 1, 0, 0, [])) rfl rfl
  · refine (vr_steps 1 (x' := (35, [(2, v0), (0, v1)], [(2, v0)], (K, M))) rfl).trans ?_
    refine (v_getf (a := 7) (b := 10) (t := 2) rfl rfl).trans ?_
    refine g_congr (fun _ => ?_)
    refine (vr_steps 2 (x' := (40, [(2, v0), (0, v1)], [(2, v0), (0, v1), (2, M v0 10)], (K, M))) rfl).trans ?_
    refine (v_getf (a := 7) (b := 31) (t := 2) rfl rfl).trans ?_
    refine g_congr (fun _ => ?_)
    refine (vr_steps 3 (x' := (47, [(2, v0), (0, v1)], [(0, w32 (15 + v1)), (2, M v0 31), (0, v1), (2, M v0 10)], (K, M))) rfl).trans ?_
    refine (v_ald (a := 8) rfl (by decide)).trans ?_
    refine g_congr (fun _ => ?_)
    refine (v_ast rfl).trans ?_
    refine g_congr (fun _ => ?_)
    exact vr_steps 2 rfl

noncomputable def c_X7_tiedSet : Nat → Option dI := d_mcode m_X7_tiedSet
set_option maxRecDepth 100000 in
theorem e_X7_tiedSet_0 {sc : dS} {d : Nat} {K : List (Nat × Nat)} {M : dM} {v0 : Int} {q1 q2 : dV} : vr sc d c_X7_tiedSet (0, [(2, v0), q1, q2], [], (K, M)) = (vr sc d c_X7_tiedSet (4, [(2, v0), (0, 0), (0, 0)], [], (K, M))) := by
  exact vr_steps 4 rfl
set_option maxRecDepth 100000 in
theorem e_X7_tiedSet_4 {sc : dS} {d : Nat} {K : List (Nat × Nat)} {M : dM} {v0 v1 v2 : Int} : vr sc d c_X7_tiedSet (4, [(2, v0), (0, v1), (0, v2)], [], (K, M)) = (if 6 ≤ v2 then some ([(0, v1)], (K, M)) else (if og K 7 v0 10 = true then (if ag K 8 (M v0 10) (w32 ((w32 (3 * v2)) + 1)) = true then (if ¬ (M (M v0 10) (w32 ((w32 (3 * v2)) + 1))) = (-1) then vr sc d c_X7_tiedSet (4, [(2, v0), (0, i_or v1 (i_shl 1 v2)), (0, w32 (v2 + 1))], [], (K, M)) else vr sc d c_X7_tiedSet (4, [(2, v0), (0, i_or v1 (i_shl 0 v2)), (0, w32 (v2 + 1))], [], (K, M))) else none) else none)) := by
  refine (vr_steps 2 (x' := (7, [(2, v0), (0, v1), (0, v2)], [(0, 6), (0, v2)], (K, M))) rfl).trans ?_
  refine (v_icmp (k := 3) (b := 40) (c := 6 ≤ v2) rfl rfl).trans ?_
  refine c_congr (fun _ => ?_) (fun _ => ?_)
  · refine (vr_steps 1 (x' := (41, [(2, v0), (0, v1), (0, v2)], [(0, v1)], (K, M))) rfl).trans ?_
    exact vr_ret (ai := (35, 1, 1, 0, [])) rfl rfl
  · refine (vr_steps 2 (x' := (12, [(2, v0), (0, v1), (0, v2)], [(2, v0), (0, v1)], (K, M))) rfl).trans ?_
    refine (v_getf (a := 7) (b := 10) (t := 2) rfl rfl).trans ?_
    refine g_congr (fun _ => ?_)
    refine (vr_steps 5 (x' := (20, [(2, v0), (0, v1), (0, v2)], [(0, w32 ((w32 (3 * v2)) + 1)), (2, M v0 10), (0, v1)], (K, M))) rfl).trans ?_
    refine (v_ald (a := 8) rfl (by decide)).trans ?_
    refine g_congr (fun _ => ?_)
    refine (vr_steps 1 (x' := (22, [(2, v0), (0, v1), (0, v2)], [(0, (-1)), (0, M (M v0 10) (w32 ((w32 (3 * v2)) + 1))), (0, v1)], (K, M))) rfl).trans ?_
    refine (v_icmp (k := 1) (b := 29) (c := ¬ (M (M v0 10) (w32 ((w32 (3 * v2)) + 1))) = (-1)) rfl rfl).trans ?_
    refine c_congr (fun _ => ?_) (fun _ => ?_)
    · exact vr_steps 7 rfl
    · exact vr_steps 8 rfl

noncomputable def c_X7_bitsOf : Nat → Option dI := d_mcode m_X7_bitsOf
set_option maxRecDepth 100000 in
theorem e_X7_bitsOf_0 {sc : dS} {d : Nat} {K : List (Nat × Nat)} {M : dM} {v0 : Int} {q1 q2 : dV} : vr sc d c_X7_bitsOf (0, [(0, v0), q1, q2], [], (K, M)) = (vr sc d c_X7_bitsOf (4, [(0, v0), (0, 0), (0, v0)], [], (K, M))) := by
  exact vr_steps 4 rfl
set_option maxRecDepth 100000 in
theorem e_X7_bitsOf_4 {sc : dS} {d : Nat} {K : List (Nat × Nat)} {M : dM} {v0 v1 v2 : Int} : vr sc d c_X7_bitsOf (4, [(0, v0), (0, v1), (0, v2)], [], (K, M)) = (if v2 = 0 then some ([(0, v1)], (K, M)) else vr sc d c_X7_bitsOf (4, [(0, v0), (0, w32 (v1 + 1)), (0, i_and v2 (w32 (v2 - 1)))], [], (K, M))) := by
  refine (vr_steps 1 (x' := (5, [(0, v0), (0, v1), (0, v2)], [(0, v2)], (K, M))) rfl).trans ?_
  refine (v_if (k := 0) (b := 20) (c := v2 = 0) rfl rfl).trans ?_
  refine c_congr (fun _ => ?_) (fun _ => ?_)
  · refine (vr_steps 1 (x' := (21, [(0, v0), (0, v1), (0, v2)], [(0, v1)], (K, M))) rfl).trans ?_
    exact vr_ret (ai := (35, 1, 1, 0, [])) rfl rfl
  · exact vr_steps 8 rfl

noncomputable def c_X7_run : Nat → Option dI := d_mcode m_X7_run
set_option maxRecDepth 100000 in
theorem e_X7_run_0 {sc : dS} {d : Nat} {K : List (Nat × Nat)} {M : dM} {v0 v1 v2 v3 : Int} {q4 q5 : dV} : vr sc d c_X7_run (0, [(2, v0), (0, v1), (0, v2), (0, v3), q4, q5], [], (K, M)) = (if rg K 7 v0 = true then (vc sc d 118 [(2, v0), (0, v1)] (K, M)).bind (fun r => vr sc d c_X7_run (5, [(2, v0), (0, v1), (0, v2), (0, v3), q4, q5], r.1 ++ [], r.2)) else none) := by
  refine (vr_steps 2 (x' := (2, [(2, v0), (0, v1), (0, v2), (0, v3), q4, q5], [(0, v1), (2, v0)], (K, M))) rfl).trans ?_
  exact (v_virt (k := 118) (n := 2) (tag := 7) (r := v0) (av := [(0, v1)]) (code := c_X7_run) (pc := 2) (len := 3) (L := [(2, v0), (0, v1), (0, v2), (0, v3), q4, q5]) (st := [(0, v1), (2, v0)]) rfl (Nat.le_of_ble_eq_true rfl) (Nat.le_of_ble_eq_true rfl) rfl).trans rfl
set_option maxRecDepth 100000 in
theorem e_X7_run_5 {sc : dS} {d : Nat} {K : List (Nat × Nat)} {M : dM} {v0 v1 v2 v3 s0 : Int} {q4 q5 : dV} : vr sc d c_X7_run (5, [(2, v0), (0, v1), (0, v2), (0, v3), q4, q5], [(0, s0)], (K, M)) = (if s0 = 0 then some ([(0, (-1000))], (K, M)) else (vc sc d 114 [(1, v2), (1, 0), (1, 20)] (K, M)).bind (fun r => vr sc d c_X7_run (17, [(2, v0), (0, v1), (0, v2), (0, v3), q4, q5], r.1 ++ [], r.2))) := by
  refine (v_if (k := 0) (b := 32) (c := s0 = 0) rfl rfl).trans ?_
  refine c_congr (fun _ => ?_) (fun _ => ?_)
  · refine (vr_steps 1 (x' := (35, [(2, v0), (0, v1), (0, v2), (0, v3), q4, q5], [(0, (-1000))], (K, M))) rfl).trans ?_
    exact vr_ret (ai := (35, 1, 1, 0, [])) rfl rfl
  · refine (vr_steps 4 (x' := (14, [(2, v0), (0, v1), (0, v2), (0, v3), q4, q5], [(1, 20), (1, 0), (1, v2)], (K, M))) rfl).trans ?_
    exact (v_stat (k := 114) (n := 3) (code := c_X7_run) (pc := 14) (len := 3) (L := [(2, v0), (0, v1), (0, v2), (0, v3), q4, q5]) (st := [(1, 20), (1, 0), (1, v2)]) rfl (Nat.le_of_ble_eq_true rfl) (Nat.le_of_ble_eq_true rfl)).trans rfl
set_option maxRecDepth 100000 in
theorem e_X7_run_17 {sc : dS} {d : Nat} {K : List (Nat × Nat)} {M : dM} {v0 v1 v2 v3 s0 : Int} {q4 q5 : dV} : vr sc d c_X7_run (17, [(2, v0), (0, v1), (0, v2), (0, v3), q4, q5], [(0, s0)], (K, M)) = (if s0 = 0 then some ([(0, (-1000))], (K, M)) else (vc sc d 114 [(1, v3), (1, 0), (1, 2)] (K, M)).bind (fun r => vr sc d c_X7_run (29, [(2, v0), (0, v1), (0, v2), (0, v3), q4, q5], r.1 ++ [], r.2))) := by
  refine (v_if (k := 0) (b := 32) (c := s0 = 0) rfl rfl).trans ?_
  refine c_congr (fun _ => ?_) (fun _ => ?_)
  · refine (vr_steps 1 (x' := (35, [(2, v0), (0, v1), (0, v2), (0, v3), q4, q5], [(0, (-1000))], (K, M))) rfl).trans ?_
    exact vr_ret (ai := (35, 1, 1, 0, [])) rfl rfl
  · refine (vr_steps 4 (x' := (26, [(2, v0), (0, v1), (0, v2), (0, v3), q4, q5], [(1, 2), (1, 0), (1, v3)], (K, M))) rfl).trans ?_
    exact (v_stat (k := 114) (n := 3) (code := c_X7_run) (pc := 26) (len := 3) (L := [(2, v0), (0, v1), (0, v2), (0, v3), q4, q5]) (st := [(1, 2), (1, 0), (1, v3)]) rfl (Nat.le_of_ble_eq_true rfl) (Nat.le_of_ble_eq_true rfl)).trans rfl
set_option maxRecDepth 100000 in
theorem e_X7_run_29 {sc : dS} {d : Nat} {K : List (Nat × Nat)} {M : dM} {v0 v1 v2 v3 s0 : Int} {q4 q5 : dV} : vr sc d c_X7_run (29, [(2, v0), (0, v1), (0, v2), (0, v3), q4, q5], [(0, s0)], (K, M)) = (if ¬ s0 = 0 then (if rg K 7 v0 = true then (vc sc d 172 [(2, v0)] (K, M)).bind (fun r => vr sc d c_X7_run (40, [(2, v0), (0, v1), (0, v2), (0, v3), q4, q5], r.1 ++ [], r.2)) else none) else some ([(0, (-1000))], (K, M))) := by
  refine (v_if (k := 1) (b := 36) (c := ¬ s0 = 0) rfl rfl).trans ?_
  refine c_congr (fun _ => ?_) (fun _ => ?_)
  · refine (vr_steps 1 (x' := (37, [(2, v0), (0, v1), (0, v2), (0, v3), q4, q5], [(2, v0)], (K, M))) rfl).trans ?_
    exact (v_virt (k := 172) (n := 1) (tag := 7) (r := v0) (av := []) (code := c_X7_run) (pc := 37) (len := 3) (L := [(2, v0), (0, v1), (0, v2), (0, v3), q4, q5]) (st := [(2, v0)]) rfl (Nat.le_of_ble_eq_true rfl) (Nat.le_of_ble_eq_true rfl) rfl).trans rfl
  · refine (vr_steps 1 (x' := (35, [(2, v0), (0, v1), (0, v2), (0, v3), q4, q5], [(0, (-1000))], (K, M))) rfl).trans ?_
    exact vr_ret (ai := (35, 1, 1, 0, [])) rfl rfl
set_option maxRecDepth 100000 in
theorem e_X7_run_40 {sc : dS} {d : Nat} {K : List (Nat × Nat)} {M : dM} {v0 v1 v2 v3 : Int} {q4 q5 : dV} : vr sc d c_X7_run (40, [(2, v0), (0, v1), (0, v2), (0, v3), q4, q5], [], (K, M)) = (vr sc d c_X7_run (46, [(2, v0), (0, v1), (0, v2), (0, v3), (0, 0), (0, 0)], [], (K, M))) := by
  exact vr_steps 4 rfl
set_option maxRecDepth 100000 in
theorem e_X7_run_46 {sc : dS} {d : Nat} {K : List (Nat × Nat)} {M : dM} {v0 v1 v2 v3 v4 v5 : Int} : vr sc d c_X7_run (46, [(2, v0), (0, v1), (0, v2), (0, v3), (0, v4), (0, v5)], [], (K, M)) = (if v2 ≤ v5 then (if ¬ v3 = 0 then (if ¬ v3 = 1 then (if rg K 7 v0 = true then (vc sc d 173 [(2, v0)] (K, M)).bind (fun r => vr sc d c_X7_run (107, [(2, v0), (0, v1), (0, v2), (0, v3), (0, v4), (0, v4)], r.1 ++ [], r.2)) else none) else (if rg K 7 v0 = true then (vc sc d 174 [(2, v0)] (K, M)).bind (fun r => vr sc d c_X7_run (96, [(2, v0), (0, v1), (0, v2), (0, v3), (0, v4), (0, v5)], r.1 ++ [], r.2)) else none)) else (if og K 7 v0 9 = true then (if ag K 8 (M v0 9) (w32 ((w32 (3 * v1)) + 1)) = true then (if rg K 7 v0 = true then (vc sc d 173 [(2, v0)] (K, M)).bind (fun r => vr sc d c_X7_run (107, [(2, v0), (0, v1), (0, v2), (0, v3), (0, v4), (0, M (M v0 9) (w32 ((w32 (3 * v1)) + 1)))], r.1 ++ [], r.2)) else none) else none) else none)) else (if rg K 7 v0 = true then (vc sc d 170 [(2, v0)] (K, M)).bind (fun r => vr sc d c_X7_run (58, [(2, v0), (0, v1), (0, v2), (0, v3), (0, v4), (0, v5)], r.1 ++ [(0, v4)], r.2)) else none)) := by
  refine (vr_steps 2 (x' := (49, [(2, v0), (0, v1), (0, v2), (0, v3), (0, v4), (0, v5)], [(0, v2), (0, v5)], (K, M))) rfl).trans ?_
  refine (v_icmp (k := 3) (b := 70) (c := v2 ≤ v5) rfl rfl).trans ?_
  refine c_congr (fun _ => ?_) (fun _ => ?_)
  · refine (vr_steps 1 (x' := (71, [(2, v0), (0, v1), (0, v2), (0, v3), (0, v4), (0, v5)], [(0, v3)], (K, M))) rfl).trans ?_
    refine (v_if (k := 1) (b := 87) (c := ¬ v3 = 0) rfl rfl).trans ?_
    refine c_congr (fun _ => ?_) (fun _ => ?_)
    · refine (vr_steps 2 (x' := (89, [(2, v0), (0, v1), (0, v2), (0, v3), (0, v4), (0, v5)], [(0, 1), (0, v3)], (K, M))) rfl).trans ?_
      refine (v_icmp (k := 1) (b := 99) (c := ¬ v3 = 1) rfl rfl).trans ?_
      refine c_congr (fun _ => ?_) (fun _ => ?_)
      · refine (vr_steps 3 (x' := (104, [(2, v0), (0, v1), (0, v2), (0, v3), (0, v4), (0, v4)], [(2, v0)], (K, M))) rfl).trans ?_
        exact (v_virt (k := 173) (n := 1) (tag := 7) (r := v0) (av := []) (code := c_X7_run) (pc := 104) (len := 3) (L := [(2, v0), (0, v1), (0, v2), (0, v3), (0, v4), (0, v4)]) (st := [(2, v0)]) rfl (Nat.le_of_ble_eq_true rfl) (Nat.le_of_ble_eq_true rfl) rfl).trans rfl
      · refine (vr_steps 1 (x' := (93, [(2, v0), (0, v1), (0, v2), (0, v3), (0, v4), (0, v5)], [(2, v0)], (K, M))) rfl).trans ?_
        exact (v_virt (k := 174) (n := 1) (tag := 7) (r := v0) (av := []) (code := c_X7_run) (pc := 93) (len := 3) (L := [(2, v0), (0, v1), (0, v2), (0, v3), (0, v4), (0, v5)]) (st := [(2, v0)]) rfl (Nat.le_of_ble_eq_true rfl) (Nat.le_of_ble_eq_true rfl) rfl).trans rfl
    · refine (vr_steps 1 (x' := (75, [(2, v0), (0, v1), (0, v2), (0, v3), (0, v4), (0, v5)], [(2, v0)], (K, M))) rfl).trans ?_
      refine (v_getf (a := 7) (b := 9) (t := 2) rfl rfl).trans ?_
      refine g_congr (fun _ => ?_)
      refine (vr_steps 5 (x' := (83, [(2, v0), (0, v1), (0, v2), (0, v3), (0, v4), (0, v5)], [(0, w32 ((w32 (3 * v1)) + 1)), (2, M v0 9)], (K, M))) rfl).trans ?_
      refine (v_ald (a := 8) rfl (by decide)).trans ?_
      refine g_congr (fun _ => ?_)
      refine (vr_steps 3 (x' := (104, [(2, v0), (0, v1), (0, v2), (0, v3), (0, v4), (0, M (M v0 9) (w32 ((w32 (3 * v1)) + 1)))], [(2, v0)], (K, M))) rfl).trans ?_
      exact (v_virt (k := 173) (n := 1) (tag := 7) (r := v0) (av := []) (code := c_X7_run) (pc := 104) (len := 3) (L := [(2, v0), (0, v1), (0, v2), (0, v3), (0, v4), (0, M (M v0 9) (w32 ((w32 (3 * v1)) + 1)))]) (st := [(2, v0)]) rfl (Nat.le_of_ble_eq_true rfl) (Nat.le_of_ble_eq_true rfl) rfl).trans rfl
  · refine (vr_steps 2 (x' := (55, [(2, v0), (0, v1), (0, v2), (0, v3), (0, v4), (0, v5)], [(2, v0), (0, v4)], (K, M))) rfl).trans ?_
    exact (v_virt (k := 170) (n := 1) (tag := 7) (r := v0) (av := []) (code := c_X7_run) (pc := 55) (len := 3) (L := [(2, v0), (0, v1), (0, v2), (0, v3), (0, v4), (0, v5)]) (st := [(2, v0), (0, v4)]) rfl (Nat.le_of_ble_eq_true rfl) (Nat.le_of_ble_eq_true rfl) rfl).trans rfl
set_option maxRecDepth 100000 in
theorem e_X7_run_58 {sc : dS} {d : Nat} {K : List (Nat × Nat)} {M : dM} {v0 v1 v2 v3 v4 v5 s0 s1 : Int} : vr sc d c_X7_run (58, [(2, v0), (0, v1), (0, v2), (0, v3), (0, v4), (0, v5)], [(0, s1), (0, s0)], (K, M)) = ((vc sc d 175 [(0, s1)] (K, M)).bind (fun r => vr sc d c_X7_run (61, [(2, v0), (0, v1), (0, v2), (0, v3), (0, v4), (0, v5)], r.1 ++ [(0, s0)], r.2))) := by
  exact (v_stat (k := 175) (n := 1) (code := c_X7_run) (pc := 58) (len := 3) (L := [(2, v0), (0, v1), (0, v2), (0, v3), (0, v4), (0, v5)]) (st := [(0, s1), (0, s0)]) rfl (Nat.le_of_ble_eq_true rfl) (Nat.le_of_ble_eq_true rfl)).trans rfl
set_option maxRecDepth 100000 in
theorem e_X7_run_61 {sc : dS} {d : Nat} {K : List (Nat × Nat)} {M : dM} {v0 v1 v2 v3 v4 v5 s0 s1 : Int} : vr sc d c_X7_run (61, [(2, v0), (0, v1), (0, v2), (0, v3), (0, v4), (0, v5)], [(0, s1), (0, s0)], (K, M)) = (vr sc d c_X7_run (46, [(2, v0), (0, v1), (0, v2), (0, v3), (0, w32 (s0 + s1)), (0, w32 (v5 + 1))], [], (K, M))) := by
  exact vr_steps 4 rfl
set_option maxRecDepth 100000 in
theorem e_X7_run_96 {sc : dS} {d : Nat} {K : List (Nat × Nat)} {M : dM} {v0 v1 v2 v3 v4 v5 s0 : Int} : vr sc d c_X7_run (96, [(2, v0), (0, v1), (0, v2), (0, v3), (0, v4), (0, v5)], [(0, s0)], (K, M)) = (if rg K 7 v0 = true then (vc sc d 173 [(2, v0)] (K, M)).bind (fun r => vr sc d c_X7_run (107, [(2, v0), (0, v1), (0, v2), (0, v3), (0, v4), (0, s0)], r.1 ++ [], r.2)) else none) := by
  refine (vr_steps 3 (x' := (104, [(2, v0), (0, v1), (0, v2), (0, v3), (0, v4), (0, s0)], [(2, v0)], (K, M))) rfl).trans ?_
  exact (v_virt (k := 173) (n := 1) (tag := 7) (r := v0) (av := []) (code := c_X7_run) (pc := 104) (len := 3) (L := [(2, v0), (0, v1), (0, v2), (0, v3), (0, v4), (0, s0)]) (st := [(2, v0)]) rfl (Nat.le_of_ble_eq_true rfl) (Nat.le_of_ble_eq_true rfl) rfl).trans rfl
set_option maxRecDepth 100000 in
theorem e_X7_run_107 {sc : dS} {d : Nat} {K : List (Nat × Nat)} {M : dM} {v0 v1 v2 v3 v4 v5 : Int} : vr sc d c_X7_run (107, [(2, v0), (0, v1), (0, v2), (0, v3), (0, v4), (0, v5)], [], (K, M)) = (some ([(0, v5)], (K, M))) := by
  refine (vr_steps 1 (x' := (109, [(2, v0), (0, v1), (0, v2), (0, v3), (0, v4), (0, v5)], [(0, v5)], (K, M))) rfl).trans ?_
  exact vr_ret (ai := (35, 1, 1, 0, [])) rfl rfl

noncomputable def c_X7_lasts : Nat → Option dI := d_mcode m_X7_lasts
set_option maxRecDepth 100000 in
theorem e_X7_lasts_0 {sc : dS} {d : Nat} {K : List (Nat × Nat)} {M : dM} {v0 v1 : Int} {q2 : dV} : vr sc d c_X7_lasts (0, [(2, v0), (0, v1), q2], [], (K, M)) = ((vc sc d 119 [(0, v1)] (K, M)).bind (fun r => vr sc d c_X7_lasts (4, [(2, v0), (0, v1), q2], r.1 ++ [], r.2))) := by
  refine (vr_steps 1 (x' := (1, [(2, v0), (0, v1), q2], [(0, v1)], (K, M))) rfl).trans ?_
  exact (v_stat (k := 119) (n := 1) (code := c_X7_lasts) (pc := 1) (len := 3) (L := [(2, v0), (0, v1), q2]) (st := [(0, v1)]) rfl (Nat.le_of_ble_eq_true rfl) (Nat.le_of_ble_eq_true rfl)).trans rfl
set_option maxRecDepth 100000 in
theorem e_X7_lasts_4 {sc : dS} {d : Nat} {K : List (Nat × Nat)} {M : dM} {v0 v1 s0 : Int} {q2 : dV} : vr sc d c_X7_lasts (4, [(2, v0), (0, v1), q2], [(0, s0)], (K, M)) = (if ¬ s0 = 0 then (if og K 7 v0 10 = true then (if ag K 8 (M v0 10) (w32 ((w32 (3 * v1)) + 1)) = true then (if ¬ (M (M v0 10) (w32 ((w32 (3 * v1)) + 1))) = (-1) then (if rg K 7 v0 = true then (vc sc d 172 [(2, v0)] (K, M)).bind (fun r => vr sc d c_X7_lasts (31, [(2, v0), (0, v1), q2], r.1 ++ [], r.2)) else none) else some ([(0, (-3))], (K, M))) else none) else none) else some ([(0, (-2))], (K, M))) := by
  refine (v_if (k := 1) (b := 10) (c := ¬ s0 = 0) rfl rfl).trans ?_
  refine c_congr (fun _ => ?_) (fun _ => ?_)
  · refine (vr_steps 1 (x' := (11, [(2, v0), (0, v1), q2], [(2, v0)], (K, M))) rfl).trans ?_
    refine (v_getf (a := 7) (b := 10) (t := 2) rfl rfl).trans ?_
    refine g_congr (fun _ => ?_)
    refine (vr_steps 5 (x' := (19, [(2, v0), (0, v1), q2], [(0, w32 ((w32 (3 * v1)) + 1)), (2, M v0 10)], (K, M))) rfl).trans ?_
    refine (v_ald (a := 8) rfl (by decide)).trans ?_
    refine g_congr (fun _ => ?_)
    refine (vr_steps 1 (x' := (21, [(2, v0), (0, v1), q2], [(0, (-1)), (0, M (M v0 10) (w32 ((w32 (3 * v1)) + 1)))], (K, M))) rfl).trans ?_
    refine (v_icmp (k := 1) (b := 27) (c := ¬ (M (M v0 10) (w32 ((w32 (3 * v1)) + 1))) = (-1)) rfl rfl).trans ?_
    refine c_congr (fun _ => ?_) (fun _ => ?_)
    · refine (vr_steps 1 (x' := (28, [(2, v0), (0, v1), q2], [(2, v0)], (K, M))) rfl).trans ?_
      exact (v_virt (k := 172) (n := 1) (tag := 7) (r := v0) (av := []) (code := c_X7_lasts) (pc := 28) (len := 3) (L := [(2, v0), (0, v1), q2]) (st := [(2, v0)]) rfl (Nat.le_of_ble_eq_true rfl) (Nat.le_of_ble_eq_true rfl) rfl).trans rfl
    · refine (vr_steps 1 (x' := (26, [(2, v0), (0, v1), q2], [(0, (-3))], (K, M))) rfl).trans ?_
      exact vr_ret (ai := (35, 1, 1, 0, [])) rfl rfl
  · refine (vr_steps 1 (x' := (9, [(2, v0), (0, v1), q2], [(0, (-2))], (K, M))) rfl).trans ?_
    exact vr_ret (ai := (35, 1, 1, 0, [])) rfl rfl
set_option maxRecDepth 100000 in
theorem e_X7_lasts_31 {sc : dS} {d : Nat} {K : List (Nat × Nat)} {M : dM} {v0 v1 : Int} {q2 : dV} : vr sc d c_X7_lasts (31, [(2, v0), (0, v1), q2], [], (K, M)) = (vr sc d c_X7_lasts (33, [(2, v0), (0, v1), (0, 0)], [], (K, M))) := by
  exact vr_steps 2 rfl
set_option maxRecDepth 100000 in
theorem e_X7_lasts_33 {sc : dS} {d : Nat} {K : List (Nat × Nat)} {M : dM} {v0 v1 v2 : Int} : vr sc d c_X7_lasts (33, [(2, v0), (0, v1), (0, v2)], [], (K, M)) = (if 40 < v2 then (if rg K 7 v0 = true then (vc sc d 173 [(2, v0)] (K, M)).bind (fun r => vr sc d c_X7_lasts (68, [(2, v0), (0, v1), (0, v2)], r.1 ++ [], r.2)) else none) else (if og K 7 v0 10 = true then (if ag K 8 (M v0 10) (w32 ((w32 (3 * v1)) + 1)) = true then (if (M (M v0 10) (w32 ((w32 (3 * v1)) + 1))) = (-1) then (if rg K 7 v0 = true then (vc sc d 173 [(2, v0)] (K, M)).bind (fun r => vr sc d c_X7_lasts (68, [(2, v0), (0, v1), (0, v2)], r.1 ++ [], r.2)) else none) else (if rg K 7 v0 = true then (vc sc d 170 [(2, v0)] (K, M)).bind (fun r => vr sc d c_X7_lasts (57, [(2, v0), (0, v1), (0, v2)], r.1 ++ [], r.2)) else none)) else none) else none)) := by
  refine (vr_steps 2 (x' := (36, [(2, v0), (0, v1), (0, v2)], [(0, 40), (0, v2)], (K, M))) rfl).trans ?_
  refine (v_icmp (k := 4) (b := 64) (c := 40 < v2) rfl rfl).trans ?_
  refine c_congr (fun _ => ?_) (fun _ => ?_)
  · refine (vr_steps 1 (x' := (65, [(2, v0), (0, v1), (0, v2)], [(2, v0)], (K, M))) rfl).trans ?_
    exact (v_virt (k := 173) (n := 1) (tag := 7) (r := v0) (av := []) (code := c_X7_lasts) (pc := 65) (len := 3) (L := [(2, v0), (0, v1), (0, v2)]) (st := [(2, v0)]) rfl (Nat.le_of_ble_eq_true rfl) (Nat.le_of_ble_eq_true rfl) rfl).trans rfl
  · refine (vr_steps 1 (x' := (40, [(2, v0), (0, v1), (0, v2)], [(2, v0)], (K, M))) rfl).trans ?_
    refine (v_getf (a := 7) (b := 10) (t := 2) rfl rfl).trans ?_
    refine g_congr (fun _ => ?_)
    refine (vr_steps 5 (x' := (48, [(2, v0), (0, v1), (0, v2)], [(0, w32 ((w32 (3 * v1)) + 1)), (2, M v0 10)], (K, M))) rfl).trans ?_
    refine (v_ald (a := 8) rfl (by decide)).trans ?_
    refine g_congr (fun _ => ?_)
    refine (vr_steps 1 (x' := (50, [(2, v0), (0, v1), (0, v2)], [(0, (-1)), (0, M (M v0 10) (w32 ((w32 (3 * v1)) + 1)))], (K, M))) rfl).trans ?_
    refine (v_icmp (k := 0) (b := 64) (c := (M (M v0 10) (w32 ((w32 (3 * v1)) + 1))) = (-1)) rfl rfl).trans ?_
    refine c_congr (fun _ => ?_) (fun _ => ?_)
    · refine (vr_steps 1 (x' := (65, [(2, v0), (0, v1), (0, v2)], [(2, v0)], (K, M))) rfl).trans ?_
      exact (v_virt (k := 173) (n := 1) (tag := 7) (r := v0) (av := []) (code := c_X7_lasts) (pc := 65) (len := 3) (L := [(2, v0), (0, v1), (0, v2)]) (st := [(2, v0)]) rfl (Nat.le_of_ble_eq_true rfl) (Nat.le_of_ble_eq_true rfl) rfl).trans rfl
    · refine (vr_steps 1 (x' := (54, [(2, v0), (0, v1), (0, v2)], [(2, v0)], (K, M))) rfl).trans ?_
      exact (v_virt (k := 170) (n := 1) (tag := 7) (r := v0) (av := []) (code := c_X7_lasts) (pc := 54) (len := 3) (L := [(2, v0), (0, v1), (0, v2)]) (st := [(2, v0)]) rfl (Nat.le_of_ble_eq_true rfl) (Nat.le_of_ble_eq_true rfl) rfl).trans rfl
set_option maxRecDepth 100000 in
theorem e_X7_lasts_57 {sc : dS} {d : Nat} {K : List (Nat × Nat)} {M : dM} {v0 v1 v2 s0 : Int} : vr sc d c_X7_lasts (57, [(2, v0), (0, v1), (0, v2)], [(0, s0)], (K, M)) = (vr sc d c_X7_lasts (33, [(2, v0), (0, v1), (0, w32 (v2 + 1))], [], (K, M))) := by
  exact vr_steps 3 rfl
set_option maxRecDepth 100000 in
theorem e_X7_lasts_68 {sc : dS} {d : Nat} {K : List (Nat × Nat)} {M : dM} {v0 v1 v2 : Int} : vr sc d c_X7_lasts (68, [(2, v0), (0, v1), (0, v2)], [], (K, M)) = (if v2 ≤ 40 then some ([(0, v2)], (K, M)) else some ([(0, (-1))], (K, M))) := by
  refine (vr_steps 2 (x' := (71, [(2, v0), (0, v1), (0, v2)], [(0, 40), (0, v2)], (K, M))) rfl).trans ?_
  refine (v_icmp (k := 5) (b := 78) (c := v2 ≤ 40) rfl rfl).trans ?_
  refine c_congr (fun _ => ?_) (fun _ => ?_)
  · refine (vr_steps 1 (x' := (79, [(2, v0), (0, v1), (0, v2)], [(0, v2)], (K, M))) rfl).trans ?_
    exact vr_ret (ai := (35, 1, 1, 0, [])) rfl rfl
  · refine (vr_steps 2 (x' := (79, [(2, v0), (0, v1), (0, v2)], [(0, (-1))], (K, M))) rfl).trans ?_
    exact vr_ret (ai := (35, 1, 1, 0, [])) rfl rfl

noncomputable def c_X7_tellsPass : Nat → Option dI := d_mcode m_X7_tellsPass
set_option maxRecDepth 100000 in
theorem e_X7_tellsPass_0 {sc : dS} {d : Nat} {K : List (Nat × Nat)} {M : dM} {v0 v1 : Int} {q2 q3 q4 : dV} : vr sc d c_X7_tellsPass (0, [(2, v0), (0, v1), q2, q3, q4], [], (K, M)) = (vr sc d c_X7_tellsPass (2, [(2, v0), (0, v1), (0, 0), q3, q4], [], (K, M))) := by
  exact vr_steps 2 rfl
set_option maxRecDepth 100000 in
theorem e_X7_tellsPass_2 {sc : dS} {d : Nat} {K : List (Nat × Nat)} {M : dM} {v0 v1 v2 : Int} {q3 q4 : dV} : vr sc d c_X7_tellsPass (2, [(2, v0), (0, v1), (0, v2), q3, q4], [], (K, M)) = (if og K 7 v0 12 = true then (if (M v0 12) ≤ v2 then some ([], (K, M)) else (if rg K 7 v0 = true then (vc sc d 148 [(2, v0), (0, v1)] (K, M)).bind (fun r => vr sc d c_X7_tellsPass (15, [(2, v0), (0, v1), (0, v2), q3, q4], r.1 ++ [], r.2)) else none)) else none) := by
  refine (vr_steps 2 (x' := (4, [(2, v0), (0, v1), (0, v2), q3, q4], [(2, v0), (0, v2)], (K, M))) rfl).trans ?_
  refine (v_getf (a := 7) (b := 12) (t := 0) rfl rfl).trans ?_
  refine g_congr (fun _ => ?_)
  refine (v_icmp (k := 3) (b := 84) (c := (M v0 12) ≤ v2) rfl rfl).trans ?_
  refine c_congr (fun _ => ?_) (fun _ => ?_)
  · exact vr_ret (ai := (35, 1, 0, 0, [])) rfl rfl
  · refine (vr_steps 2 (x' := (12, [(2, v0), (0, v1), (0, v2), q3, q4], [(0, v1), (2, v0)], (K, M))) rfl).trans ?_
    exact (v_virt (k := 148) (n := 2) (tag := 7) (r := v0) (av := [(0, v1)]) (code := c_X7_tellsPass) (pc := 12) (len := 3) (L := [(2, v0), (0, v1), (0, v2), q3, q4]) (st := [(0, v1), (2, v0)]) rfl (Nat.le_of_ble_eq_true rfl) (Nat.le_of_ble_eq_true rfl) rfl).trans rfl
set_option maxRecDepth 100000 in
theorem e_X7_tellsPass_15 {sc : dS} {d : Nat} {K : List (Nat × Nat)} {M : dM} {v0 v1 v2 : Int} {q3 q4 : dV} : vr sc d c_X7_tellsPass (15, [(2, v0), (0, v1), (0, v2), q3, q4], [], (K, M)) = (if rg K 7 v0 = true then (vc sc d 155 [(2, v0), (0, v2)] (K, M)).bind (fun r => vr sc d c_X7_tellsPass (20, [(2, v0), (0, v1), (0, v2), q3, q4], r.1 ++ [], r.2)) else none) := by
  refine (vr_steps 2 (x' := (17, [(2, v0), (0, v1), (0, v2), q3, q4], [(0, v2), (2, v0)], (K, M))) rfl).trans ?_
  exact (v_virt (k := 155) (n := 2) (tag := 7) (r := v0) (av := [(0, v2)]) (code := c_X7_tellsPass) (pc := 17) (len := 3) (L := [(2, v0), (0, v1), (0, v2), q3, q4]) (st := [(0, v2), (2, v0)]) rfl (Nat.le_of_ble_eq_true rfl) (Nat.le_of_ble_eq_true rfl) rfl).trans rfl
set_option maxRecDepth 100000 in
theorem e_X7_tellsPass_20 {sc : dS} {d : Nat} {K : List (Nat × Nat)} {M : dM} {v0 v1 v2 : Int} {q3 q4 : dV} : vr sc d c_X7_tellsPass (20, [(2, v0), (0, v1), (0, v2), q3, q4], [], (K, M)) = (if rg K 7 v0 = true then (vc sc d 154 [(2, v0)] (K, M)).bind (fun r => vr sc d c_X7_tellsPass (24, [(2, v0), (0, v1), (0, v2), q3, q4], r.1 ++ [], r.2)) else none) := by
  refine (vr_steps 1 (x' := (21, [(2, v0), (0, v1), (0, v2), q3, q4], [(2, v0)], (K, M))) rfl).trans ?_
  exact (v_virt (k := 154) (n := 1) (tag := 7) (r := v0) (av := []) (code := c_X7_tellsPass) (pc := 21) (len := 3) (L := [(2, v0), (0, v1), (0, v2), q3, q4]) (st := [(2, v0)]) rfl (Nat.le_of_ble_eq_true rfl) (Nat.le_of_ble_eq_true rfl) rfl).trans rfl
set_option maxRecDepth 100000 in
theorem e_X7_tellsPass_24 {sc : dS} {d : Nat} {K : List (Nat × Nat)} {M : dM} {v0 v1 v2 s0 : Int} {q3 q4 : dV} : vr sc d c_X7_tellsPass (24, [(2, v0), (0, v1), (0, v2), q3, q4], [(0, s0)], (K, M)) = (vr sc d c_X7_tellsPass (28, [(2, v0), (0, v1), (0, v2), (0, s0), (0, 0)], [], (K, M))) := by
  exact vr_steps 3 rfl
set_option maxRecDepth 100000 in
theorem e_X7_tellsPass_28 {sc : dS} {d : Nat} {K : List (Nat × Nat)} {M : dM} {v0 v1 v2 v3 v4 : Int} : vr sc d c_X7_tellsPass (28, [(2, v0), (0, v1), (0, v2), (0, v3), (0, v4)], [], (K, M)) = (if 6 ≤ v4 then vr sc d c_X7_tellsPass (2, [(2, v0), (0, v1), (0, w32 (v2 + 1)), (0, v3), (0, v4)], [], (K, M)) else (if og K 7 v0 32 = true then (if rg K 7 v0 = true then (vc sc d 164 [(2, v0), (0, v2), (0, v4), (0, v3)] (K, M)).bind (fun r => vr sc d c_X7_tellsPass (54, [(2, v0), (0, v1), (0, v2), (0, v3), (0, v4)], r.1 ++ [(0, w32 ((w32 (6 * v2)) + v4)), (2, M v0 32)], r.2)) else none) else none)) := by
  refine (vr_steps 2 (x' := (32, [(2, v0), (0, v1), (0, v2), (0, v3), (0, v4)], [(0, 6), (0, v4)], (K, M))) rfl).trans ?_
  refine (v_icmp (k := 3) (b := 78) (c := 6 ≤ v4) rfl rfl).trans ?_
  refine c_congr (fun _ => ?_) (fun _ => ?_)
  · exact vr_steps 2 rfl
  · refine (vr_steps 1 (x' := (36, [(2, v0), (0, v1), (0, v2), (0, v3), (0, v4)], [(2, v0)], (K, M))) rfl).trans ?_
    refine (v_getf (a := 7) (b := 32) (t := 2) rfl rfl).trans ?_
    refine g_congr (fun _ => ?_)
    refine (vr_steps 9 (x' := (51, [(2, v0), (0, v1), (0, v2), (0, v3), (0, v4)], [(0, v3), (0, v4), (0, v2), (2, v0), (0, w32 ((w32 (6 * v2)) + v4)), (2, M v0 32)], (K, M))) rfl).trans ?_
    exact (v_virt (k := 164) (n := 4) (tag := 7) (r := v0) (av := [(0, v2), (0, v4), (0, v3)]) (code := c_X7_tellsPass) (pc := 51) (len := 3) (L := [(2, v0), (0, v1), (0, v2), (0, v3), (0, v4)]) (st := [(0, v3), (0, v4), (0, v2), (2, v0), (0, w32 ((w32 (6 * v2)) + v4)), (2, M v0 32)]) rfl (Nat.le_of_ble_eq_true rfl) (Nat.le_of_ble_eq_true rfl) rfl).trans rfl
set_option maxRecDepth 100000 in
theorem e_X7_tellsPass_54 {sc : dS} {d : Nat} {K : List (Nat × Nat)} {M : dM} {v0 v1 v2 v3 v4 s0 s1 s2 : Int} : vr sc d c_X7_tellsPass (54, [(2, v0), (0, v1), (0, v2), (0, v3), (0, v4)], [(0, s2), (0, s1), (2, s0)], (K, M)) = (if og K 7 v0 10 = true then (if ag K 8 (M v0 10) (w32 (3 * v4)) = true then (if s2 < (M (M v0 10) (w32 (3 * v4))) then (if ag K 8 s0 s1 = true then vr sc d c_X7_tellsPass (28, [(2, v0), (0, v1), (0, v2), (0, v3), (0, w32 (v4 + 1))], [], (K, d_up M s0 s1 0)) else none) else (if ag K 8 s0 s1 = true then vr sc d c_X7_tellsPass (28, [(2, v0), (0, v1), (0, v2), (0, v3), (0, w32 (v4 + 1))], [], (K, d_up M s0 s1 1)) else none)) else none) else none) := by
  refine (vr_steps 1 (x' := (55, [(2, v0), (0, v1), (0, v2), (0, v3), (0, v4)], [(2, v0), (0, s2), (0, s1), (2, s0)], (K, M))) rfl).trans ?_
  refine (v_getf (a := 7) (b := 10) (t := 2) rfl rfl).trans ?_
  refine g_congr (fun _ => ?_)
  refine (vr_steps 3 (x' := (62, [(2, v0), (0, v1), (0, v2), (0, v3), (0, v4)], [(0, w32 (3 * v4)), (2, M v0 10), (0, s2), (0, s1), (2, s0)], (K, M))) rfl).trans ?_
  refine (v_ald (a := 8) rfl (by decide)).trans ?_
  refine g_congr (fun _ => ?_)
  refine (v_icmp (k := 2) (b := 70) (c := s2 < (M (M v0 10) (w32 (3 * v4)))) rfl rfl).trans ?_
  refine c_congr (fun _ => ?_) (fun _ => ?_)
  · refine (vr_steps 1 (x' := (71, [(2, v0), (0, v1), (0, v2), (0, v3), (0, v4)], [(0, 0), (0, s1), (2, s0)], (K, M))) rfl).trans ?_
    refine (v_ast rfl).trans ?_
    refine g_congr (fun _ => ?_)
    exact vr_steps 2 rfl
  · refine (vr_steps 2 (x' := (71, [(2, v0), (0, v1), (0, v2), (0, v3), (0, v4)], [(0, 1), (0, s1), (2, s0)], (K, M))) rfl).trans ?_
    refine (v_ast rfl).trans ?_
    refine g_congr (fun _ => ?_)
    exact vr_steps 2 rfl

noncomputable def c_X7_gives : Nat → Option dI := d_mcode m_X7_gives
set_option maxRecDepth 100000 in
theorem e_X7_gives_0 {sc : dS} {d : Nat} {K : List (Nat × Nat)} {M : dM} {v0 v1 v2 v3 v4 : Int} {q5 : dV} : vr sc d c_X7_gives (0, [(2, v0), (0, v1), (0, v2), (0, v3), (0, v4), q5], [], (K, M)) = (if og K 7 v0 12 = true then (if ¬ v1 = (M v0 12) then vr sc d c_X7_gives (32, [(2, v0), (0, v1), (0, v2), (0, v3), (0, v4), (0, 0)], [], (K, M)) else (if og K 7 v0 34 = true then (if v4 ≤ (M v0 34) then some ([], (K, M)) else (if og K 7 v0 33 = true then (if -2147483648 ≤ v3 ∧ v3 < 2147483648 then (if og K 7 v0 34 = true then (if -2147483648 ≤ v4 ∧ v4 < 2147483648 then some ([], (K, d_up (d_up M v0 33 v3) v0 34 v4)) else none) else none) else none) else none)) else none)) else none) := by
  refine (vr_steps 2 (x' := (2, [(2, v0), (0, v1), (0, v2), (0, v3), (0, v4), q5], [(2, v0), (0, v1)], (K, M))) rfl).trans ?_
  refine (v_getf (a := 7) (b := 12) (t := 0) rfl rfl).trans ?_
  refine g_congr (fun _ => ?_)
  refine (v_icmp (k := 1) (b := 29) (c := ¬ v1 = (M v0 12)) rfl rfl).trans ?_
  refine c_congr (fun _ => ?_) (fun _ => ?_)
  · exact vr_steps 2 rfl
  · refine (vr_steps 2 (x' := (11, [(2, v0), (0, v1), (0, v2), (0, v3), (0, v4), q5], [(2, v0), (0, v4)], (K, M))) rfl).trans ?_
    refine (v_getf (a := 7) (b := 34) (t := 0) rfl rfl).trans ?_
    refine g_congr (fun _ => ?_)
    refine (v_icmp (k := 5) (b := 28) (c := v4 ≤ (M v0 34)) rfl rfl).trans ?_
    refine c_congr (fun _ => ?_) (fun _ => ?_)
    · exact vr_ret (ai := (35, 1, 0, 0, [])) rfl rfl
    · refine (vr_steps 2 (x' := (19, [(2, v0), (0, v1), (0, v2), (0, v3), (0, v4), q5], [(0, v3), (2, v0)], (K, M))) rfl).trans ?_
      refine (v_putf (a := 7) (b := 33) (t := 0) rfl rfl (by intro q; cases q)).trans ?_
      refine g_congr (fun _ => ?_)
      refine p_congr (fun _ => ?_)
      refine (vr_steps 2 (x' := (25, [(2, v0), (0, v1), (0, v2), (0, v3), (0, v4), q5], [(0, v4), (2, v0)], (K, d_up M v0 33 v3))) rfl).trans ?_
      refine (v_putf (a := 7) (b := 34) (t := 0) rfl rfl (by intro q; cases q)).trans ?_
      refine g_congr (fun _ => ?_)
      refine p_congr (fun _ => ?_)
      exact vr_ret (ai := (35, 1, 0, 0, [])) rfl rfl
set_option maxRecDepth 100000 in
theorem e_X7_gives_32 {sc : dS} {d : Nat} {K : List (Nat × Nat)} {M : dM} {v0 v1 v2 v3 v4 v5 : Int} : vr sc d c_X7_gives (32, [(2, v0), (0, v1), (0, v2), (0, v3), (0, v4), (0, v5)], [], (K, M)) = (if 6 ≤ v5 then some ([], (K, M)) else (if ¬ (i_and (i_shr v2 v5) 1) = 0 then vr sc d c_X7_gives (85, [(2, v0), (0, v1), (0, v2), (0, v3), (0, v4), (0, v5)], [], (K, M)) else (if og K 7 v0 32 = true then (if ag K 8 (M v0 32) (w32 ((w32 (6 * v1)) + v5)) = true then (if rg K 7 v0 = true then (vc sc d 179 [(2, v0), (0, w32 (v1 + 1)), (0, i_or v2 (i_shl 1 v5)), (0, w32 ((w32 ((w32 (10 * v3)) + v5)) + 1)), (0, w32 (v4 + (M (M v0 32) (w32 ((w32 (6 * v1)) + v5)))))] (K, M)).bind (fun r => vr sc d c_X7_gives (85, [(2, v0), (0, v1), (0, v2), (0, v3), (0, v4), (0, v5)], r.1 ++ [], r.2)) else none) else none) else none))) := by
  refine (vr_steps 2 (x' := (36, [(2, v0), (0, v1), (0, v2), (0, v3), (0, v4), (0, v5)], [(0, 6), (0, v5)], (K, M))) rfl).trans ?_
  refine (v_icmp (k := 3) (b := 91) (c := 6 ≤ v5) rfl rfl).trans ?_
  refine c_congr (fun _ => ?_) (fun _ => ?_)
  · exact vr_ret (ai := (35, 1, 0, 0, [])) rfl rfl
  · refine (vr_steps 5 (x' := (45, [(2, v0), (0, v1), (0, v2), (0, v3), (0, v4), (0, v5)], [(0, i_and (i_shr v2 v5) 1)], (K, M))) rfl).trans ?_
    refine (v_if (k := 1) (b := 85) (c := ¬ (i_and (i_shr v2 v5) 1) = 0) rfl rfl).trans ?_
    refine c_congr (fun _ => ?_) (fun _ => ?_)
    · rfl
    · refine (vr_steps 18 (x' := (70, [(2, v0), (0, v1), (0, v2), (0, v3), (0, v4), (0, v5)], [(2, v0), (0, v4), (0, w32 ((w32 ((w32 (10 * v3)) + v5)) + 1)), (0, i_or v2 (i_shl 1 v5)), (0, w32 (v1 + 1)), (2, v0)], (K, M))) rfl).trans ?_
      refine (v_getf (a := 7) (b := 32) (t := 2) rfl rfl).trans ?_
      refine g_congr (fun _ => ?_)
      refine (vr_steps 5 (x' := (80, [(2, v0), (0, v1), (0, v2), (0, v3), (0, v4), (0, v5)], [(0, w32 ((w32 (6 * v1)) + v5)), (2, M v0 32), (0, v4), (0, w32 ((w32 ((w32 (10 * v3)) + v5)) + 1)), (0, i_or v2 (i_shl 1 v5)), (0, w32 (v1 + 1)), (2, v0)], (K, M))) rfl).trans ?_
      refine (v_ald (a := 8) rfl (by decide)).trans ?_
      refine g_congr (fun _ => ?_)
      refine (vr_steps 1 (x' := (82, [(2, v0), (0, v1), (0, v2), (0, v3), (0, v4), (0, v5)], [(0, w32 (v4 + (M (M v0 32) (w32 ((w32 (6 * v1)) + v5))))), (0, w32 ((w32 ((w32 (10 * v3)) + v5)) + 1)), (0, i_or v2 (i_shl 1 v5)), (0, w32 (v1 + 1)), (2, v0)], (K, M))) rfl).trans ?_
      exact (v_virt (k := 179) (n := 5) (tag := 7) (r := v0) (av := [(0, w32 (v1 + 1)), (0, i_or v2 (i_shl 1 v5)), (0, w32 ((w32 ((w32 (10 * v3)) + v5)) + 1)), (0, w32 (v4 + (M (M v0 32) (w32 ((w32 (6 * v1)) + v5)))))]) (code := c_X7_gives) (pc := 82) (len := 3) (L := [(2, v0), (0, v1), (0, v2), (0, v3), (0, v4), (0, v5)]) (st := [(0, w32 (v4 + (M (M v0 32) (w32 ((w32 (6 * v1)) + v5))))), (0, w32 ((w32 ((w32 (10 * v3)) + v5)) + 1)), (0, i_or v2 (i_shl 1 v5)), (0, w32 (v1 + 1)), (2, v0)]) rfl (Nat.le_of_ble_eq_true rfl) (Nat.le_of_ble_eq_true rfl) rfl).trans rfl
set_option maxRecDepth 100000 in
theorem e_X7_gives_85 {sc : dS} {d : Nat} {K : List (Nat × Nat)} {M : dM} {v0 v1 v2 v3 v4 v5 : Int} : vr sc d c_X7_gives (85, [(2, v0), (0, v1), (0, v2), (0, v3), (0, v4), (0, v5)], [], (K, M)) = (vr sc d c_X7_gives (32, [(2, v0), (0, v1), (0, v2), (0, v3), (0, v4), (0, w32 (v5 + 1))], [], (K, M))) := by
  exact vr_steps 2 rfl

noncomputable def c_X7_best : Nat → Option dI := d_mcode m_X7_best
set_option maxRecDepth 100000 in
theorem e_X7_best_0 {sc : dS} {d : Nat} {K : List (Nat × Nat)} {M : dM} {v0 v1 v2 : Int} {q3 : dV} : vr sc d c_X7_best (0, [(2, v0), (0, v1), (0, v2), q3], [], (K, M)) = ((vc sc d 196 [(0, v1)] (K, M)).bind (fun r => vr sc d c_X7_best (4, [(2, v0), (0, v1), (0, v2), q3], r.1 ++ [], r.2))) := by
  refine (vr_steps 1 (x' := (1, [(2, v0), (0, v1), (0, v2), q3], [(0, v1)], (K, M))) rfl).trans ?_
  exact (v_stat (k := 196) (n := 1) (code := c_X7_best) (pc := 1) (len := 3) (L := [(2, v0), (0, v1), (0, v2), q3]) (st := [(0, v1)]) rfl (Nat.le_of_ble_eq_true rfl) (Nat.le_of_ble_eq_true rfl)).trans rfl
set_option maxRecDepth 100000 in
theorem e_X7_best_4 {sc : dS} {d : Nat} {K : List (Nat × Nat)} {M : dM} {v0 v1 v2 s0 : Int} {q3 : dV} : vr sc d c_X7_best (4, [(2, v0), (0, v1), (0, v2), q3], [(0, s0)], (K, M)) = (if s0 = 0 then some ([(0, (-2))], (K, M)) else (vc sc d 114 [(1, v2), (1, 0), (1, 1)] (K, M)).bind (fun r => vr sc d c_X7_best (14, [(2, v0), (0, v1), (0, v2), q3], r.1 ++ [], r.2))) := by
  refine (v_if (k := 0) (b := 17) (c := s0 = 0) rfl rfl).trans ?_
  refine c_congr (fun _ => ?_) (fun _ => ?_)
  · refine (vr_steps 1 (x' := (19, [(2, v0), (0, v1), (0, v2), q3], [(0, (-2))], (K, M))) rfl).trans ?_
    exact vr_ret (ai := (35, 1, 1, 0, [])) rfl rfl
  · refine (vr_steps 4 (x' := (11, [(2, v0), (0, v1), (0, v2), q3], [(1, 1), (1, 0), (1, v2)], (K, M))) rfl).trans ?_
    exact (v_stat (k := 114) (n := 3) (code := c_X7_best) (pc := 11) (len := 3) (L := [(2, v0), (0, v1), (0, v2), q3]) (st := [(1, 1), (1, 0), (1, v2)]) rfl (Nat.le_of_ble_eq_true rfl) (Nat.le_of_ble_eq_true rfl)).trans rfl
set_option maxRecDepth 100000 in
theorem e_X7_best_14 {sc : dS} {d : Nat} {K : List (Nat × Nat)} {M : dM} {v0 v1 v2 s0 : Int} {q3 : dV} : vr sc d c_X7_best (14, [(2, v0), (0, v1), (0, v2), q3], [(0, s0)], (K, M)) = (if ¬ s0 = 0 then (if rg K 7 v0 = true then (vc sc d 156 [(2, v0), (0, v1)] (K, M)).bind (fun r => vr sc d c_X7_best (25, [(2, v0), (0, v1), (0, v2), q3], r.1 ++ [], r.2)) else none) else some ([(0, (-2))], (K, M))) := by
  refine (v_if (k := 1) (b := 20) (c := ¬ s0 = 0) rfl rfl).trans ?_
  refine c_congr (fun _ => ?_) (fun _ => ?_)
  · refine (vr_steps 2 (x' := (22, [(2, v0), (0, v1), (0, v2), q3], [(0, v1), (2, v0)], (K, M))) rfl).trans ?_
    exact (v_virt (k := 156) (n := 2) (tag := 7) (r := v0) (av := [(0, v1)]) (code := c_X7_best) (pc := 22) (len := 3) (L := [(2, v0), (0, v1), (0, v2), q3]) (st := [(0, v1), (2, v0)]) rfl (Nat.le_of_ble_eq_true rfl) (Nat.le_of_ble_eq_true rfl) rfl).trans rfl
  · refine (vr_steps 1 (x' := (19, [(2, v0), (0, v1), (0, v2), q3], [(0, (-2))], (K, M))) rfl).trans ?_
    exact vr_ret (ai := (35, 1, 1, 0, [])) rfl rfl
set_option maxRecDepth 100000 in
theorem e_X7_best_25 {sc : dS} {d : Nat} {K : List (Nat × Nat)} {M : dM} {v0 v1 v2 s0 : Int} {q3 : dV} : vr sc d c_X7_best (25, [(2, v0), (0, v1), (0, v2), q3], [(0, s0)], (K, M)) = (if s0 = 0 then (if rg K 7 v0 = true then (vc sc d 178 [(2, v0), (0, v1)] (K, M)).bind (fun r => vr sc d c_X7_best (37, [(2, v0), (0, v1), (0, v2), (0, s0)], r.1 ++ [], r.2)) else none) else some ([(0, s0)], (K, M))) := by
  refine (vr_steps 2 (x' := (27, [(2, v0), (0, v1), (0, v2), (0, s0)], [(0, s0)], (K, M))) rfl).trans ?_
  refine (v_if (k := 0) (b := 32) (c := s0 = 0) rfl rfl).trans ?_
  refine c_congr (fun _ => ?_) (fun _ => ?_)
  · refine (vr_steps 2 (x' := (34, [(2, v0), (0, v1), (0, v2), (0, s0)], [(0, v1), (2, v0)], (K, M))) rfl).trans ?_
    exact (v_virt (k := 178) (n := 2) (tag := 7) (r := v0) (av := [(0, v1)]) (code := c_X7_best) (pc := 34) (len := 3) (L := [(2, v0), (0, v1), (0, v2), (0, s0)]) (st := [(0, v1), (2, v0)]) rfl (Nat.le_of_ble_eq_true rfl) (Nat.le_of_ble_eq_true rfl) rfl).trans rfl
  · refine (vr_steps 1 (x' := (31, [(2, v0), (0, v1), (0, v2), (0, s0)], [(0, s0)], (K, M))) rfl).trans ?_
    exact vr_ret (ai := (35, 1, 1, 0, [])) rfl rfl
set_option maxRecDepth 100000 in
theorem e_X7_best_37 {sc : dS} {d : Nat} {K : List (Nat × Nat)} {M : dM} {v0 v1 v2 v3 : Int} : vr sc d c_X7_best (37, [(2, v0), (0, v1), (0, v2), (0, v3)], [], (K, M)) = (if og K 7 v0 33 = true then (if -2147483648 ≤ 0 ∧ 0 < 2147483648 then (if og K 7 v0 34 = true then (if -2147483648 ≤ (-1) ∧ (-1) < 2147483648 then (if rg K 7 v0 = true then (vc sc d 179 [(2, v0), (0, 0), (0, 0), (0, 0), (0, 0)] (K, d_up (d_up M v0 33 0) v0 34 (-1))).bind (fun r => vr sc d c_X7_best (55, [(2, v0), (0, v1), (0, v2), (0, v3)], r.1 ++ [], r.2)) else none) else none) else none) else none) else none) := by
  refine (vr_steps 2 (x' := (39, [(2, v0), (0, v1), (0, v2), (0, v3)], [(0, 0), (2, v0)], (K, M))) rfl).trans ?_
  refine (v_putf (a := 7) (b := 33) (t := 0) rfl rfl (by intro q; cases q)).trans ?_
  refine g_congr (fun _ => ?_)
  refine p_congr (fun _ => ?_)
  refine (vr_steps 2 (x' := (44, [(2, v0), (0, v1), (0, v2), (0, v3)], [(0, (-1)), (2, v0)], (K, d_up M v0 33 0))) rfl).trans ?_
  refine (v_putf (a := 7) (b := 34) (t := 0) rfl rfl (by intro q; cases q)).trans ?_
  refine g_congr (fun _ => ?_)
  refine p_congr (fun _ => ?_)
  refine (vr_steps 5 (x' := (52, [(2, v0), (0, v1), (0, v2), (0, v3)], [(0, 0), (0, 0), (0, 0), (0, 0), (2, v0)], (K, d_up (d_up M v0 33 0) v0 34 (-1)))) rfl).trans ?_
  exact (v_virt (k := 179) (n := 5) (tag := 7) (r := v0) (av := [(0, 0), (0, 0), (0, 0), (0, 0)]) (code := c_X7_best) (pc := 52) (len := 3) (L := [(2, v0), (0, v1), (0, v2), (0, v3)]) (st := [(0, 0), (0, 0), (0, 0), (0, 0), (2, v0)]) rfl (Nat.le_of_ble_eq_true rfl) (Nat.le_of_ble_eq_true rfl) rfl).trans rfl
set_option maxRecDepth 100000 in
theorem e_X7_best_55 {sc : dS} {d : Nat} {K : List (Nat × Nat)} {M : dM} {v0 v1 v2 v3 : Int} : vr sc d c_X7_best (55, [(2, v0), (0, v1), (0, v2), (0, v3)], [], (K, M)) = (if ¬ v2 = 0 then (if og K 7 v0 34 = true then some ([(0, M v0 34)], (K, M)) else none) else (if og K 7 v0 33 = true then some ([(0, M v0 33)], (K, M)) else none)) := by
  refine (vr_steps 1 (x' := (56, [(2, v0), (0, v1), (0, v2), (0, v3)], [(0, v2)], (K, M))) rfl).trans ?_
  refine (v_if (k := 1) (b := 66) (c := ¬ v2 = 0) rfl rfl).trans ?_
  refine c_congr (fun _ => ?_) (fun _ => ?_)
  · refine (vr_steps 1 (x' := (67, [(2, v0), (0, v1), (0, v2), (0, v3)], [(2, v0)], (K, M))) rfl).trans ?_
    refine (v_getf (a := 7) (b := 34) (t := 0) rfl rfl).trans ?_
    refine g_congr (fun _ => ?_)
    exact vr_ret (ai := (35, 1, 1, 0, [])) rfl rfl
  · refine (vr_steps 1 (x' := (60, [(2, v0), (0, v1), (0, v2), (0, v3)], [(2, v0)], (K, M))) rfl).trans ?_
    refine (v_getf (a := 7) (b := 33) (t := 0) rfl rfl).trans ?_
    refine g_congr (fun _ => ?_)
    refine (vr_steps 1 (x' := (70, [(2, v0), (0, v1), (0, v2), (0, v3)], [(0, M v0 33)], (K, M))) rfl).trans ?_
    exact vr_ret (ai := (35, 1, 1, 0, [])) rfl rfl

noncomputable def c_X7_takesCode : Nat → Option dI := d_mcode m_X7_takesCode
set_option maxRecDepth 100000 in
theorem e_X7_takesCode_0 {sc : dS} {d : Nat} {K : List (Nat × Nat)} {M : dM} {v0 v1 v2 : Int} {q3 q4 : dV} : vr sc d c_X7_takesCode (0, [(2, v0), (0, v1), (0, v2), q3, q4], [], (K, M)) = (if og K 7 v0 29 = true then (if -2147483648 ≤ v2 ∧ v2 < 2147483648 then vr sc d c_X7_takesCode (12, [(2, v0), (0, v1), (0, v2), (0, w32 (v2 - 1)), (0, v1)], [], (K, d_up M v0 29 v2)) else none) else none) := by
  refine (vr_steps 2 (x' := (2, [(2, v0), (0, v1), (0, v2), q3, q4], [(0, v2), (2, v0)], (K, M))) rfl).trans ?_
  refine (v_putf (a := 7) (b := 29) (t := 0) rfl rfl (by intro q; cases q)).trans ?_
  refine g_congr (fun _ => ?_)
  refine p_congr (fun _ => ?_)
  exact vr_steps 6 rfl
set_option maxRecDepth 100000 in
theorem e_X7_takesCode_12 {sc : dS} {d : Nat} {K : List (Nat × Nat)} {M : dM} {v0 v1 v2 v3 v4 : Int} : vr sc d c_X7_takesCode (12, [(2, v0), (0, v1), (0, v2), (0, v3), (0, v4)], [], (K, M)) = (if v3 < 0 then some ([], (K, M)) else (if og K 7 v0 28 = true then (if ag K 8 (M v0 28) v3 = true then vr sc d c_X7_takesCode (12, [(2, v0), (0, v1), (0, v2), (0, w32 (v3 + (-1))), (0, w32 (v4.tdiv 4))], [], (K, d_up M (M v0 28) v3 (w32 (v4.tmod 4)))) else none) else none)) := by
  refine (vr_steps 1 (x' := (13, [(2, v0), (0, v1), (0, v2), (0, v3), (0, v4)], [(0, v3)], (K, M))) rfl).trans ?_
  refine (v_if (k := 2) (b := 38) (c := v3 < 0) rfl rfl).trans ?_
  refine c_congr (fun _ => ?_) (fun _ => ?_)
  · exact vr_ret (ai := (35, 1, 0, 0, [])) rfl rfl
  · refine (vr_steps 1 (x' := (17, [(2, v0), (0, v1), (0, v2), (0, v3), (0, v4)], [(2, v0)], (K, M))) rfl).trans ?_
    refine (v_getf (a := 7) (b := 28) (t := 2) rfl rfl).trans ?_
    refine g_congr (fun _ => ?_)
    refine (vr_steps 4 (x' := (25, [(2, v0), (0, v1), (0, v2), (0, v3), (0, v4)], [(0, w32 (v4.tmod 4)), (0, v3), (2, M v0 28)], (K, M))) rfl).trans ?_
    refine (v_ast rfl).trans ?_
    refine g_congr (fun _ => ?_)
    exact vr_steps 6 rfl

noncomputable def c_X7_isFine : Nat → Option dI := d_mcode m_X7_isFine
set_option maxRecDepth 100000 in
theorem e_X7_isFine_0 {sc : dS} {d : Nat} {K : List (Nat × Nat)} {M : dM} {v0 v1 v2 v3 v4 v5 : Int} : vr sc d c_X7_isFine (0, [(2, v0), (0, v1), (0, v2), (0, v3), (0, v4), (0, v5)], [], (K, M)) = (if rg K 7 v0 = true then (vc sc d 181 [(2, v0), (0, v4), (0, v5)] (K, M)).bind (fun r => vr sc d c_X7_isFine (8, [(2, v0), (0, v1), (0, v2), (0, v3), (0, v4), (0, v5)], r.1 ++ [], r.2)) else none) := by
  refine (vr_steps 3 (x' := (5, [(2, v0), (0, v1), (0, v2), (0, v3), (0, v4), (0, v5)], [(0, v5), (0, v4), (2, v0)], (K, M))) rfl).trans ?_
  exact (v_virt (k := 181) (n := 3) (tag := 7) (r := v0) (av := [(0, v4), (0, v5)]) (code := c_X7_isFine) (pc := 5) (len := 3) (L := [(2, v0), (0, v1), (0, v2), (0, v3), (0, v4), (0, v5)]) (st := [(0, v5), (0, v4), (2, v0)]) rfl (Nat.le_of_ble_eq_true rfl) (Nat.le_of_ble_eq_true rfl) rfl).trans rfl
set_option maxRecDepth 100000 in
theorem e_X7_isFine_8 {sc : dS} {d : Nat} {K : List (Nat × Nat)} {M : dM} {v0 v1 v2 v3 v4 v5 : Int} : vr sc d c_X7_isFine (8, [(2, v0), (0, v1), (0, v2), (0, v3), (0, v4), (0, v5)], [], (K, M)) = (if rg K 7 v0 = true then (vc sc d 155 [(2, v0), (0, v1)] (K, M)).bind (fun r => vr sc d c_X7_isFine (13, [(2, v0), (0, v1), (0, v2), (0, v3), (0, v4), (0, v5)], r.1 ++ [], r.2)) else none) := by
  refine (vr_steps 2 (x' := (10, [(2, v0), (0, v1), (0, v2), (0, v3), (0, v4), (0, v5)], [(0, v1), (2, v0)], (K, M))) rfl).trans ?_
  exact (v_virt (k := 155) (n := 2) (tag := 7) (r := v0) (av := [(0, v1)]) (code := c_X7_isFine) (pc := 10) (len := 3) (L := [(2, v0), (0, v1), (0, v2), (0, v3), (0, v4), (0, v5)]) (st := [(0, v1), (2, v0)]) rfl (Nat.le_of_ble_eq_true rfl) (Nat.le_of_ble_eq_true rfl) rfl).trans rfl
set_option maxRecDepth 100000 in
theorem e_X7_isFine_13 {sc : dS} {d : Nat} {K : List (Nat × Nat)} {M : dM} {v0 v1 v2 v3 v4 v5 : Int} : vr sc d c_X7_isFine (13, [(2, v0), (0, v1), (0, v2), (0, v3), (0, v4), (0, v5)], [], (K, M)) = (if rg K 7 v0 = true then (vc sc d 154 [(2, v0)] (K, M)).bind (fun r => vr sc d c_X7_isFine (20, [(2, v0), (0, v1), (0, v2), (0, v3), (0, v4), (0, v5)], r.1 ++ [(0, 0), (0, v1), (2, v0)], r.2)) else none) := by
  refine (vr_steps 4 (x' := (17, [(2, v0), (0, v1), (0, v2), (0, v3), (0, v4), (0, v5)], [(2, v0), (0, 0), (0, v1), (2, v0)], (K, M))) rfl).trans ?_
  exact (v_virt (k := 154) (n := 1) (tag := 7) (r := v0) (av := []) (code := c_X7_isFine) (pc := 17) (len := 3) (L := [(2, v0), (0, v1), (0, v2), (0, v3), (0, v4), (0, v5)]) (st := [(2, v0), (0, 0), (0, v1), (2, v0)]) rfl (Nat.le_of_ble_eq_true rfl) (Nat.le_of_ble_eq_true rfl) rfl).trans rfl
set_option maxRecDepth 100000 in
theorem e_X7_isFine_20 {sc : dS} {d : Nat} {K : List (Nat × Nat)} {M : dM} {v0 v1 v2 v3 v4 v5 s0 s1 s2 s3 : Int} : vr sc d c_X7_isFine (20, [(2, v0), (0, v1), (0, v2), (0, v3), (0, v4), (0, v5)], [(0, s3), (0, s2), (0, s1), (2, s0)], (K, M)) = (if rg K 7 s0 = true then (vc sc d 164 [(2, s0), (0, s1), (0, s2), (0, s3)] (K, M)).bind (fun r => vr sc d c_X7_isFine (23, [(2, v0), (0, v1), (0, v2), (0, v3), (0, v4), (0, v5)], r.1 ++ [], r.2)) else none) := by
  exact (v_virt (k := 164) (n := 4) (tag := 7) (r := s0) (av := [(0, s1), (0, s2), (0, s3)]) (code := c_X7_isFine) (pc := 20) (len := 3) (L := [(2, v0), (0, v1), (0, v2), (0, v3), (0, v4), (0, v5)]) (st := [(0, s3), (0, s2), (0, s1), (2, s0)]) rfl (Nat.le_of_ble_eq_true rfl) (Nat.le_of_ble_eq_true rfl) rfl).trans rfl
set_option maxRecDepth 100000 in
theorem e_X7_isFine_23 {sc : dS} {d : Nat} {K : List (Nat × Nat)} {M : dM} {v0 v1 v2 v3 v4 v5 s0 : Int} : vr sc d c_X7_isFine (23, [(2, v0), (0, v1), (0, v2), (0, v3), (0, v4), (0, v5)], [(0, s0)], (K, M)) = (if v2 ≤ s0 then (if rg K 7 v0 = true then (vc sc d 181 [(2, v0), (0, v4), (0, v5)] (K, M)).bind (fun r => vr sc d c_X7_isFine (37, [(2, v0), (0, v1), (0, v2), (0, v3), (0, v4), (0, v5)], r.1 ++ [], r.2)) else none) else some ([(0, 0)], (K, M))) := by
  refine (vr_steps 1 (x' := (24, [(2, v0), (0, v1), (0, v2), (0, v3), (0, v4), (0, v5)], [(0, v2), (0, s0)], (K, M))) rfl).trans ?_
  refine (v_icmp (k := 3) (b := 29) (c := v2 ≤ s0) rfl rfl).trans ?_
  refine c_congr (fun _ => ?_) (fun _ => ?_)
  · refine (vr_steps 3 (x' := (34, [(2, v0), (0, v1), (0, v2), (0, v3), (0, v4), (0, v5)], [(0, v5), (0, v4), (2, v0)], (K, M))) rfl).trans ?_
    exact (v_virt (k := 181) (n := 3) (tag := 7) (r := v0) (av := [(0, v4), (0, v5)]) (code := c_X7_isFine) (pc := 34) (len := 3) (L := [(2, v0), (0, v1), (0, v2), (0, v3), (0, v4), (0, v5)]) (st := [(0, v5), (0, v4), (2, v0)]) rfl (Nat.le_of_ble_eq_true rfl) (Nat.le_of_ble_eq_true rfl) rfl).trans rfl
  · refine (vr_steps 1 (x' := (28, [(2, v0), (0, v1), (0, v2), (0, v3), (0, v4), (0, v5)], [(0, 0)], (K, M))) rfl).trans ?_
    exact vr_ret (ai := (35, 1, 3, 0, [])) rfl rfl
set_option maxRecDepth 100000 in
theorem e_X7_isFine_37 {sc : dS} {d : Nat} {K : List (Nat × Nat)} {M : dM} {v0 v1 v2 v3 v4 v5 : Int} : vr sc d c_X7_isFine (37, [(2, v0), (0, v1), (0, v2), (0, v3), (0, v4), (0, v5)], [], (K, M)) = (if rg K 7 v0 = true then (vc sc d 155 [(2, v0), (0, v1)] (K, M)).bind (fun r => vr sc d c_X7_isFine (42, [(2, v0), (0, v1), (0, v2), (0, v3), (0, v4), (0, v5)], r.1 ++ [], r.2)) else none) := by
  refine (vr_steps 2 (x' := (39, [(2, v0), (0, v1), (0, v2), (0, v3), (0, v4), (0, v5)], [(0, v1), (2, v0)], (K, M))) rfl).trans ?_
  exact (v_virt (k := 155) (n := 2) (tag := 7) (r := v0) (av := [(0, v1)]) (code := c_X7_isFine) (pc := 39) (len := 3) (L := [(2, v0), (0, v1), (0, v2), (0, v3), (0, v4), (0, v5)]) (st := [(0, v1), (2, v0)]) rfl (Nat.le_of_ble_eq_true rfl) (Nat.le_of_ble_eq_true rfl) rfl).trans rfl
set_option maxRecDepth 100000 in
theorem e_X7_isFine_42 {sc : dS} {d : Nat} {K : List (Nat × Nat)} {M : dM} {v0 v1 v2 v3 v4 v5 : Int} : vr sc d c_X7_isFine (42, [(2, v0), (0, v1), (0, v2), (0, v3), (0, v4), (0, v5)], [], (K, M)) = (if rg K 7 v0 = true then (vc sc d 159 [(2, v0), (0, v3)] (K, M)).bind (fun r => vr sc d c_X7_isFine (47, [(2, v0), (0, v1), (0, v2), (0, v3), (0, v4), (0, v5)], r.1 ++ [], r.2)) else none) := by
  refine (vr_steps 2 (x' := (44, [(2, v0), (0, v1), (0, v2), (0, v3), (0, v4), (0, v5)], [(0, v3), (2, v0)], (K, M))) rfl).trans ?_
  exact (v_virt (k := 159) (n := 2) (tag := 7) (r := v0) (av := [(0, v3)]) (code := c_X7_isFine) (pc := 44) (len := 3) (L := [(2, v0), (0, v1), (0, v2), (0, v3), (0, v4), (0, v5)]) (st := [(0, v3), (2, v0)]) rfl (Nat.le_of_ble_eq_true rfl) (Nat.le_of_ble_eq_true rfl) rfl).trans rfl
set_option maxRecDepth 100000 in
theorem e_X7_isFine_47 {sc : dS} {d : Nat} {K : List (Nat × Nat)} {M : dM} {v0 v1 v2 v3 v4 v5 s0 : Int} : vr sc d c_X7_isFine (47, [(2, v0), (0, v1), (0, v2), (0, v3), (0, v4), (0, v5)], [(0, s0)], (K, M)) = (d_ret 3 [(0, s0)] (K, M)) := by
  exact vr_ret (ai := (35, 1, 3, 0, [])) rfl rfl

noncomputable def c_X7_shortest : Nat → Option dI := d_mcode m_X7_shortest
set_option maxRecDepth 100000 in
theorem e_X7_shortest_0 {sc : dS} {d : Nat} {K : List (Nat × Nat)} {M : dM} {v0 v1 v2 v3 : Int} {q4 q5 q6 : dV} : vr sc d c_X7_shortest (0, [(2, v0), (0, v1), (0, v2), (0, v3), q4, q5, q6], [], (K, M)) = (if rg K 7 v0 = true then (vc sc d 118 [(2, v0), (0, v1)] (K, M)).bind (fun r => vr sc d c_X7_shortest (5, [(2, v0), (0, v1), (0, v2), (0, v3), q4, q5, q6], r.1 ++ [], r.2)) else none) := by
  refine (vr_steps 2 (x' := (2, [(2, v0), (0, v1), (0, v2), (0, v3), q4, q5, q6], [(0, v1), (2, v0)], (K, M))) rfl).trans ?_
  exact (v_virt (k := 118) (n := 2) (tag := 7) (r := v0) (av := [(0, v1)]) (code := c_X7_shortest) (pc := 2) (len := 3) (L := [(2, v0), (0, v1), (0, v2), (0, v3), q4, q5, q6]) (st := [(0, v1), (2, v0)]) rfl (Nat.le_of_ble_eq_true rfl) (Nat.le_of_ble_eq_true rfl) rfl).trans rfl
set_option maxRecDepth 100000 in
theorem e_X7_shortest_5 {sc : dS} {d : Nat} {K : List (Nat × Nat)} {M : dM} {v0 v1 v2 v3 s0 : Int} {q4 q5 q6 : dV} : vr sc d c_X7_shortest (5, [(2, v0), (0, v1), (0, v2), (0, v3), q4, q5, q6], [(0, s0)], (K, M)) = (if s0 = 0 then some ([(0, (-2))], (K, M)) else (vc sc d 114 [(1, v2), (1, 0), (1, 99)] (K, M)).bind (fun r => vr sc d c_X7_shortest (17, [(2, v0), (0, v1), (0, v2), (0, v3), q4, q5, q6], r.1 ++ [], r.2))) := by
  refine (v_if (k := 0) (b := 32) (c := s0 = 0) rfl rfl).trans ?_
  refine c_congr (fun _ => ?_) (fun _ => ?_)
  · refine (vr_steps 1 (x' := (34, [(2, v0), (0, v1), (0, v2), (0, v3), q4, q5, q6], [(0, (-2))], (K, M))) rfl).trans ?_
    exact vr_ret (ai := (35, 1, 1, 0, [])) rfl rfl
  · refine (vr_steps 4 (x' := (14, [(2, v0), (0, v1), (0, v2), (0, v3), q4, q5, q6], [(1, 99), (1, 0), (1, v2)], (K, M))) rfl).trans ?_
    exact (v_stat (k := 114) (n := 3) (code := c_X7_shortest) (pc := 14) (len := 3) (L := [(2, v0), (0, v1), (0, v2), (0, v3), q4, q5, q6]) (st := [(1, 99), (1, 0), (1, v2)]) rfl (Nat.le_of_ble_eq_true rfl) (Nat.le_of_ble_eq_true rfl)).trans rfl
set_option maxRecDepth 100000 in
theorem e_X7_shortest_17 {sc : dS} {d : Nat} {K : List (Nat × Nat)} {M : dM} {v0 v1 v2 v3 s0 : Int} {q4 q5 q6 : dV} : vr sc d c_X7_shortest (17, [(2, v0), (0, v1), (0, v2), (0, v3), q4, q5, q6], [(0, s0)], (K, M)) = (if s0 = 0 then some ([(0, (-2))], (K, M)) else (vc sc d 114 [(1, v3), (1, 0), (1, 3)] (K, M)).bind (fun r => vr sc d c_X7_shortest (29, [(2, v0), (0, v1), (0, v2), (0, v3), q4, q5, q6], r.1 ++ [], r.2))) := by
  refine (v_if (k := 0) (b := 32) (c := s0 = 0) rfl rfl).trans ?_
  refine c_congr (fun _ => ?_) (fun _ => ?_)
  · refine (vr_steps 1 (x' := (34, [(2, v0), (0, v1), (0, v2), (0, v3), q4, q5, q6], [(0, (-2))], (K, M))) rfl).trans ?_
    exact vr_ret (ai := (35, 1, 1, 0, [])) rfl rfl
  · refine (vr_steps 4 (x' := (26, [(2, v0), (0, v1), (0, v2), (0, v3), q4, q5, q6], [(1, 3), (1, 0), (1, v3)], (K, M))) rfl).trans ?_
    exact (v_stat (k := 114) (n := 3) (code := c_X7_shortest) (pc := 26) (len := 3) (L := [(2, v0), (0, v1), (0, v2), (0, v3), q4, q5, q6]) (st := [(1, 3), (1, 0), (1, v3)]) rfl (Nat.le_of_ble_eq_true rfl) (Nat.le_of_ble_eq_true rfl)).trans rfl
set_option maxRecDepth 100000 in
theorem e_X7_shortest_29 {sc : dS} {d : Nat} {K : List (Nat × Nat)} {M : dM} {v0 v1 v2 v3 s0 : Int} {q4 q5 q6 : dV} : vr sc d c_X7_shortest (29, [(2, v0), (0, v1), (0, v2), (0, v3), q4, q5, q6], [(0, s0)], (K, M)) = (if ¬ s0 = 0 then vr sc d c_X7_shortest (41, [(2, v0), (0, v1), (0, v2), (0, v3), (0, 1), (0, 0), q6], [], (K, M)) else some ([(0, (-2))], (K, M))) := by
  refine (v_if (k := 1) (b := 35) (c := ¬ s0 = 0) rfl rfl).trans ?_
  refine c_congr (fun _ => ?_) (fun _ => ?_)
  · exact vr_steps 4 rfl
  · refine (vr_steps 1 (x' := (34, [(2, v0), (0, v1), (0, v2), (0, v3), q4, q5, q6], [(0, (-2))], (K, M))) rfl).trans ?_
    exact vr_ret (ai := (35, 1, 1, 0, [])) rfl rfl
set_option maxRecDepth 100000 in
theorem e_X7_shortest_41 {sc : dS} {d : Nat} {K : List (Nat × Nat)} {M : dM} {v0 v1 v2 v3 v4 v5 : Int} {q6 : dV} : vr sc d c_X7_shortest (41, [(2, v0), (0, v1), (0, v2), (0, v3), (0, v4), (0, v5), q6], [], (K, M)) = (if 5 ≤ v5 then some ([(0, (-1))], (K, M)) else vr sc d c_X7_shortest (50, [(2, v0), (0, v1), (0, v2), (0, v3), (0, v4), (0, v5), (0, 0)], [], (K, M))) := by
  refine (vr_steps 2 (x' := (44, [(2, v0), (0, v1), (0, v2), (0, v3), (0, v4), (0, v5), q6], [(0, 5), (0, v5)], (K, M))) rfl).trans ?_
  refine (v_icmp (k := 3) (b := 102) (c := 5 ≤ v5) rfl rfl).trans ?_
  refine c_congr (fun _ => ?_) (fun _ => ?_)
  · refine (vr_steps 1 (x' := (103, [(2, v0), (0, v1), (0, v2), (0, v3), (0, v4), (0, v5), q6], [(0, (-1))], (K, M))) rfl).trans ?_
    exact vr_ret (ai := (35, 1, 1, 0, [])) rfl rfl
  · exact vr_steps 2 rfl
set_option maxRecDepth 100000 in
theorem e_X7_shortest_50 {sc : dS} {d : Nat} {K : List (Nat × Nat)} {M : dM} {v0 v1 v2 v3 v4 v5 v6 : Int} : vr sc d c_X7_shortest (50, [(2, v0), (0, v1), (0, v2), (0, v3), (0, v4), (0, v5), (0, v6)], [], (K, M)) = (if v4 ≤ v6 then vr sc d c_X7_shortest (41, [(2, v0), (0, v1), (0, v2), (0, v3), (0, w32 (v4 * 4)), (0, w32 (v5 + 1)), (0, v6)], [], (K, M)) else (if rg K 7 v0 = true then (vc sc d 182 [(2, v0), (0, v1), (0, v2), (0, v3), (0, v6), (0, v5)] (K, M)).bind (fun r => vr sc d c_X7_shortest (68, [(2, v0), (0, v1), (0, v2), (0, v3), (0, v4), (0, v5), (0, v6)], r.1 ++ [], r.2)) else none)) := by
  refine (vr_steps 2 (x' := (54, [(2, v0), (0, v1), (0, v2), (0, v3), (0, v4), (0, v5), (0, v6)], [(0, v4), (0, v6)], (K, M))) rfl).trans ?_
  refine (v_icmp (k := 3) (b := 90) (c := v4 ≤ v6) rfl rfl).trans ?_
  refine c_congr (fun _ => ?_) (fun _ => ?_)
  · exact vr_steps 6 rfl
  · refine (vr_steps 6 (x' := (65, [(2, v0), (0, v1), (0, v2), (0, v3), (0, v4), (0, v5), (0, v6)], [(0, v5), (0, v6), (0, v3), (0, v2), (0, v1), (2, v0)], (K, M))) rfl).trans ?_
    exact (v_virt (k := 182) (n := 6) (tag := 7) (r := v0) (av := [(0, v1), (0, v2), (0, v3), (0, v6), (0, v5)]) (code := c_X7_shortest) (pc := 65) (len := 3) (L := [(2, v0), (0, v1), (0, v2), (0, v3), (0, v4), (0, v5), (0, v6)]) (st := [(0, v5), (0, v6), (0, v3), (0, v2), (0, v1), (2, v0)]) rfl (Nat.le_of_ble_eq_true rfl) (Nat.le_of_ble_eq_true rfl) rfl).trans rfl
set_option maxRecDepth 100000 in
theorem e_X7_shortest_68 {sc : dS} {d : Nat} {K : List (Nat × Nat)} {M : dM} {v0 v1 v2 v3 v4 v5 v6 s0 : Int} : vr sc d c_X7_shortest (68, [(2, v0), (0, v1), (0, v2), (0, v3), (0, v4), (0, v5), (0, v6)], [(0, s0)], (K, M)) = (if s0 = 0 then vr sc d c_X7_shortest (50, [(2, v0), (0, v1), (0, v2), (0, v3), (0, v4), (0, v5), (0, w32 (v6 + 1))], [], (K, M)) else (if rg K 7 v0 = true then (vc sc d 181 [(2, v0), (0, v6), (0, v5)] (K, M)).bind (fun r => vr sc d c_X7_shortest (79, [(2, v0), (0, v1), (0, v2), (0, v3), (0, v4), (0, v5), (0, v6)], r.1 ++ [], r.2)) else none)) := by
  refine (v_if (k := 0) (b := 84) (c := s0 = 0) rfl rfl).trans ?_
  refine c_congr (fun _ => ?_) (fun _ => ?_)
  · exact vr_steps 2 rfl
  · refine (vr_steps 3 (x' := (76, [(2, v0), (0, v1), (0, v2), (0, v3), (0, v4), (0, v5), (0, v6)], [(0, v5), (0, v6), (2, v0)], (K, M))) rfl).trans ?_
    exact (v_virt (k := 181) (n := 3) (tag := 7) (r := v0) (av := [(0, v6), (0, v5)]) (code := c_X7_shortest) (pc := 76) (len := 3) (L := [(2, v0), (0, v1), (0, v2), (0, v3), (0, v4), (0, v5), (0, v6)]) (st := [(0, v5), (0, v6), (2, v0)]) rfl (Nat.le_of_ble_eq_true rfl) (Nat.le_of_ble_eq_true rfl) rfl).trans rfl
set_option maxRecDepth 100000 in
theorem e_X7_shortest_79 {sc : dS} {d : Nat} {K : List (Nat × Nat)} {M : dM} {v0 v1 v2 v3 v4 v5 v6 : Int} : vr sc d c_X7_shortest (79, [(2, v0), (0, v1), (0, v2), (0, v3), (0, v4), (0, v5), (0, v6)], [], (K, M)) = (if rg K 7 v0 = true then (vc sc d 149 [(2, v0)] (K, M)).bind (fun r => vr sc d c_X7_shortest (83, [(2, v0), (0, v1), (0, v2), (0, v3), (0, v4), (0, v5), (0, v6)], r.1 ++ [], r.2)) else none) := by
  refine (vr_steps 1 (x' := (80, [(2, v0), (0, v1), (0, v2), (0, v3), (0, v4), (0, v5), (0, v6)], [(2, v0)], (K, M))) rfl).trans ?_
  exact (v_virt (k := 149) (n := 1) (tag := 7) (r := v0) (av := []) (code := c_X7_shortest) (pc := 80) (len := 3) (L := [(2, v0), (0, v1), (0, v2), (0, v3), (0, v4), (0, v5), (0, v6)]) (st := [(2, v0)]) rfl (Nat.le_of_ble_eq_true rfl) (Nat.le_of_ble_eq_true rfl) rfl).trans rfl
set_option maxRecDepth 100000 in
theorem e_X7_shortest_83 {sc : dS} {d : Nat} {K : List (Nat × Nat)} {M : dM} {v0 v1 v2 v3 v4 v5 v6 s0 : Int} : vr sc d c_X7_shortest (83, [(2, v0), (0, v1), (0, v2), (0, v3), (0, v4), (0, v5), (0, v6)], [(0, s0)], (K, M)) = (some ([(0, s0)], (K, M))) := by
  exact vr_ret (ai := (35, 1, 1, 0, [])) rfl rfl

noncomputable def c_X7_lowest : Nat → Option dI := d_mcode m_X7_lowest
set_option maxRecDepth 100000 in
theorem e_X7_lowest_0 {sc : dS} {d : Nat} {K : List (Nat × Nat)} {M : dM} {v0 v2 v4 : Int} {q5 q6 q7 q8 q9 q10 : dV} : vr sc d c_X7_lowest (0, [(1, v0), (3, 0), (1, v2), (3, 0), (0, v4), q5, q6, q7, q8, q9, q10], [], (K, M)) = (vr sc d c_X7_lowest (6, [(1, v0), (3, 0), (1, v2), (3, 0), (0, v4), (1, v0), (3, 0), (1, v2), (3, 0), q9, q10], [], (K, M))) := by
  exact vr_steps 4 rfl
set_option maxRecDepth 100000 in
theorem e_X7_lowest_6 {sc : dS} {d : Nat} {K : List (Nat × Nat)} {M : dM} {v0 v2 v4 v5 v7 : Int} {q9 q10 : dV} : vr sc d c_X7_lowest (6, [(1, v0), (3, 0), (1, v2), (3, 0), (0, v4), (1, v5), (3, 0), (1, v7), (3, 0), q9, q10], [], (K, M)) = (if (i_cmp v7 0) = 0 then (if ¬ v4 = 0 then (if v5 = 0 then none else some ([(1, w64 (v2.tdiv v5))], (K, M))) else (if v5 = 0 then none else some ([(1, w64 (v0.tdiv v5))], (K, M)))) else (if v7 = 0 then none else vr sc d c_X7_lowest (6, [(1, v0), (3, 0), (1, v2), (3, 0), (0, v4), (1, v7), (3, 0), (1, w64 (v5.tmod v7)), (3, 0), (1, w64 (v5.tmod v7)), (3, 0)], [], (K, M)))) := by
  refine (vr_steps 3 (x' := (10, [(1, v0), (3, 0), (1, v2), (3, 0), (0, v4), (1, v5), (3, 0), (1, v7), (3, 0), q9, q10], [(0, i_cmp v7 0)], (K, M))) rfl).trans ?_
  refine (v_if (k := 0) (b := 31) (c := (i_cmp v7 0) = 0) rfl rfl).trans ?_
  refine c_congr (fun _ => ?_) (fun _ => ?_)
  · refine (vr_steps 1 (x' := (33, [(1, v0), (3, 0), (1, v2), (3, 0), (0, v4), (1, v5), (3, 0), (1, v7), (3, 0), q9, q10], [(0, v4)], (K, M))) rfl).trans ?_
    refine (v_if (k := 1) (b := 43) (c := ¬ v4 = 0) rfl rfl).trans ?_
    refine c_congr (fun _ => ?_) (fun _ => ?_)
    · refine (vr_steps 2 (x' := (46, [(1, v0), (3, 0), (1, v2), (3, 0), (0, v4), (1, v5), (3, 0), (1, v7), (3, 0), q9, q10], [(1, v5), (1, v2)], (K, M))) rfl).trans ?_
      refine (v_ldiv (k := 3) (w := w64 (v2.tdiv v5)) rfl rfl).trans ?_
      refine n_congr (fun _ => ?_)
      exact vr_ret (ai := (35, 1, 2, 0, [])) rfl rfl
    · refine (vr_steps 2 (x' := (39, [(1, v0), (3, 0), (1, v2), (3, 0), (0, v4), (1, v5), (3, 0), (1, v7), (3, 0), q9, q10], [(1, v5), (1, v0)], (K, M))) rfl).trans ?_
      refine (v_ldiv (k := 3) (w := w64 (v0.tdiv v5)) rfl rfl).trans ?_
      refine n_congr (fun _ => ?_)
      refine (vr_steps 1 (x' := (47, [(1, v0), (3, 0), (1, v2), (3, 0), (0, v4), (1, v5), (3, 0), (1, v7), (3, 0), q9, q10], [(1, w64 (v0.tdiv v5))], (K, M))) rfl).trans ?_
      exact vr_ret (ai := (35, 1, 2, 0, [])) rfl rfl
  · refine (vr_steps 2 (x' := (17, [(1, v0), (3, 0), (1, v2), (3, 0), (0, v4), (1, v5), (3, 0), (1, v7), (3, 0), q9, q10], [(1, v7), (1, v5)], (K, M))) rfl).trans ?_
    refine (v_ldiv (k := 4) (w := w64 (v5.tmod v7)) rfl rfl).trans ?_
    refine n_congr (fun _ => ?_)
    exact vr_steps 6 rfl

noncomputable def c_X7_share : Nat → Option dI := d_mcode m_X7_share
set_option maxRecDepth 100000 in
theorem e_X7_share_0 {sc : dS} {d : Nat} {K : List (Nat × Nat)} {M : dM} {v0 v1 v2 : Int} {q3 q4 : dV} : vr sc d c_X7_share (0, [(2, v0), (0, v1), (0, v2), q3, q4], [], (K, M)) = (vr sc d c_X7_share (5, [(2, v0), (0, v1), (0, v2), (0, 0), (0, 0)], [], (K, M))) := by
  exact vr_steps 4 rfl
set_option maxRecDepth 100000 in
theorem e_X7_share_5 {sc : dS} {d : Nat} {K : List (Nat × Nat)} {M : dM} {v0 v1 v2 v3 v4 : Int} : vr sc d c_X7_share (5, [(2, v0), (0, v1), (0, v2), (0, v3), (0, v4)], [], (K, M)) = (if og K 7 v0 12 = true then (if (M v0 12) ≤ v4 then (if rg K 7 v0 = true then (vc sc d 118 [(2, v0), (0, v1)] (K, M)).bind (fun r => vr sc d c_X7_share (39, [(2, v0), (0, v1), (0, v2), (0, v3), (0, v4)], r.1 ++ [], r.2)) else none) else (if og K 7 v0 9 = true then (if ag K 8 (M v0 9) (w32 ((w32 (3 * v4)) + 1)) = true then vr sc d c_X7_share (5, [(2, v0), (0, v1), (0, v2), (0, w32 (v3 + (M (M v0 9) (w32 ((w32 (3 * v4)) + 1))))), (0, w32 (v4 + 1))], [], (K, M)) else none) else none)) else none) := by
  refine (vr_steps 2 (x' := (8, [(2, v0), (0, v1), (0, v2), (0, v3), (0, v4)], [(2, v0), (0, v4)], (K, M))) rfl).trans ?_
  refine (v_getf (a := 7) (b := 12) (t := 0) rfl rfl).trans ?_
  refine g_congr (fun _ => ?_)
  refine (v_icmp (k := 3) (b := 34) (c := (M v0 12) ≤ v4) rfl rfl).trans ?_
  refine c_congr (fun _ => ?_) (fun _ => ?_)
  · refine (vr_steps 2 (x' := (36, [(2, v0), (0, v1), (0, v2), (0, v3), (0, v4)], [(0, v1), (2, v0)], (K, M))) rfl).trans ?_
    exact (v_virt (k := 118) (n := 2) (tag := 7) (r := v0) (av := [(0, v1)]) (code := c_X7_share) (pc := 36) (len := 3) (L := [(2, v0), (0, v1), (0, v2), (0, v3), (0, v4)]) (st := [(0, v1), (2, v0)]) rfl (Nat.le_of_ble_eq_true rfl) (Nat.le_of_ble_eq_true rfl) rfl).trans rfl
  · refine (vr_steps 2 (x' := (16, [(2, v0), (0, v1), (0, v2), (0, v3), (0, v4)], [(2, v0), (0, v3)], (K, M))) rfl).trans ?_
    refine (v_getf (a := 7) (b := 9) (t := 2) rfl rfl).trans ?_
    refine g_congr (fun _ => ?_)
    refine (vr_steps 5 (x' := (25, [(2, v0), (0, v1), (0, v2), (0, v3), (0, v4)], [(0, w32 ((w32 (3 * v4)) + 1)), (2, M v0 9), (0, v3)], (K, M))) rfl).trans ?_
    refine (v_ald (a := 8) rfl (by decide)).trans ?_
    refine g_congr (fun _ => ?_)
    exact vr_steps 4 rfl
set_option maxRecDepth 100000 in
theorem e_X7_share_39 {sc : dS} {d : Nat} {K : List (Nat × Nat)} {M : dM} {v0 v1 v2 v3 v4 s0 : Int} : vr sc d c_X7_share (39, [(2, v0), (0, v1), (0, v2), (0, v3), (0, v4)], [(0, s0)], (K, M)) = (if s0 = 0 then some ([(1, (-4611686018427387904))], (K, M)) else (vc sc d 114 [(1, v2), (1, 0), (1, 1)] (K, M)).bind (fun r => vr sc d c_X7_share (49, [(2, v0), (0, v1), (0, v2), (0, v3), (0, v4)], r.1 ++ [], r.2))) := by
  refine (v_if (k := 0) (b := 76) (c := s0 = 0) rfl rfl).trans ?_
  refine c_congr (fun _ => ?_) (fun _ => ?_)
  · refine (vr_steps 1 (x' := (79, [(2, v0), (0, v1), (0, v2), (0, v3), (0, v4)], [(1, (-4611686018427387904))], (K, M))) rfl).trans ?_
    exact vr_ret (ai := (35, 1, 2, 0, [])) rfl rfl
  · refine (vr_steps 4 (x' := (46, [(2, v0), (0, v1), (0, v2), (0, v3), (0, v4)], [(1, 1), (1, 0), (1, v2)], (K, M))) rfl).trans ?_
    exact (v_stat (k := 114) (n := 3) (code := c_X7_share) (pc := 46) (len := 3) (L := [(2, v0), (0, v1), (0, v2), (0, v3), (0, v4)]) (st := [(1, 1), (1, 0), (1, v2)]) rfl (Nat.le_of_ble_eq_true rfl) (Nat.le_of_ble_eq_true rfl)).trans rfl
set_option maxRecDepth 100000 in
theorem e_X7_share_49 {sc : dS} {d : Nat} {K : List (Nat × Nat)} {M : dM} {v0 v1 v2 v3 v4 s0 : Int} : vr sc d c_X7_share (49, [(2, v0), (0, v1), (0, v2), (0, v3), (0, v4)], [(0, s0)], (K, M)) = (if s0 = 0 then some ([(1, (-4611686018427387904))], (K, M)) else (if v3 ≤ 0 then some ([(1, (-4611686018427387904))], (K, M)) else (if og K 7 v0 9 = true then (if ag K 8 (M v0 9) (w32 ((w32 (3 * v1)) + 1)) = true then (vc sc d 184 [(1, M (M v0 9) (w32 ((w32 (3 * v1)) + 1))), (1, v3), (0, v2)] (K, M)).bind (fun r => vr sc d c_X7_share (73, [(2, v0), (0, v1), (0, v2), (0, v3), (0, v4)], r.1 ++ [], r.2)) else none) else none))) := by
  refine (v_if (k := 0) (b := 76) (c := s0 = 0) rfl rfl).trans ?_
  refine c_congr (fun _ => ?_) (fun _ => ?_)
  · refine (vr_steps 1 (x' := (79, [(2, v0), (0, v1), (0, v2), (0, v3), (0, v4)], [(1, (-4611686018427387904))], (K, M))) rfl).trans ?_
    exact vr_ret (ai := (35, 1, 2, 0, [])) rfl rfl
  · refine (vr_steps 1 (x' := (53, [(2, v0), (0, v1), (0, v2), (0, v3), (0, v4)], [(0, v3)], (K, M))) rfl).trans ?_
    refine (v_if (k := 5) (b := 76) (c := v3 ≤ 0) rfl rfl).trans ?_
    refine c_congr (fun _ => ?_) (fun _ => ?_)
    · refine (vr_steps 1 (x' := (79, [(2, v0), (0, v1), (0, v2), (0, v3), (0, v4)], [(1, (-4611686018427387904))], (K, M))) rfl).trans ?_
      exact vr_ret (ai := (35, 1, 2, 0, [])) rfl rfl
    · refine (vr_steps 1 (x' := (57, [(2, v0), (0, v1), (0, v2), (0, v3), (0, v4)], [(2, v0)], (K, M))) rfl).trans ?_
      refine (v_getf (a := 7) (b := 9) (t := 2) rfl rfl).trans ?_
      refine g_congr (fun _ => ?_)
      refine (vr_steps 5 (x' := (65, [(2, v0), (0, v1), (0, v2), (0, v3), (0, v4)], [(0, w32 ((w32 (3 * v1)) + 1)), (2, M v0 9)], (K, M))) rfl).trans ?_
      refine (v_ald (a := 8) rfl (by decide)).trans ?_
      refine g_congr (fun _ => ?_)
      refine (vr_steps 4 (x' := (70, [(2, v0), (0, v1), (0, v2), (0, v3), (0, v4)], [(0, v2), (1, v3), (1, M (M v0 9) (w32 ((w32 (3 * v1)) + 1)))], (K, M))) rfl).trans ?_
      exact (v_stat (k := 184) (n := 3) (code := c_X7_share) (pc := 70) (len := 3) (L := [(2, v0), (0, v1), (0, v2), (0, v3), (0, v4)]) (st := [(0, v2), (1, v3), (1, M (M v0 9) (w32 ((w32 (3 * v1)) + 1)))]) rfl (Nat.le_of_ble_eq_true rfl) (Nat.le_of_ble_eq_true rfl)).trans rfl
set_option maxRecDepth 100000 in
theorem e_X7_share_73 {sc : dS} {d : Nat} {K : List (Nat × Nat)} {M : dM} {v0 v1 v2 v3 v4 s0 : Int} : vr sc d c_X7_share (73, [(2, v0), (0, v1), (0, v2), (0, v3), (0, v4)], [(1, s0)], (K, M)) = (some ([(1, s0)], (K, M))) := by
  refine (vr_steps 1 (x' := (79, [(2, v0), (0, v1), (0, v2), (0, v3), (0, v4)], [(1, s0)], (K, M))) rfl).trans ?_
  exact vr_ret (ai := (35, 1, 2, 0, [])) rfl rfl

noncomputable def c_X7_firstOther : Nat → Option dI := d_mcode m_X7_firstOther
set_option maxRecDepth 100000 in
theorem e_X7_firstOther_0 {sc : dS} {d : Nat} {K : List (Nat × Nat)} {M : dM} {v0 v1 v2 : Int} {q3 : dV} : vr sc d c_X7_firstOther (0, [(2, v0), (0, v1), (0, v2), q3], [], (K, M)) = (vr sc d c_X7_firstOther (2, [(2, v0), (0, v1), (0, v2), (0, 0)], [], (K, M))) := by
  exact vr_steps 2 rfl
set_option maxRecDepth 100000 in
theorem e_X7_firstOther_2 {sc : dS} {d : Nat} {K : List (Nat × Nat)} {M : dM} {v0 v1 v2 v3 : Int} : vr sc d c_X7_firstOther (2, [(2, v0), (0, v1), (0, v2), (0, v3)], [], (K, M)) = (if og K 7 v0 44 = true then (if ag K 8 (M v0 44) v1 = true then (if (M (M v0 44) v1) ≤ v3 then some ([(0, (-1))], (K, M)) else (if rg K 7 v0 = true then (vc sc d 164 [(2, v0), (0, v2), (0, 0), (0, v3)] (K, M)).bind (fun r => vr sc d c_X7_firstOther (19, [(2, v0), (0, v1), (0, v2), (0, v3)], r.1 ++ [], r.2)) else none)) else none) else none) := by
  refine (vr_steps 2 (x' := (4, [(2, v0), (0, v1), (0, v2), (0, v3)], [(2, v0), (0, v3)], (K, M))) rfl).trans ?_
  refine (v_getf (a := 7) (b := 44) (t := 2) rfl rfl).trans ?_
  refine g_congr (fun _ => ?_)
  refine (vr_steps 1 (x' := (8, [(2, v0), (0, v1), (0, v2), (0, v3)], [(0, v1), (2, M v0 44), (0, v3)], (K, M))) rfl).trans ?_
  refine (v_ald (a := 8) rfl (by decide)).trans ?_
  refine g_congr (fun _ => ?_)
  refine (v_icmp (k := 3) (b := 41) (c := (M (M v0 44) v1) ≤ v3) rfl rfl).trans ?_
  refine c_congr (fun _ => ?_) (fun _ => ?_)
  · refine (vr_steps 1 (x' := (42, [(2, v0), (0, v1), (0, v2), (0, v3)], [(0, (-1))], (K, M))) rfl).trans ?_
    exact vr_ret (ai := (35, 1, 1, 0, [])) rfl rfl
  · refine (vr_steps 4 (x' := (16, [(2, v0), (0, v1), (0, v2), (0, v3)], [(0, v3), (0, 0), (0, v2), (2, v0)], (K, M))) rfl).trans ?_
    exact (v_virt (k := 164) (n := 4) (tag := 7) (r := v0) (av := [(0, v2), (0, 0), (0, v3)]) (code := c_X7_firstOther) (pc := 16) (len := 3) (L := [(2, v0), (0, v1), (0, v2), (0, v3)]) (st := [(0, v3), (0, 0), (0, v2), (2, v0)]) rfl (Nat.le_of_ble_eq_true rfl) (Nat.le_of_ble_eq_true rfl) rfl).trans rfl
set_option maxRecDepth 100000 in
theorem e_X7_firstOther_19 {sc : dS} {d : Nat} {K : List (Nat × Nat)} {M : dM} {v0 v1 v2 v3 s0 : Int} : vr sc d c_X7_firstOther (19, [(2, v0), (0, v1), (0, v2), (0, v3)], [(0, s0)], (K, M)) = (if og K 7 v0 45 = true then (if ag K 8 (M v0 45) (w32 ((w32 (40 * v1)) + v3)) = true then (if s0 = (M (M v0 45) (w32 ((w32 (40 * v1)) + v3))) then vr sc d c_X7_firstOther (2, [(2, v0), (0, v1), (0, v2), (0, w32 (v3 + 1))], [], (K, M)) else some ([(0, v3)], (K, M))) else none) else none) := by
  refine (vr_steps 1 (x' := (20, [(2, v0), (0, v1), (0, v2), (0, v3)], [(2, v0), (0, s0)], (K, M))) rfl).trans ?_
  refine (v_getf (a := 7) (b := 45) (t := 2) rfl rfl).trans ?_
  refine g_congr (fun _ => ?_)
  refine (vr_steps 5 (x' := (29, [(2, v0), (0, v1), (0, v2), (0, v3)], [(0, w32 ((w32 (40 * v1)) + v3)), (2, M v0 45), (0, s0)], (K, M))) rfl).trans ?_
  refine (v_ald (a := 8) rfl (by decide)).trans ?_
  refine g_congr (fun _ => ?_)
  refine (v_icmp (k := 0) (b := 35) (c := s0 = (M (M v0 45) (w32 ((w32 (40 * v1)) + v3)))) rfl rfl).trans ?_
  refine c_congr (fun _ => ?_) (fun _ => ?_)
  · exact vr_steps 2 rfl
  · refine (vr_steps 1 (x' := (34, [(2, v0), (0, v1), (0, v2), (0, v3)], [(0, v3)], (K, M))) rfl).trans ?_
    exact vr_ret (ai := (35, 1, 1, 0, [])) rfl rfl

noncomputable def c_X7_likeSet : Nat → Option dI := d_mcode m_X7_likeSet
set_option maxRecDepth 100000 in
theorem e_X7_likeSet_0 {sc : dS} {d : Nat} {K : List (Nat × Nat)} {M : dM} {v0 v1 : Int} {q2 q3 : dV} : vr sc d c_X7_likeSet (0, [(2, v0), (0, v1), q2, q3], [], (K, M)) = (vr sc d c_X7_likeSet (4, [(2, v0), (0, v1), (0, 0), (0, 0)], [], (K, M))) := by
  exact vr_steps 4 rfl
set_option maxRecDepth 100000 in
theorem e_X7_likeSet_4 {sc : dS} {d : Nat} {K : List (Nat × Nat)} {M : dM} {v0 v1 v2 v3 : Int} : vr sc d c_X7_likeSet (4, [(2, v0), (0, v1), (0, v2), (0, v3)], [], (K, M)) = (if og K 7 v0 12 = true then (if (M v0 12) ≤ v3 then some ([(0, v2)], (K, M)) else (if rg K 7 v0 = true then (vc sc d 186 [(2, v0), (0, v1), (0, v3)] (K, M)).bind (fun r => vr sc d c_X7_likeSet (19, [(2, v0), (0, v1), (0, v2), (0, v3)], r.1 ++ [(0, v2)], r.2)) else none)) else none) := by
  refine (vr_steps 2 (x' := (6, [(2, v0), (0, v1), (0, v2), (0, v3)], [(2, v0), (0, v3)], (K, M))) rfl).trans ?_
  refine (v_getf (a := 7) (b := 12) (t := 0) rfl rfl).trans ?_
  refine g_congr (fun _ => ?_)
  refine (v_icmp (k := 3) (b := 38) (c := (M v0 12) ≤ v3) rfl rfl).trans ?_
  refine c_congr (fun _ => ?_) (fun _ => ?_)
  · refine (vr_steps 1 (x' := (39, [(2, v0), (0, v1), (0, v2), (0, v3)], [(0, v2)], (K, M))) rfl).trans ?_
    exact vr_ret (ai := (35, 1, 1, 0, [])) rfl rfl
  · refine (vr_steps 4 (x' := (16, [(2, v0), (0, v1), (0, v2), (0, v3)], [(0, v3), (0, v1), (2, v0), (0, v2)], (K, M))) rfl).trans ?_
    exact (v_virt (k := 186) (n := 3) (tag := 7) (r := v0) (av := [(0, v1), (0, v3)]) (code := c_X7_likeSet) (pc := 16) (len := 3) (L := [(2, v0), (0, v1), (0, v2), (0, v3)]) (st := [(0, v3), (0, v1), (2, v0), (0, v2)]) rfl (Nat.le_of_ble_eq_true rfl) (Nat.le_of_ble_eq_true rfl) rfl).trans rfl
set_option maxRecDepth 100000 in
theorem e_X7_likeSet_19 {sc : dS} {d : Nat} {K : List (Nat × Nat)} {M : dM} {v0 v1 v2 v3 s0 s1 : Int} : vr sc d c_X7_likeSet (19, [(2, v0), (0, v1), (0, v2), (0, v3)], [(0, s1), (0, s0)], (K, M)) = (if ¬ s1 = (-1) then vr sc d c_X7_likeSet (4, [(2, v0), (0, v1), (0, i_or s0 (i_shl 0 v3)), (0, w32 (v3 + 1))], [], (K, M)) else vr sc d c_X7_likeSet (4, [(2, v0), (0, v1), (0, i_or s0 (i_shl 1 v3)), (0, w32 (v3 + 1))], [], (K, M))) := by
  refine (vr_steps 1 (x' := (20, [(2, v0), (0, v1), (0, v2), (0, v3)], [(0, (-1)), (0, s1), (0, s0)], (K, M))) rfl).trans ?_
  refine (v_icmp (k := 1) (b := 27) (c := ¬ s1 = (-1)) rfl rfl).trans ?_
  refine c_congr (fun _ => ?_) (fun _ => ?_)
  · exact vr_steps 7 rfl
  · exact vr_steps 8 rfl

