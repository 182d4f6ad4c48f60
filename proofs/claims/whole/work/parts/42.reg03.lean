noncomputable def c_X7_lad : Nat → Option dI := d_mcode m_X7_lad
set_option maxRecDepth 100000 in
theorem e_X7_lad_0 {sc : dS} {d : Nat} {K : List (Nat × Nat)} {M : dM} {v0 v1 v2 : Int} : vr sc d c_X7_lad (0, [(2, v0), (0, v1), (0, v2)], [], (K, M)) = ((vc sc d 114 [(1, v1), (1, 0), (1, 5)] (K, M)).bind (fun r => vr sc d c_X7_lad (9, [(2, v0), (0, v1), (0, v2)], r.1 ++ [], r.2))) := by
  refine (vr_steps 4 (x' := (6, [(2, v0), (0, v1), (0, v2)], [(1, 5), (1, 0), (1, v1)], (K, M))) rfl).trans ?_
  exact (v_stat (k := 114) (n := 3) (code := c_X7_lad) (pc := 6) (len := 3) (L := [(2, v0), (0, v1), (0, v2)]) (st := [(1, 5), (1, 0), (1, v1)]) rfl (Nat.le_of_ble_eq_true rfl) (Nat.le_of_ble_eq_true rfl)).trans rfl
set_option maxRecDepth 100000 in
theorem e_X7_lad_9 {sc : dS} {d : Nat} {K : List (Nat × Nat)} {M : dM} {v0 v1 v2 s0 : Int} : vr sc d c_X7_lad (9, [(2, v0), (0, v1), (0, v2)], [(0, s0)], (K, M)) = (if s0 = 0 then some ([(0, (-2))], (K, M)) else (vc sc d 114 [(1, v2), (1, 0), (1, 9)] (K, M)).bind (fun r => vr sc d c_X7_lad (21, [(2, v0), (0, v1), (0, v2)], r.1 ++ [], r.2))) := by
  refine (v_if (k := 0) (b := 24) (c := s0 = 0) rfl rfl).trans ?_
  refine c_congr (fun _ => ?_) (fun _ => ?_)
  · refine (vr_steps 1 (x' := (26, [(2, v0), (0, v1), (0, v2)], [(0, (-2))], (K, M))) rfl).trans ?_
    exact vr_ret (ai := (35, 1, 1, 0, [])) rfl rfl
  · refine (vr_steps 4 (x' := (18, [(2, v0), (0, v1), (0, v2)], [(1, 9), (1, 0), (1, v2)], (K, M))) rfl).trans ?_
    exact (v_stat (k := 114) (n := 3) (code := c_X7_lad) (pc := 18) (len := 3) (L := [(2, v0), (0, v1), (0, v2)]) (st := [(1, 9), (1, 0), (1, v2)]) rfl (Nat.le_of_ble_eq_true rfl) (Nat.le_of_ble_eq_true rfl)).trans rfl
set_option maxRecDepth 100000 in
theorem e_X7_lad_21 {sc : dS} {d : Nat} {K : List (Nat × Nat)} {M : dM} {v0 v1 v2 s0 : Int} : vr sc d c_X7_lad (21, [(2, v0), (0, v1), (0, v2)], [(0, s0)], (K, M)) = (if ¬ s0 = 0 then (if og K 7 v0 12 = true then (if ¬ (M v0 12) = 5 then (if og K 7 v0 9 = true then (if og K 7 v0 12 = true then (if ag K 8 (M v0 9) (w32 (3 * (M v0 12))) = true then (if og K 7 v0 9 = true then (if og K 7 v0 12 = true then (if ag K 8 ((d_up M (M v0 9) (w32 (3 * (M v0 12))) v2) v0 9) (w32 ((w32 (3 * ((d_up M (M v0 9) (w32 (3 * (M v0 12))) v2) v0 12))) + 1)) = true then (if og K 7 v0 9 = true then (if og K 7 v0 12 = true then (if ag K 8 ((d_up (d_up M (M v0 9) (w32 (3 * (M v0 12))) v2) ((d_up M (M v0 9) (w32 (3 * (M v0 12))) v2) v0 9) (w32 ((w32 (3 * ((d_up M (M v0 9) (w32 (3 * (M v0 12))) v2) v0 12))) + 1)) 10) v0 9) (w32 ((w32 (3 * ((d_up (d_up M (M v0 9) (w32 (3 * (M v0 12))) v2) ((d_up M (M v0 9) (w32 (3 * (M v0 12))) v2) v0 9) (w32 ((w32 (3 * ((d_up M (M v0 9) (w32 (3 * (M v0 12))) v2) v0 12))) + 1)) 10) v0 12))) + 2)) = true then (if og K 7 v0 12 = true then (if og K 7 v0 12 = true then (if -2147483648 ≤ (w32 (((d_up (d_up (d_up M (M v0 9) (w32 (3 * (M v0 12))) v2) ((d_up M (M v0 9) (w32 (3 * (M v0 12))) v2) v0 9) (w32 ((w32 (3 * ((d_up M (M v0 9) (w32 (3 * (M v0 12))) v2) v0 12))) + 1)) 10) ((d_up (d_up M (M v0 9) (w32 (3 * (M v0 12))) v2) ((d_up M (M v0 9) (w32 (3 * (M v0 12))) v2) v0 9) (w32 ((w32 (3 * ((d_up M (M v0 9) (w32 (3 * (M v0 12))) v2) v0 12))) + 1)) 10) v0 9) (w32 ((w32 (3 * ((d_up (d_up M (M v0 9) (w32 (3 * (M v0 12))) v2) ((d_up M (M v0 9) (w32 (3 * (M v0 12))) v2) v0 9) (w32 ((w32 (3 * ((d_up M (M v0 9) (w32 (3 * (M v0 12))) v2) v0 12))) + 1)) 10) v0 12))) + 2)) v1) v0 12) + 1)) ∧ (w32 (((d_up (d_up (d_up M (M v0 9) (w32 (3 * (M v0 12))) v2) ((d_up M (M v0 9) (w32 (3 * (M v0 12))) v2) v0 9) (w32 ((w32 (3 * ((d_up M (M v0 9) (w32 (3 * (M v0 12))) v2) v0 12))) + 1)) 10) ((d_up (d_up M (M v0 9) (w32 (3 * (M v0 12))) v2) ((d_up M (M v0 9) (w32 (3 * (M v0 12))) v2) v0 9) (w32 ((w32 (3 * ((d_up M (M v0 9) (w32 (3 * (M v0 12))) v2) v0 12))) + 1)) 10) v0 9) (w32 ((w32 (3 * ((d_up (d_up M (M v0 9) (w32 (3 * (M v0 12))) v2) ((d_up M (M v0 9) (w32 (3 * (M v0 12))) v2) v0 9) (w32 ((w32 (3 * ((d_up M (M v0 9) (w32 (3 * (M v0 12))) v2) v0 12))) + 1)) 10) v0 12))) + 2)) v1) v0 12) + 1)) < 2147483648 then (if og K 7 v0 12 = true then some ([(0, w32 (((d_up (d_up (d_up (d_up M (M v0 9) (w32 (3 * (M v0 12))) v2) ((d_up M (M v0 9) (w32 (3 * (M v0 12))) v2) v0 9) (w32 ((w32 (3 * ((d_up M (M v0 9) (w32 (3 * (M v0 12))) v2) v0 12))) + 1)) 10) ((d_up (d_up M (M v0 9) (w32 (3 * (M v0 12))) v2) ((d_up M (M v0 9) (w32 (3 * (M v0 12))) v2) v0 9) (w32 ((w32 (3 * ((d_up M (M v0 9) (w32 (3 * (M v0 12))) v2) v0 12))) + 1)) 10) v0 9) (w32 ((w32 (3 * ((d_up (d_up M (M v0 9) (w32 (3 * (M v0 12))) v2) ((d_up M (M v0 9) (w32 (3 * (M v0 12))) v2) v0 9) (w32 ((w32 (3 * ((d_up M (M v0 9) (w32 (3 * (M v0 12))) v2) v0 12))) + 1)) 10) v0 12))) + 2)) v1) v0 12 (w32 (((d_up (d_up (d_up M (M v0 9) (w32 (3 * (M v0 12))) v2) ((d_up M (M v0 9) (w32 (3 * (M v0 12))) v2) v0 9) (w32 ((w32 (3 * ((d_up M (M v0 9) (w32 (3 * (M v0 12))) v2) v0 12))) + 1)) 10) ((d_up (d_up M (M v0 9) (w32 (3 * (M v0 12))) v2) ((d_up M (M v0 9) (w32 (3 * (M v0 12))) v2) v0 9) (w32 ((w32 (3 * ((d_up M (M v0 9) (w32 (3 * (M v0 12))) v2) v0 12))) + 1)) 10) v0 9) (w32 ((w32 (3 * ((d_up (d_up M (M v0 9) (w32 (3 * (M v0 12))) v2) ((d_up M (M v0 9) (w32 (3 * (M v0 12))) v2) v0 9) (w32 ((w32 (3 * ((d_up M (M v0 9) (w32 (3 * (M v0 12))) v2) v0 12))) + 1)) 10) v0 12))) + 2)) v1) v0 12) + 1))) v0 12) - 1))], (K, d_up (d_up (d_up (d_up M (M v0 9) (w32 (3 * (M v0 12))) v2) ((d_up M (M v0 9) (w32 (3 * (M v0 12))) v2) v0 9) (w32 ((w32 (3 * ((d_up M (M v0 9) (w32 (3 * (M v0 12))) v2) v0 12))) + 1)) 10) ((d_up (d_up M (M v0 9) (w32 (3 * (M v0 12))) v2) ((d_up M (M v0 9) (w32 (3 * (M v0 12))) v2) v0 9) (w32 ((w32 (3 * ((d_up M (M v0 9) (w32 (3 * (M v0 12))) v2) v0 12))) + 1)) 10) v0 9) (w32 ((w32 (3 * ((d_up (d_up M (M v0 9) (w32 (3 * (M v0 12))) v2) ((d_up M (M v0 9) (w32 (3 * (M v0 12))) v2) v0 9) (w32 ((w32 (3 * ((d_up M (M v0 9) (w32 (3 * (M v0 12))) v2) v0 12))) + 1)) 10) v0 12))) + 2)) v1) v0 12 (w32 (((d_up (d_up (d_up M (M v0 9) (w32 (3 * (M v0 12))) v2) ((d_up M (M v0 9) (w32 (3 * (M v0 12))) v2) v0 9) (w32 ((w32 (3 * ((d_up M (M v0 9) (w32 (3 * (M v0 12))) v2) v0 12))) + 1)) 10) ((d_up (d_up M (M v0 9) (w32 (3 * (M v0 12))) v2) ((d_up M (M v0 9) (w32 (3 * (M v0 12))) v2) v0 9) (w32 ((w32 (3 * ((d_up M (M v0 9) (w32 (3 * (M v0 12))) v2) v0 12))) + 1)) 10) v0 9) (w32 ((w32 (3 * ((d_up (d_up M (M v0 9) (w32 (3 * (M v0 12))) v2) ((d_up M (M v0 9) (w32 (3 * (M v0 12))) v2) v0 9) (w32 ((w32 (3 * ((d_up M (M v0 9) (w32 (3 * (M v0 12))) v2) v0 12))) + 1)) 10) v0 12))) + 2)) v1) v0 12) + 1)))) else none) else none) else none) else none) else none) else none) else none) else none) else none) else none) else none) else none) else none) else some ([(0, (-4))], (K, M))) else none) else some ([(0, (-2))], (K, M))) := by
  refine (v_if (k := 1) (b := 27) (c := ¬ s0 = 0) rfl rfl).trans ?_
  refine c_congr (fun _ => ?_) (fun _ => ?_)
  · refine (vr_steps 1 (x' := (28, [(2, v0), (0, v1), (0, v2)], [(2, v0)], (K, M))) rfl).trans ?_
    refine (v_getf (a := 7) (b := 12) (t := 0) rfl rfl).trans ?_
    refine g_congr (fun _ => ?_)
    refine (vr_steps 1 (x' := (32, [(2, v0), (0, v1), (0, v2)], [(0, 5), (0, M v0 12)], (K, M))) rfl).trans ?_
    refine (v_icmp (k := 1) (b := 38) (c := ¬ (M v0 12) = 5) rfl rfl).trans ?_
    refine c_congr (fun _ => ?_) (fun _ => ?_)
    · refine (vr_steps 1 (x' := (39, [(2, v0), (0, v1), (0, v2)], [(2, v0)], (K, M))) rfl).trans ?_
      refine (v_getf (a := 7) (b := 9) (t := 2) rfl rfl).trans ?_
      refine g_congr (fun _ => ?_)
      refine (vr_steps 2 (x' := (44, [(2, v0), (0, v1), (0, v2)], [(2, v0), (0, 3), (2, M v0 9)], (K, M))) rfl).trans ?_
      refine (v_getf (a := 7) (b := 12) (t := 0) rfl rfl).trans ?_
      refine g_congr (fun _ => ?_)
      refine (vr_steps 2 (x' := (49, [(2, v0), (0, v1), (0, v2)], [(0, v2), (0, w32 (3 * (M v0 12))), (2, M v0 9)], (K, M))) rfl).trans ?_
      refine (v_ast rfl).trans ?_
      refine g_congr (fun _ => ?_)
      refine (vr_steps 1 (x' := (51, [(2, v0), (0, v1), (0, v2)], [(2, v0)], (K, d_up M (M v0 9) (w32 (3 * (M v0 12))) v2))) rfl).trans ?_
      refine (v_getf (a := 7) (b := 9) (t := 2) rfl rfl).trans ?_
      refine g_congr (fun _ => ?_)
      refine (vr_steps 2 (x' := (56, [(2, v0), (0, v1), (0, v2)], [(2, v0), (0, 3), (2, (d_up M (M v0 9) (w32 (3 * (M v0 12))) v2) v0 9)], (K, d_up M (M v0 9) (w32 (3 * (M v0 12))) v2))) rfl).trans ?_
      refine (v_getf (a := 7) (b := 12) (t := 0) rfl rfl).trans ?_
      refine g_congr (fun _ => ?_)
      refine (vr_steps 4 (x' := (64, [(2, v0), (0, v1), (0, v2)], [(0, 10), (0, w32 ((w32 (3 * ((d_up M (M v0 9) (w32 (3 * (M v0 12))) v2) v0 12))) + 1)), (2, (d_up M (M v0 9) (w32 (3 * (M v0 12))) v2) v0 9)], (K, d_up M (M v0 9) (w32 (3 * (M v0 12))) v2))) rfl).trans ?_
      refine (v_ast rfl).trans ?_
      refine g_congr (fun _ => ?_)
      refine (vr_steps 1 (x' := (66, [(2, v0), (0, v1), (0, v2)], [(2, v0)], (K, d_up (d_up M (M v0 9) (w32 (3 * (M v0 12))) v2) ((d_up M (M v0 9) (w32 (3 * (M v0 12))) v2) v0 9) (w32 ((w32 (3 * ((d_up M (M v0 9) (w32 (3 * (M v0 12))) v2) v0 12))) + 1)) 10))) rfl).trans ?_
      refine (v_getf (a := 7) (b := 9) (t := 2) rfl rfl).trans ?_
      refine g_congr (fun _ => ?_)
      refine (vr_steps 2 (x' := (71, [(2, v0), (0, v1), (0, v2)], [(2, v0), (0, 3), (2, (d_up (d_up M (M v0 9) (w32 (3 * (M v0 12))) v2) ((d_up M (M v0 9) (w32 (3 * (M v0 12))) v2) v0 9) (w32 ((w32 (3 * ((d_up M (M v0 9) (w32 (3 * (M v0 12))) v2) v0 12))) + 1)) 10) v0 9)], (K, d_up (d_up M (M v0 9) (w32 (3 * (M v0 12))) v2) ((d_up M (M v0 9) (w32 (3 * (M v0 12))) v2) v0 9) (w32 ((w32 (3 * ((d_up M (M v0 9) (w32 (3 * (M v0 12))) v2) v0 12))) + 1)) 10))) rfl).trans ?_
      refine (v_getf (a := 7) (b := 12) (t := 0) rfl rfl).trans ?_
      refine g_congr (fun _ => ?_)
      refine (vr_steps 4 (x' := (78, [(2, v0), (0, v1), (0, v2)], [(0, v1), (0, w32 ((w32 (3 * ((d_up (d_up M (M v0 9) (w32 (3 * (M v0 12))) v2) ((d_up M (M v0 9) (w32 (3 * (M v0 12))) v2) v0 9) (w32 ((w32 (3 * ((d_up M (M v0 9) (w32 (3 * (M v0 12))) v2) v0 12))) + 1)) 10) v0 12))) + 2)), (2, (d_up (d_up M (M v0 9) (w32 (3 * (M v0 12))) v2) ((d_up M (M v0 9) (w32 (3 * (M v0 12))) v2) v0 9) (w32 ((w32 (3 * ((d_up M (M v0 9) (w32 (3 * (M v0 12))) v2) v0 12))) + 1)) 10) v0 9)], (K, d_up (d_up M (M v0 9) (w32 (3 * (M v0 12))) v2) ((d_up M (M v0 9) (w32 (3 * (M v0 12))) v2) v0 9) (w32 ((w32 (3 * ((d_up M (M v0 9) (w32 (3 * (M v0 12))) v2) v0 12))) + 1)) 10))) rfl).trans ?_
      refine (v_ast rfl).trans ?_
      refine g_congr (fun _ => ?_)
      refine (vr_steps 2 (x' := (81, [(2, v0), (0, v1), (0, v2)], [(2, v0), (2, v0)], (K, d_up (d_up (d_up M (M v0 9) (w32 (3 * (M v0 12))) v2) ((d_up M (M v0 9) (w32 (3 * (M v0 12))) v2) v0 9) (w32 ((w32 (3 * ((d_up M (M v0 9) (w32 (3 * (M v0 12))) v2) v0 12))) + 1)) 10) ((d_up (d_up M (M v0 9) (w32 (3 * (M v0 12))) v2) ((d_up M (M v0 9) (w32 (3 * (M v0 12))) v2) v0 9) (w32 ((w32 (3 * ((d_up M (M v0 9) (w32 (3 * (M v0 12))) v2) v0 12))) + 1)) 10) v0 9) (w32 ((w32 (3 * ((d_up (d_up M (M v0 9) (w32 (3 * (M v0 12))) v2) ((d_up M (M v0 9) (w32 (3 * (M v0 12))) v2) v0 9) (w32 ((w32 (3 * ((d_up M (M v0 9) (w32 (3 * (M v0 12))) v2) v0 12))) + 1)) 10) v0 12))) + 2)) v1))) rfl).trans ?_
      refine (v_getf (a := 7) (b := 12) (t := 0) rfl rfl).trans ?_
      refine g_congr (fun _ => ?_)
      refine (vr_steps 2 (x' := (86, [(2, v0), (0, v1), (0, v2)], [(0, w32 (((d_up (d_up (d_up M (M v0 9) (w32 (3 * (M v0 12))) v2) ((d_up M (M v0 9) (w32 (3 * (M v0 12))) v2) v0 9) (w32 ((w32 (3 * ((d_up M (M v0 9) (w32 (3 * (M v0 12))) v2) v0 12))) + 1)) 10) ((d_up (d_up M (M v0 9) (w32 (3 * (M v0 12))) v2) ((d_up M (M v0 9) (w32 (3 * (M v0 12))) v2) v0 9) (w32 ((w32 (3 * ((d_up M (M v0 9) (w32 (3 * (M v0 12))) v2) v0 12))) + 1)) 10) v0 9) (w32 ((w32 (3 * ((d_up (d_up M (M v0 9) (w32 (3 * (M v0 12))) v2) ((d_up M (M v0 9) (w32 (3 * (M v0 12))) v2) v0 9) (w32 ((w32 (3 * ((d_up M (M v0 9) (w32 (3 * (M v0 12))) v2) v0 12))) + 1)) 10) v0 12))) + 2)) v1) v0 12) + 1)), (2, v0)], (K, d_up (d_up (d_up M (M v0 9) (w32 (3 * (M v0 12))) v2) ((d_up M (M v0 9) (w32 (3 * (M v0 12))) v2) v0 9) (w32 ((w32 (3 * ((d_up M (M v0 9) (w32 (3 * (M v0 12))) v2) v0 12))) + 1)) 10) ((d_up (d_up M (M v0 9) (w32 (3 * (M v0 12))) v2) ((d_up M (M v0 9) (w32 (3 * (M v0 12))) v2) v0 9) (w32 ((w32 (3 * ((d_up M (M v0 9) (w32 (3 * (M v0 12))) v2) v0 12))) + 1)) 10) v0 9) (w32 ((w32 (3 * ((d_up (d_up M (M v0 9) (w32 (3 * (M v0 12))) v2) ((d_up M (M v0 9) (w32 (3 * (M v0 12))) v2) v0 9) (w32 ((w32 (3 * ((d_up M (M v0 9) (w32 (3 * (M v0 12))) v2) v0 12))) + 1)) 10) v0 12))) + 2)) v1))) rfl).trans ?_
      refine (v_putf (a := 7) (b := 12) (t := 0) rfl rfl (by intro q; cases q)).trans ?_
      refine g_congr (fun _ => ?_)
      refine p_congr (fun _ => ?_)
      refine (vr_steps 1 (x' := (90, [(2, v0), (0, v1), (0, v2)], [(2, v0)], (K, d_up (d_up (d_up (d_up M (M v0 9) (w32 (3 * (M v0 12))) v2) ((d_up M (M v0 9) (w32 (3 * (M v0 12))) v2) v0 9) (w32 ((w32 (3 * ((d_up M (M v0 9) (w32 (3 * (M v0 12))) v2) v0 12))) + 1)) 10) ((d_up (d_up M (M v0 9) (w32 (3 * (M v0 12))) v2) ((d_up M (M v0 9) (w32 (3 * (M v0 12))) v2) v0 9) (w32 ((w32 (3 * ((d_up M (M v0 9) (w32 (3 * (M v0 12))) v2) v0 12))) + 1)) 10) v0 9) (w32 ((w32 (3 * ((d_up (d_up M (M v0 9) (w32 (3 * (M v0 12))) v2) ((d_up M (M v0 9) (w32 (3 * (M v0 12))) v2) v0 9) (w32 ((w32 (3 * ((d_up M (M v0 9) (w32 (3 * (M v0 12))) v2) v0 12))) + 1)) 10) v0 12))) + 2)) v1) v0 12 (w32 (((d_up (d_up (d_up M (M v0 9) (w32 (3 * (M v0 12))) v2) ((d_up M (M v0 9) (w32 (3 * (M v0 12))) v2) v0 9) (w32 ((w32 (3 * ((d_up M (M v0 9) (w32 (3 * (M v0 12))) v2) v0 12))) + 1)) 10) ((d_up (d_up M (M v0 9) (w32 (3 * (M v0 12))) v2) ((d_up M (M v0 9) (w32 (3 * (M v0 12))) v2) v0 9) (w32 ((w32 (3 * ((d_up M (M v0 9) (w32 (3 * (M v0 12))) v2) v0 12))) + 1)) 10) v0 9) (w32 ((w32 (3 * ((d_up (d_up M (M v0 9) (w32 (3 * (M v0 12))) v2) ((d_up M (M v0 9) (w32 (3 * (M v0 12))) v2) v0 9) (w32 ((w32 (3 * ((d_up M (M v0 9) (w32 (3 * (M v0 12))) v2) v0 12))) + 1)) 10) v0 12))) + 2)) v1) v0 12) + 1))))) rfl).trans ?_
      refine (v_getf (a := 7) (b := 12) (t := 0) rfl rfl).trans ?_
      refine g_congr (fun _ => ?_)
      refine (vr_steps 2 (x' := (95, [(2, v0), (0, v1), (0, v2)], [(0, w32 (((d_up (d_up (d_up (d_up M (M v0 9) (w32 (3 * (M v0 12))) v2) ((d_up M (M v0 9) (w32 (3 * (M v0 12))) v2) v0 9) (w32 ((w32 (3 * ((d_up M (M v0 9) (w32 (3 * (M v0 12))) v2) v0 12))) + 1)) 10) ((d_up (d_up M (M v0 9) (w32 (3 * (M v0 12))) v2) ((d_up M (M v0 9) (w32 (3 * (M v0 12))) v2) v0 9) (w32 ((w32 (3 * ((d_up M (M v0 9) (w32 (3 * (M v0 12))) v2) v0 12))) + 1)) 10) v0 9) (w32 ((w32 (3 * ((d_up (d_up M (M v0 9) (w32 (3 * (M v0 12))) v2) ((d_up M (M v0 9) (w32 (3 * (M v0 12))) v2) v0 9) (w32 ((w32 (3 * ((d_up M (M v0 9) (w32 (3 * (M v0 12))) v2) v0 12))) + 1)) 10) v0 12))) + 2)) v1) v0 12 (w32 (((d_up (d_up (d_up M (M v0 9) (w32 (3 * (M v0 12))) v2) ((d_up M (M v0 9) (w32 (3 * (M v0 12))) v2) v0 9) (w32 ((w32 (3 * ((d_up M (M v0 9) (w32 (3 * (M v0 12))) v2) v0 12))) + 1)) 10) ((d_up (d_up M (M v0 9) (w32 (3 * (M v0 12))) v2) ((d_up M (M v0 9) (w32 (3 * (M v0 12))) v2) v0 9) (w32 ((w32 (3 * ((d_up M (M v0 9) (w32 (3 * (M v0 12))) v2) v0 12))) + 1)) 10) v0 9) (w32 ((w32 (3 * ((d_up (d_up M (M v0 9) (w32 (3 * (M v0 12))) v2) ((d_up M (M v0 9) (w32 (3 * (M v0 12))) v2) v0 9) (w32 ((w32 (3 * ((d_up M (M v0 9) (w32 (3 * (M v0 12))) v2) v0 12))) + 1)) 10) v0 12))) + 2)) v1) v0 12) + 1))) v0 12) - 1))], (K, d_up (d_up (d_up (d_up M (M v0 9) (w32 (3 * (M v0 12))) v2) ((d_up M (M v0 9) (w32 (3 * (M v0 12))) v2) v0 9) (w32 ((w32 (3 * ((d_up M (M v0 9) (w32 (3 * (M v0 12))) v2) v0 12))) + 1)) 10) ((d_up (d_up M (M v0 9) (w32 (3 * (M v0 12))) v2) ((d_up M (M v0 9) (w32 (3 * (M v0 12))) v2) v0 9) (w32 ((w32 (3 * ((d_up M (M v0 9) (w32 (3 * (M v0 12))) v2) v0 12))) + 1)) 10) v0 9) (w32 ((w32 (3 * ((d_up (d_up M (M v0 9) (w32 (3 * (M v0 12))) v2) ((d_up M (M v0 9) (w32 (3 * (M v0 12))) v2) v0 9) (w32 ((w32 (3 * ((d_up M (M v0 9) (w32 (3 * (M v0 12))) v2) v0 12))) + 1)) 10) v0 12))) + 2)) v1) v0 12 (w32 (((d_up (d_up (d_up M (M v0 9) (w32 (3 * (M v0 12))) v2) ((d_up M (M v0 9) (w32 (3 * (M v0 12))) v2) v0 9) (w32 ((w32 (3 * ((d_up M (M v0 9) (w32 (3 * (M v0 12))) v2) v0 12))) + 1)) 10) ((d_up (d_up M (M v0 9) (w32 (3 * (M v0 12))) v2) ((d_up M (M v0 9) (w32 (3 * (M v0 12))) v2) v0 9) (w32 ((w32 (3 * ((d_up M (M v0 9) (w32 (3 * (M v0 12))) v2) v0 12))) + 1)) 10) v0 9) (w32 ((w32 (3 * ((d_up (d_up M (M v0 9) (w32 (3 * (M v0 12))) v2) ((d_up M (M v0 9) (w32 (3 * (M v0 12))) v2) v0 9) (w32 ((w32 (3 * ((d_up M (M v0 9) (w32 (3 * (M v0 12))) v2) v0 12))) + 1)) 10) v0 12))) + 2)) v1) v0 12) + 1))))) rfl).trans ?_
      exact vr_ret (ai := (35, 1, 1, 0, [])) rfl rfl
    · refine (vr_steps 1 (x' := (37, [(2, v0), (0, v1), (0, v2)], [(0, (-4))], (K, M))) rfl).trans ?_
      exact vr_ret (ai := (35, 1, 1, 0, [])) rfl rfl
  · refine (vr_steps 1 (x' := (26, [(2, v0), (0, v1), (0, v2)], [(0, (-2))], (K, M))) rfl).trans ?_
    exact vr_ret (ai := (35, 1, 1, 0, [])) rfl rfl

noncomputable def c_X7_told : Nat → Option dI := d_mcode m_X7_told
set_option maxRecDepth 100000 in
theorem e_X7_told_0 {sc : dS} {d : Nat} {K : List (Nat × Nat)} {M : dM} {v0 v1 v2 : Int} : vr sc d c_X7_told (0, [(2, v0), (0, v1), (0, v2)], [], (K, M)) = ((vc sc d 114 [(1, v2), (1, 0), (1, 9)] (K, M)).bind (fun r => vr sc d c_X7_told (9, [(2, v0), (0, v1), (0, v2)], r.1 ++ [], r.2))) := by
  refine (vr_steps 4 (x' := (6, [(2, v0), (0, v1), (0, v2)], [(1, 9), (1, 0), (1, v2)], (K, M))) rfl).trans ?_
  exact (v_stat (k := 114) (n := 3) (code := c_X7_told) (pc := 6) (len := 3) (L := [(2, v0), (0, v1), (0, v2)]) (st := [(1, 9), (1, 0), (1, v2)]) rfl (Nat.le_of_ble_eq_true rfl) (Nat.le_of_ble_eq_true rfl)).trans rfl
set_option maxRecDepth 100000 in
theorem e_X7_told_9 {sc : dS} {d : Nat} {K : List (Nat × Nat)} {M : dM} {v0 v1 v2 s0 : Int} : vr sc d c_X7_told (9, [(2, v0), (0, v1), (0, v2)], [(0, s0)], (K, M)) = (if s0 = 0 then some ([(0, (-1000))], (K, M)) else (if rg K 7 v0 = true then (vc sc d 120 [(2, v0), (0, v2), (0, v1)] (K, M)).bind (fun r => vr sc d c_X7_told (18, [(2, v0), (0, v1), (0, v2)], r.1 ++ [], r.2)) else none)) := by
  refine (v_if (k := 0) (b := 21) (c := s0 = 0) rfl rfl).trans ?_
  refine c_congr (fun _ => ?_) (fun _ => ?_)
  · refine (vr_steps 1 (x' := (24, [(2, v0), (0, v1), (0, v2)], [(0, (-1000))], (K, M))) rfl).trans ?_
    exact vr_ret (ai := (35, 1, 1, 0, [])) rfl rfl
  · refine (vr_steps 3 (x' := (15, [(2, v0), (0, v1), (0, v2)], [(0, v1), (0, v2), (2, v0)], (K, M))) rfl).trans ?_
    exact (v_virt (k := 120) (n := 3) (tag := 7) (r := v0) (av := [(0, v2), (0, v1)]) (code := c_X7_told) (pc := 15) (len := 3) (L := [(2, v0), (0, v1), (0, v2)]) (st := [(0, v1), (0, v2), (2, v0)]) rfl (Nat.le_of_ble_eq_true rfl) (Nat.le_of_ble_eq_true rfl) rfl).trans rfl
set_option maxRecDepth 100000 in
theorem e_X7_told_18 {sc : dS} {d : Nat} {K : List (Nat × Nat)} {M : dM} {v0 v1 v2 s0 : Int} : vr sc d c_X7_told (18, [(2, v0), (0, v1), (0, v2)], [(0, s0)], (K, M)) = (if ¬ s0 = 0 then (if 4 ≤ v2 then (if 7 ≤ v2 then (if ¬ v2 = 7 then (if rg K 7 v0 = true then (vc sc d 147 [(2, v0), (0, v1)] (K, M)).bind (fun r => vr sc d c_X7_told (134, [(2, v0), (0, v1), (0, v2)], r.1 ++ [], r.2)) else none) else (if og K 7 v0 10 = true then (if ag K 8 (M v0 10) (w32 ((w32 (3 * v1)) + 1)) = true then some ([(0, M (M v0 10) (w32 ((w32 (3 * v1)) + 1)))], (K, M)) else none) else none)) else (if ¬ v2 = 4 then (if ¬ v2 = 5 then (if rg K 7 v0 = true then (vc sc d 168 [(2, v0), (0, v1)] (K, M)).bind (fun r => vr sc d c_X7_told (111, [(2, v0), (0, v1), (0, v2)], r.1 ++ [], r.2)) else none) else (if og K 7 v0 9 = true then (if ag K 8 (M v0 9) (w32 ((w32 (3 * v1)) + 2)) = true then vr sc d c_X7_told (111, [(2, v0), (0, v1), (0, v2)], [(0, M (M v0 9) (w32 ((w32 (3 * v1)) + 2)))], (K, M)) else none) else none)) else (if og K 7 v0 10 = true then (if ag K 8 (M v0 10) (w32 (3 * v1)) = true then vr sc d c_X7_told (111, [(2, v0), (0, v1), (0, v2)], [(0, M (M v0 10) (w32 (3 * v1)))], (K, M)) else none) else none))) else (if ¬ v2 = 0 then (if ¬ v2 = 1 then (if og K 7 v0 9 = true then (if ag K 8 (M v0 9) (w32 ((w32 ((w32 (3 * v1)) + v2)) - 2)) = true then some ([(0, M (M v0 9) (w32 ((w32 ((w32 (3 * v1)) + v2)) - 2)))], (K, M)) else none) else none) else (if og K 7 v0 8 = true then some ([(0, M v0 8)], (K, M)) else none)) else (if og K 7 v0 7 = true then some ([(0, M v0 7)], (K, M)) else none))) else some ([(0, (-1000))], (K, M))) := by
  refine (v_if (k := 1) (b := 25) (c := ¬ s0 = 0) rfl rfl).trans ?_
  refine c_congr (fun _ => ?_) (fun _ => ?_)
  · refine (vr_steps 2 (x' := (27, [(2, v0), (0, v1), (0, v2)], [(0, 4), (0, v2)], (K, M))) rfl).trans ?_
    refine (v_icmp (k := 3) (b := 66) (c := 4 ≤ v2) rfl rfl).trans ?_
    refine c_congr (fun _ => ?_) (fun _ => ?_)
    · refine (vr_steps 2 (x' := (69, [(2, v0), (0, v1), (0, v2)], [(0, 7), (0, v2)], (K, M))) rfl).trans ?_
      refine (v_icmp (k := 3) (b := 112) (c := 7 ≤ v2) rfl rfl).trans ?_
      refine c_congr (fun _ => ?_) (fun _ => ?_)
      · refine (vr_steps 2 (x' := (115, [(2, v0), (0, v1), (0, v2)], [(0, 7), (0, v2)], (K, M))) rfl).trans ?_
        refine (v_icmp (k := 1) (b := 129) (c := ¬ v2 = 7) rfl rfl).trans ?_
        refine c_congr (fun _ => ?_) (fun _ => ?_)
        · refine (vr_steps 2 (x' := (131, [(2, v0), (0, v1), (0, v2)], [(0, v1), (2, v0)], (K, M))) rfl).trans ?_
          exact (v_virt (k := 147) (n := 2) (tag := 7) (r := v0) (av := [(0, v1)]) (code := c_X7_told) (pc := 131) (len := 3) (L := [(2, v0), (0, v1), (0, v2)]) (st := [(0, v1), (2, v0)]) rfl (Nat.le_of_ble_eq_true rfl) (Nat.le_of_ble_eq_true rfl) rfl).trans rfl
        · refine (vr_steps 1 (x' := (119, [(2, v0), (0, v1), (0, v2)], [(2, v0)], (K, M))) rfl).trans ?_
          refine (v_getf (a := 7) (b := 10) (t := 2) rfl rfl).trans ?_
          refine g_congr (fun _ => ?_)
          refine (vr_steps 5 (x' := (127, [(2, v0), (0, v1), (0, v2)], [(0, w32 ((w32 (3 * v1)) + 1)), (2, M v0 10)], (K, M))) rfl).trans ?_
          refine (v_ald (a := 8) rfl (by decide)).trans ?_
          refine g_congr (fun _ => ?_)
          exact vr_ret (ai := (35, 1, 1, 0, [])) rfl rfl
      · refine (vr_steps 2 (x' := (74, [(2, v0), (0, v1), (0, v2)], [(0, 4), (0, v2)], (K, M))) rfl).trans ?_
        refine (v_icmp (k := 1) (b := 88) (c := ¬ v2 = 4) rfl rfl).trans ?_
        refine c_congr (fun _ => ?_) (fun _ => ?_)
        · refine (vr_steps 2 (x' := (90, [(2, v0), (0, v1), (0, v2)], [(0, 5), (0, v2)], (K, M))) rfl).trans ?_
          refine (v_icmp (k := 1) (b := 106) (c := ¬ v2 = 5) rfl rfl).trans ?_
          refine c_congr (fun _ => ?_) (fun _ => ?_)
          · refine (vr_steps 2 (x' := (108, [(2, v0), (0, v1), (0, v2)], [(0, v1), (2, v0)], (K, M))) rfl).trans ?_
            exact (v_virt (k := 168) (n := 2) (tag := 7) (r := v0) (av := [(0, v1)]) (code := c_X7_told) (pc := 108) (len := 3) (L := [(2, v0), (0, v1), (0, v2)]) (st := [(0, v1), (2, v0)]) rfl (Nat.le_of_ble_eq_true rfl) (Nat.le_of_ble_eq_true rfl) rfl).trans rfl
          · refine (vr_steps 1 (x' := (94, [(2, v0), (0, v1), (0, v2)], [(2, v0)], (K, M))) rfl).trans ?_
            refine (v_getf (a := 7) (b := 9) (t := 2) rfl rfl).trans ?_
            refine g_congr (fun _ => ?_)
            refine (vr_steps 5 (x' := (102, [(2, v0), (0, v1), (0, v2)], [(0, w32 ((w32 (3 * v1)) + 2)), (2, M v0 9)], (K, M))) rfl).trans ?_
            refine (v_ald (a := 8) rfl (by decide)).trans ?_
            refine g_congr (fun _ => ?_)
            exact vr_steps 1 rfl
        · refine (vr_steps 1 (x' := (78, [(2, v0), (0, v1), (0, v2)], [(2, v0)], (K, M))) rfl).trans ?_
          refine (v_getf (a := 7) (b := 10) (t := 2) rfl rfl).trans ?_
          refine g_congr (fun _ => ?_)
          refine (vr_steps 3 (x' := (84, [(2, v0), (0, v1), (0, v2)], [(0, w32 (3 * v1)), (2, M v0 10)], (K, M))) rfl).trans ?_
          refine (v_ald (a := 8) rfl (by decide)).trans ?_
          refine g_congr (fun _ => ?_)
          exact vr_steps 1 rfl
    · refine (vr_steps 1 (x' := (31, [(2, v0), (0, v1), (0, v2)], [(0, v2)], (K, M))) rfl).trans ?_
      refine (v_if (k := 1) (b := 41) (c := ¬ v2 = 0) rfl rfl).trans ?_
      refine c_congr (fun _ => ?_) (fun _ => ?_)
      · refine (vr_steps 2 (x' := (43, [(2, v0), (0, v1), (0, v2)], [(0, 1), (0, v2)], (K, M))) rfl).trans ?_
        refine (v_icmp (k := 1) (b := 53) (c := ¬ v2 = 1) rfl rfl).trans ?_
        refine c_congr (fun _ => ?_) (fun _ => ?_)
        · refine (vr_steps 1 (x' := (54, [(2, v0), (0, v1), (0, v2)], [(2, v0)], (K, M))) rfl).trans ?_
          refine (v_getf (a := 7) (b := 9) (t := 2) rfl rfl).trans ?_
          refine g_congr (fun _ => ?_)
          refine (vr_steps 7 (x' := (64, [(2, v0), (0, v1), (0, v2)], [(0, w32 ((w32 ((w32 (3 * v1)) + v2)) - 2)), (2, M v0 9)], (K, M))) rfl).trans ?_
          refine (v_ald (a := 8) rfl (by decide)).trans ?_
          refine g_congr (fun _ => ?_)
          exact vr_ret (ai := (35, 1, 1, 0, [])) rfl rfl
        · refine (vr_steps 1 (x' := (47, [(2, v0), (0, v1), (0, v2)], [(2, v0)], (K, M))) rfl).trans ?_
          refine (v_getf (a := 7) (b := 8) (t := 0) rfl rfl).trans ?_
          refine g_congr (fun _ => ?_)
          refine (vr_steps 1 (x' := (65, [(2, v0), (0, v1), (0, v2)], [(0, M v0 8)], (K, M))) rfl).trans ?_
          exact vr_ret (ai := (35, 1, 1, 0, [])) rfl rfl
      · refine (vr_steps 1 (x' := (35, [(2, v0), (0, v1), (0, v2)], [(2, v0)], (K, M))) rfl).trans ?_
        refine (v_getf (a := 7) (b := 7) (t := 0) rfl rfl).trans ?_
        refine g_congr (fun _ => ?_)
        refine (vr_steps 1 (x' := (65, [(2, v0), (0, v1), (0, v2)], [(0, M v0 7)], (K, M))) rfl).trans ?_
        exact vr_ret (ai := (35, 1, 1, 0, [])) rfl rfl
  · refine (vr_steps 1 (x' := (24, [(2, v0), (0, v1), (0, v2)], [(0, (-1000))], (K, M))) rfl).trans ?_
    exact vr_ret (ai := (35, 1, 1, 0, [])) rfl rfl
set_option maxRecDepth 100000 in
theorem e_X7_told_111 {sc : dS} {d : Nat} {K : List (Nat × Nat)} {M : dM} {v0 v1 v2 s0 : Int} : vr sc d c_X7_told (111, [(2, v0), (0, v1), (0, v2)], [(0, s0)], (K, M)) = (some ([(0, s0)], (K, M))) := by
  exact vr_ret (ai := (35, 1, 1, 0, [])) rfl rfl
set_option maxRecDepth 100000 in
theorem e_X7_told_134 {sc : dS} {d : Nat} {K : List (Nat × Nat)} {M : dM} {v0 v1 v2 : Int} : vr sc d c_X7_told (134, [(2, v0), (0, v1), (0, v2)], [], (K, M)) = (if ¬ v2 = 8 then (if rg K 7 v0 = true then (vc sc d 154 [(2, v0)] (K, M)).bind (fun r => vr sc d c_X7_told (151, [(2, v0), (0, v1), (0, v2)], r.1 ++ [], r.2)) else none) else (if rg K 7 v0 = true then (vc sc d 149 [(2, v0)] (K, M)).bind (fun r => vr sc d c_X7_told (144, [(2, v0), (0, v1), (0, v2)], r.1 ++ [], r.2)) else none)) := by
  refine (vr_steps 2 (x' := (137, [(2, v0), (0, v1), (0, v2)], [(0, 8), (0, v2)], (K, M))) rfl).trans ?_
  refine (v_icmp (k := 1) (b := 147) (c := ¬ v2 = 8) rfl rfl).trans ?_
  refine c_congr (fun _ => ?_) (fun _ => ?_)
  · refine (vr_steps 1 (x' := (148, [(2, v0), (0, v1), (0, v2)], [(2, v0)], (K, M))) rfl).trans ?_
    exact (v_virt (k := 154) (n := 1) (tag := 7) (r := v0) (av := []) (code := c_X7_told) (pc := 148) (len := 3) (L := [(2, v0), (0, v1), (0, v2)]) (st := [(2, v0)]) rfl (Nat.le_of_ble_eq_true rfl) (Nat.le_of_ble_eq_true rfl) rfl).trans rfl
  · refine (vr_steps 1 (x' := (141, [(2, v0), (0, v1), (0, v2)], [(2, v0)], (K, M))) rfl).trans ?_
    exact (v_virt (k := 149) (n := 1) (tag := 7) (r := v0) (av := []) (code := c_X7_told) (pc := 141) (len := 3) (L := [(2, v0), (0, v1), (0, v2)]) (st := [(2, v0)]) rfl (Nat.le_of_ble_eq_true rfl) (Nat.le_of_ble_eq_true rfl) rfl).trans rfl
set_option maxRecDepth 100000 in
theorem e_X7_told_144 {sc : dS} {d : Nat} {K : List (Nat × Nat)} {M : dM} {v0 v1 v2 s0 : Int} : vr sc d c_X7_told (144, [(2, v0), (0, v1), (0, v2)], [(0, s0)], (K, M)) = (vr sc d c_X7_told (151, [(2, v0), (0, v1), (0, v2)], [(0, s0)], (K, M))) := by
  exact vr_steps 1 rfl
set_option maxRecDepth 100000 in
theorem e_X7_told_151 {sc : dS} {d : Nat} {K : List (Nat × Nat)} {M : dM} {v0 v1 v2 s0 : Int} : vr sc d c_X7_told (151, [(2, v0), (0, v1), (0, v2)], [(0, s0)], (K, M)) = (some ([(0, s0)], (K, M))) := by
  exact vr_ret (ai := (35, 1, 1, 0, [])) rfl rfl

noncomputable def c_X7_feed : Nat → Option dI := d_mcode m_X7_feed
set_option maxRecDepth 100000 in
theorem e_X7_feed_0 {sc : dS} {d : Nat} {K : List (Nat × Nat)} {M : dM} {v0 v1 : Int} : vr sc d c_X7_feed (0, [(2, v0), (0, v1)], [], (K, M)) = ((vc sc d 114 [(1, v1), (1, 0), (1, 255)] (K, M)).bind (fun r => vr sc d c_X7_feed (9, [(2, v0), (0, v1)], r.1 ++ [], r.2))) := by
  refine (vr_steps 4 (x' := (6, [(2, v0), (0, v1)], [(1, 255), (1, 0), (1, v1)], (K, M))) rfl).trans ?_
  exact (v_stat (k := 114) (n := 3) (code := c_X7_feed) (pc := 6) (len := 3) (L := [(2, v0), (0, v1)]) (st := [(1, 255), (1, 0), (1, v1)]) rfl (Nat.le_of_ble_eq_true rfl) (Nat.le_of_ble_eq_true rfl)).trans rfl
set_option maxRecDepth 100000 in
theorem e_X7_feed_9 {sc : dS} {d : Nat} {K : List (Nat × Nat)} {M : dM} {v0 v1 s0 : Int} : vr sc d c_X7_feed (9, [(2, v0), (0, v1)], [(0, s0)], (K, M)) = (if ¬ s0 = 0 then (if og K 7 v0 6 = true then (if ¬ (M v0 6) = 160 then (if og K 7 v0 5 = true then (if og K 7 v0 6 = true then (if ag K 8 (M v0 5) (M v0 6) = true then (if og K 7 v0 6 = true then (if og K 7 v0 6 = true then (if -2147483648 ≤ (w32 (((d_up M (M v0 5) (M v0 6) v1) v0 6) + 1)) ∧ (w32 (((d_up M (M v0 5) (M v0 6) v1) v0 6) + 1)) < 2147483648 then (if og K 7 v0 6 = true then some ([(0, (d_up (d_up M (M v0 5) (M v0 6) v1) v0 6 (w32 (((d_up M (M v0 5) (M v0 6) v1) v0 6) + 1))) v0 6)], (K, d_up (d_up M (M v0 5) (M v0 6) v1) v0 6 (w32 (((d_up M (M v0 5) (M v0 6) v1) v0 6) + 1)))) else none) else none) else none) else none) else none) else none) else none) else some ([(0, (-4))], (K, M))) else none) else some ([(0, (-2))], (K, M))) := by
  refine (v_if (k := 1) (b := 15) (c := ¬ s0 = 0) rfl rfl).trans ?_
  refine c_congr (fun _ => ?_) (fun _ => ?_)
  · refine (vr_steps 1 (x' := (16, [(2, v0), (0, v1)], [(2, v0)], (K, M))) rfl).trans ?_
    refine (v_getf (a := 7) (b := 6) (t := 0) rfl rfl).trans ?_
    refine g_congr (fun _ => ?_)
    refine (vr_steps 1 (x' := (22, [(2, v0), (0, v1)], [(0, 160), (0, M v0 6)], (K, M))) rfl).trans ?_
    refine (v_icmp (k := 1) (b := 28) (c := ¬ (M v0 6) = 160) rfl rfl).trans ?_
    refine c_congr (fun _ => ?_) (fun _ => ?_)
    · refine (vr_steps 1 (x' := (29, [(2, v0), (0, v1)], [(2, v0)], (K, M))) rfl).trans ?_
      refine (v_getf (a := 7) (b := 5) (t := 2) rfl rfl).trans ?_
      refine g_congr (fun _ => ?_)
      refine (vr_steps 1 (x' := (33, [(2, v0), (0, v1)], [(2, v0), (2, M v0 5)], (K, M))) rfl).trans ?_
      refine (v_getf (a := 7) (b := 6) (t := 0) rfl rfl).trans ?_
      refine g_congr (fun _ => ?_)
      refine (vr_steps 1 (x' := (37, [(2, v0), (0, v1)], [(0, v1), (0, M v0 6), (2, M v0 5)], (K, M))) rfl).trans ?_
      refine (v_ast rfl).trans ?_
      refine g_congr (fun _ => ?_)
      refine (vr_steps 2 (x' := (40, [(2, v0), (0, v1)], [(2, v0), (2, v0)], (K, d_up M (M v0 5) (M v0 6) v1))) rfl).trans ?_
      refine (v_getf (a := 7) (b := 6) (t := 0) rfl rfl).trans ?_
      refine g_congr (fun _ => ?_)
      refine (vr_steps 2 (x' := (45, [(2, v0), (0, v1)], [(0, w32 (((d_up M (M v0 5) (M v0 6) v1) v0 6) + 1)), (2, v0)], (K, d_up M (M v0 5) (M v0 6) v1))) rfl).trans ?_
      refine (v_putf (a := 7) (b := 6) (t := 0) rfl rfl (by intro q; cases q)).trans ?_
      refine g_congr (fun _ => ?_)
      refine p_congr (fun _ => ?_)
      refine (vr_steps 1 (x' := (49, [(2, v0), (0, v1)], [(2, v0)], (K, d_up (d_up M (M v0 5) (M v0 6) v1) v0 6 (w32 (((d_up M (M v0 5) (M v0 6) v1) v0 6) + 1))))) rfl).trans ?_
      refine (v_getf (a := 7) (b := 6) (t := 0) rfl rfl).trans ?_
      refine g_congr (fun _ => ?_)
      exact vr_ret (ai := (35, 1, 1, 0, [])) rfl rfl
    · refine (vr_steps 1 (x' := (27, [(2, v0), (0, v1)], [(0, (-4))], (K, M))) rfl).trans ?_
      exact vr_ret (ai := (35, 1, 1, 0, [])) rfl rfl
  · refine (vr_steps 1 (x' := (14, [(2, v0), (0, v1)], [(0, (-2))], (K, M))) rfl).trans ?_
    exact vr_ret (ai := (35, 1, 1, 0, [])) rfl rfl

noncomputable def c_X7_byteAt : Nat → Option dI := d_mcode m_X7_byteAt
set_option maxRecDepth 100000 in
theorem e_X7_byteAt_0 {sc : dS} {d : Nat} {K : List (Nat × Nat)} {M : dM} {v0 v1 : Int} : vr sc d c_X7_byteAt (0, [(2, v0), (0, v1)], [], (K, M)) = (if og K 7 v0 20 = true then (if (M v0 20) ≤ v1 then some ([(0, (-1))], (K, M)) else (if og K 7 v0 1 = true then (if og K 7 v0 19 = true then (if ag K 8 (M v0 1) (w32 ((M v0 19) + v1)) = true then some ([(0, M (M v0 1) (w32 ((M v0 19) + v1)))], (K, M)) else none) else none) else none)) else none) := by
  refine (vr_steps 2 (x' := (2, [(2, v0), (0, v1)], [(2, v0), (0, v1)], (K, M))) rfl).trans ?_
  refine (v_getf (a := 7) (b := 20) (t := 0) rfl rfl).trans ?_
  refine g_congr (fun _ => ?_)
  refine (v_icmp (k := 3) (b := 22) (c := (M v0 20) ≤ v1) rfl rfl).trans ?_
  refine c_congr (fun _ => ?_) (fun _ => ?_)
  · refine (vr_steps 1 (x' := (23, [(2, v0), (0, v1)], [(0, (-1))], (K, M))) rfl).trans ?_
    exact vr_ret (ai := (35, 1, 1, 0, [])) rfl rfl
  · refine (vr_steps 1 (x' := (9, [(2, v0), (0, v1)], [(2, v0)], (K, M))) rfl).trans ?_
    refine (v_getf (a := 7) (b := 1) (t := 2) rfl rfl).trans ?_
    refine g_congr (fun _ => ?_)
    refine (vr_steps 1 (x' := (13, [(2, v0), (0, v1)], [(2, v0), (2, M v0 1)], (K, M))) rfl).trans ?_
    refine (v_getf (a := 7) (b := 19) (t := 0) rfl rfl).trans ?_
    refine g_congr (fun _ => ?_)
    refine (vr_steps 2 (x' := (18, [(2, v0), (0, v1)], [(0, w32 ((M v0 19) + v1)), (2, M v0 1)], (K, M))) rfl).trans ?_
    refine (v_ald (a := 8) rfl (by decide)).trans ?_
    refine g_congr (fun _ => ?_)
    refine (vr_steps 1 (x' := (23, [(2, v0), (0, v1)], [(0, M (M v0 1) (w32 ((M v0 19) + v1)))], (K, M))) rfl).trans ?_
    exact vr_ret (ai := (35, 1, 1, 0, [])) rfl rfl

noncomputable def c_X7_next : Nat → Option dI := d_mcode m_X7_next
set_option maxRecDepth 100000 in
theorem e_X7_next_0 {sc : dS} {d : Nat} {K : List (Nat × Nat)} {M : dM} {v0 : Int} {q1 q2 : dV} : vr sc d c_X7_next (0, [(2, v0), q1, q2], [], (K, M)) = (if og K 7 v0 21 = true then (if rg K 7 v0 = true then (vc sc d 127 [(2, v0), (0, M v0 21)] (K, M)).bind (fun r => vr sc d c_X7_next (8, [(2, v0), q1, q2], r.1 ++ [], r.2)) else none) else none) := by
  refine (vr_steps 2 (x' := (2, [(2, v0), q1, q2], [(2, v0), (2, v0)], (K, M))) rfl).trans ?_
  refine (v_getf (a := 7) (b := 21) (t := 0) rfl rfl).trans ?_
  refine g_congr (fun _ => ?_)
  exact (v_virt (k := 127) (n := 2) (tag := 7) (r := v0) (av := [(0, M v0 21)]) (code := c_X7_next) (pc := 5) (len := 3) (L := [(2, v0), q1, q2]) (st := [(0, M v0 21), (2, v0)]) rfl (Nat.le_of_ble_eq_true rfl) (Nat.le_of_ble_eq_true rfl) rfl).trans rfl
set_option maxRecDepth 100000 in
theorem e_X7_next_8 {sc : dS} {d : Nat} {K : List (Nat × Nat)} {M : dM} {v0 s0 : Int} {q1 q2 : dV} : vr sc d c_X7_next (8, [(2, v0), q1, q2], [(0, s0)], (K, M)) = (if s0 = 32 then (if og K 7 v0 21 = true then (if og K 7 v0 21 = true then (if -2147483648 ≤ (w32 ((M v0 21) + 1)) ∧ (w32 ((M v0 21) + 1)) < 2147483648 then vr sc d c_X7_next (0, [(2, v0), q1, q2], [], (K, d_up M v0 21 (w32 ((M v0 21) + 1)))) else none) else none) else none) else (if og K 7 v0 21 = true then (if rg K 7 v0 = true then (vc sc d 127 [(2, v0), (0, M v0 21)] (K, M)).bind (fun r => vr sc d c_X7_next (21, [(2, v0), q1, q2], r.1 ++ [], r.2)) else none) else none)) := by
  refine (vr_steps 1 (x' := (10, [(2, v0), q1, q2], [(0, 32), (0, s0)], (K, M))) rfl).trans ?_
  refine (v_icmp (k := 0) (b := 26) (c := s0 = 32) rfl rfl).trans ?_
  refine c_congr (fun _ => ?_) (fun _ => ?_)
  · refine (vr_steps 2 (x' := (28, [(2, v0), q1, q2], [(2, v0), (2, v0)], (K, M))) rfl).trans ?_
    refine (v_getf (a := 7) (b := 21) (t := 0) rfl rfl).trans ?_
    refine g_congr (fun _ => ?_)
    refine (vr_steps 2 (x' := (33, [(2, v0), q1, q2], [(0, w32 ((M v0 21) + 1)), (2, v0)], (K, M))) rfl).trans ?_
    refine (v_putf (a := 7) (b := 21) (t := 0) rfl rfl (by intro q; cases q)).trans ?_
    refine g_congr (fun _ => ?_)
    refine p_congr (fun _ => ?_)
    exact vr_steps 1 rfl
  · refine (vr_steps 2 (x' := (15, [(2, v0), q1, q2], [(2, v0), (2, v0)], (K, M))) rfl).trans ?_
    refine (v_getf (a := 7) (b := 21) (t := 0) rfl rfl).trans ?_
    refine g_congr (fun _ => ?_)
    exact (v_virt (k := 127) (n := 2) (tag := 7) (r := v0) (av := [(0, M v0 21)]) (code := c_X7_next) (pc := 18) (len := 3) (L := [(2, v0), q1, q2]) (st := [(0, M v0 21), (2, v0)]) rfl (Nat.le_of_ble_eq_true rfl) (Nat.le_of_ble_eq_true rfl) rfl).trans rfl
set_option maxRecDepth 100000 in
theorem e_X7_next_21 {sc : dS} {d : Nat} {K : List (Nat × Nat)} {M : dM} {v0 s0 : Int} {q1 q2 : dV} : vr sc d c_X7_next (21, [(2, v0), q1, q2], [(0, s0)], (K, M)) = (if ¬ s0 = 10 then (if og K 7 v0 21 = true then (if og K 7 v0 23 = true then (if -2147483648 ≤ (M v0 21) ∧ (M v0 21) < 2147483648 then (if og K 7 v0 21 = true then (if rg K 7 v0 = true then (vc sc d 127 [(2, v0), (0, (d_up M v0 23 (M v0 21)) v0 21)] (K, d_up M v0 23 (M v0 21))).bind (fun r => vr sc d c_X7_next (55, [(2, v0), q1, q2], r.1 ++ [], r.2)) else none) else none) else none) else none) else none) else (if og K 7 v0 21 = true then (if og K 7 v0 21 = true then (if -2147483648 ≤ (w32 ((M v0 21) + 1)) ∧ (w32 ((M v0 21) + 1)) < 2147483648 then vr sc d c_X7_next (0, [(2, v0), q1, q2], [], (K, d_up M v0 21 (w32 ((M v0 21) + 1)))) else none) else none) else none)) := by
  refine (vr_steps 1 (x' := (23, [(2, v0), q1, q2], [(0, 10), (0, s0)], (K, M))) rfl).trans ?_
  refine (v_icmp (k := 1) (b := 39) (c := ¬ s0 = 10) rfl rfl).trans ?_
  refine c_congr (fun _ => ?_) (fun _ => ?_)
  · refine (vr_steps 2 (x' := (41, [(2, v0), q1, q2], [(2, v0), (2, v0)], (K, M))) rfl).trans ?_
    refine (v_getf (a := 7) (b := 21) (t := 0) rfl rfl).trans ?_
    refine g_congr (fun _ => ?_)
    refine (v_putf (a := 7) (b := 23) (t := 0) rfl rfl (by intro q; cases q)).trans ?_
    refine g_congr (fun _ => ?_)
    refine p_congr (fun _ => ?_)
    refine (vr_steps 2 (x' := (49, [(2, v0), q1, q2], [(2, v0), (2, v0)], (K, d_up M v0 23 (M v0 21)))) rfl).trans ?_
    refine (v_getf (a := 7) (b := 21) (t := 0) rfl rfl).trans ?_
    refine g_congr (fun _ => ?_)
    exact (v_virt (k := 127) (n := 2) (tag := 7) (r := v0) (av := [(0, (d_up M v0 23 (M v0 21)) v0 21)]) (code := c_X7_next) (pc := 52) (len := 3) (L := [(2, v0), q1, q2]) (st := [(0, (d_up M v0 23 (M v0 21)) v0 21), (2, v0)]) rfl (Nat.le_of_ble_eq_true rfl) (Nat.le_of_ble_eq_true rfl) rfl).trans rfl
  · refine (vr_steps 2 (x' := (28, [(2, v0), q1, q2], [(2, v0), (2, v0)], (K, M))) rfl).trans ?_
    refine (v_getf (a := 7) (b := 21) (t := 0) rfl rfl).trans ?_
    refine g_congr (fun _ => ?_)
    refine (vr_steps 2 (x' := (33, [(2, v0), q1, q2], [(0, w32 ((M v0 21) + 1)), (2, v0)], (K, M))) rfl).trans ?_
    refine (v_putf (a := 7) (b := 21) (t := 0) rfl rfl (by intro q; cases q)).trans ?_
    refine g_congr (fun _ => ?_)
    refine p_congr (fun _ => ?_)
    exact vr_steps 1 rfl
set_option maxRecDepth 100000 in
theorem e_X7_next_55 {sc : dS} {d : Nat} {K : List (Nat × Nat)} {M : dM} {v0 s0 : Int} {q1 q2 : dV} : vr sc d c_X7_next (55, [(2, v0), q1, q2], [(0, s0)], (K, M)) = (if og K 7 v0 22 = true then (if -2147483648 ≤ 4 ∧ 4 < 2147483648 then (if 0 ≤ s0 then (vc sc d 114 [(1, s0), (1, 97), (1, 122)] (K, d_up M v0 22 4)).bind (fun r => vr sc d c_X7_next (92, [(2, v0), (0, s0), q2], r.1 ++ [], r.2)) else (if og K 7 v0 22 = true then (if -2147483648 ≤ 0 ∧ 0 < 2147483648 then (if og K 7 v0 20 = true then (if og K 7 v0 23 = true then (if -2147483648 ≤ ((d_up (d_up M v0 22 4) v0 22 0) v0 20) ∧ ((d_up (d_up M v0 22 4) v0 22 0) v0 20) < 2147483648 then some ([], (K, d_up (d_up (d_up M v0 22 4) v0 22 0) v0 23 ((d_up (d_up M v0 22 4) v0 22 0) v0 20))) else none) else none) else none) else none) else none)) else none) else none) := by
  refine (vr_steps 3 (x' := (58, [(2, v0), (0, s0), q2], [(0, 4), (2, v0)], (K, M))) rfl).trans ?_
  refine (v_putf (a := 7) (b := 22) (t := 0) rfl rfl (by intro q; cases q)).trans ?_
  refine g_congr (fun _ => ?_)
  refine p_congr (fun _ => ?_)
  refine (vr_steps 1 (x' := (62, [(2, v0), (0, s0), q2], [(0, s0)], (K, d_up M v0 22 4))) rfl).trans ?_
  refine (v_if (k := 3) (b := 81) (c := 0 ≤ s0) rfl rfl).trans ?_
  refine c_congr (fun _ => ?_) (fun _ => ?_)
  · refine (vr_steps 4 (x' := (89, [(2, v0), (0, s0), q2], [(1, 122), (1, 97), (1, s0)], (K, d_up M v0 22 4))) rfl).trans ?_
    exact (v_stat (k := 114) (n := 3) (code := c_X7_next) (pc := 89) (len := 3) (L := [(2, v0), (0, s0), q2]) (st := [(1, 122), (1, 97), (1, s0)]) rfl (Nat.le_of_ble_eq_true rfl) (Nat.le_of_ble_eq_true rfl)).trans rfl
  · refine (vr_steps 2 (x' := (67, [(2, v0), (0, s0), q2], [(0, 0), (2, v0)], (K, d_up M v0 22 4))) rfl).trans ?_
    refine (v_putf (a := 7) (b := 22) (t := 0) rfl rfl (by intro q; cases q)).trans ?_
    refine g_congr (fun _ => ?_)
    refine p_congr (fun _ => ?_)
    refine (vr_steps 2 (x' := (72, [(2, v0), (0, s0), q2], [(2, v0), (2, v0)], (K, d_up (d_up M v0 22 4) v0 22 0))) rfl).trans ?_
    refine (v_getf (a := 7) (b := 20) (t := 0) rfl rfl).trans ?_
    refine g_congr (fun _ => ?_)
    refine (v_putf (a := 7) (b := 23) (t := 0) rfl rfl (by intro q; cases q)).trans ?_
    refine g_congr (fun _ => ?_)
    refine p_congr (fun _ => ?_)
    refine (vr_steps 1 (x' := (321, [(2, v0), (0, s0), q2], [], (K, d_up (d_up (d_up M v0 22 4) v0 22 0) v0 23 ((d_up (d_up M v0 22 4) v0 22 0) v0 20)))) rfl).trans ?_
    exact vr_ret (ai := (35, 1, 0, 0, [])) rfl rfl
set_option maxRecDepth 100000 in
theorem e_X7_next_92 {sc : dS} {d : Nat} {K : List (Nat × Nat)} {M : dM} {v0 v1 s0 : Int} {q2 : dV} : vr sc d c_X7_next (92, [(2, v0), (0, v1), q2], [(0, s0)], (K, M)) = (if s0 = 0 then (vc sc d 114 [(1, v1), (1, 48), (1, 57)] (K, M)).bind (fun r => vr sc d c_X7_next (145, [(2, v0), (0, v1), q2], r.1 ++ [], r.2)) else (if og K 7 v0 22 = true then (if -2147483648 ≤ 1 ∧ 1 < 2147483648 then vr sc d c_X7_next (100, [(2, v0), (0, v1), q2], [], (K, d_up M v0 22 1)) else none) else none)) := by
  refine (v_if (k := 0) (b := 134) (c := s0 = 0) rfl rfl).trans ?_
  refine c_congr (fun _ => ?_) (fun _ => ?_)
  · refine (vr_steps 4 (x' := (142, [(2, v0), (0, v1), q2], [(1, 57), (1, 48), (1, v1)], (K, M))) rfl).trans ?_
    exact (v_stat (k := 114) (n := 3) (code := c_X7_next) (pc := 142) (len := 3) (L := [(2, v0), (0, v1), q2]) (st := [(1, 57), (1, 48), (1, v1)]) rfl (Nat.le_of_ble_eq_true rfl) (Nat.le_of_ble_eq_true rfl)).trans rfl
  · refine (vr_steps 2 (x' := (97, [(2, v0), (0, v1), q2], [(0, 1), (2, v0)], (K, M))) rfl).trans ?_
    refine (v_putf (a := 7) (b := 22) (t := 0) rfl rfl (by intro q; cases q)).trans ?_
    refine g_congr (fun _ => ?_)
    refine p_congr (fun _ => ?_)
    rfl
set_option maxRecDepth 100000 in
theorem e_X7_next_100 {sc : dS} {d : Nat} {K : List (Nat × Nat)} {M : dM} {v0 v1 : Int} {q2 : dV} : vr sc d c_X7_next (100, [(2, v0), (0, v1), q2], [], (K, M)) = (if og K 7 v0 21 = true then (if rg K 7 v0 = true then (vc sc d 127 [(2, v0), (0, M v0 21)] (K, M)).bind (fun r => vr sc d c_X7_next (108, [(2, v0), (0, v1), q2], r.1 ++ [], r.2)) else none) else none) := by
  refine (vr_steps 2 (x' := (102, [(2, v0), (0, v1), q2], [(2, v0), (2, v0)], (K, M))) rfl).trans ?_
  refine (v_getf (a := 7) (b := 21) (t := 0) rfl rfl).trans ?_
  refine g_congr (fun _ => ?_)
  exact (v_virt (k := 127) (n := 2) (tag := 7) (r := v0) (av := [(0, M v0 21)]) (code := c_X7_next) (pc := 105) (len := 3) (L := [(2, v0), (0, v1), q2]) (st := [(0, M v0 21), (2, v0)]) rfl (Nat.le_of_ble_eq_true rfl) (Nat.le_of_ble_eq_true rfl) rfl).trans rfl
set_option maxRecDepth 100000 in
theorem e_X7_next_108 {sc : dS} {d : Nat} {K : List (Nat × Nat)} {M : dM} {v0 v1 s0 : Int} {q2 : dV} : vr sc d c_X7_next (108, [(2, v0), (0, v1), q2], [(0, s0)], (K, M)) = ((vc sc d 114 [(1, s0), (1, 97), (1, 122)] (K, M)).bind (fun r => vr sc d c_X7_next (118, [(2, v0), (0, v1), q2], r.1 ++ [], r.2))) := by
  refine (vr_steps 3 (x' := (115, [(2, v0), (0, v1), q2], [(1, 122), (1, 97), (1, s0)], (K, M))) rfl).trans ?_
  exact (v_stat (k := 114) (n := 3) (code := c_X7_next) (pc := 115) (len := 3) (L := [(2, v0), (0, v1), q2]) (st := [(1, 122), (1, 97), (1, s0)]) rfl (Nat.le_of_ble_eq_true rfl) (Nat.le_of_ble_eq_true rfl)).trans rfl
set_option maxRecDepth 100000 in
theorem e_X7_next_118 {sc : dS} {d : Nat} {K : List (Nat × Nat)} {M : dM} {v0 v1 s0 : Int} {q2 : dV} : vr sc d c_X7_next (118, [(2, v0), (0, v1), q2], [(0, s0)], (K, M)) = (if s0 = 0 then some ([], (K, M)) else (if og K 7 v0 21 = true then (if og K 7 v0 21 = true then (if -2147483648 ≤ (w32 ((M v0 21) + 1)) ∧ (w32 ((M v0 21) + 1)) < 2147483648 then vr sc d c_X7_next (100, [(2, v0), (0, v1), q2], [], (K, d_up M v0 21 (w32 ((M v0 21) + 1)))) else none) else none) else none)) := by
  refine (v_if (k := 0) (b := 321) (c := s0 = 0) rfl rfl).trans ?_
  refine c_congr (fun _ => ?_) (fun _ => ?_)
  · exact vr_ret (ai := (35, 1, 0, 0, [])) rfl rfl
  · refine (vr_steps 2 (x' := (123, [(2, v0), (0, v1), q2], [(2, v0), (2, v0)], (K, M))) rfl).trans ?_
    refine (v_getf (a := 7) (b := 21) (t := 0) rfl rfl).trans ?_
    refine g_congr (fun _ => ?_)
    refine (vr_steps 2 (x' := (128, [(2, v0), (0, v1), q2], [(0, w32 ((M v0 21) + 1)), (2, v0)], (K, M))) rfl).trans ?_
    refine (v_putf (a := 7) (b := 21) (t := 0) rfl rfl (by intro q; cases q)).trans ?_
    refine g_congr (fun _ => ?_)
    refine p_congr (fun _ => ?_)
    exact vr_steps 1 rfl
set_option maxRecDepth 100000 in
theorem e_X7_next_145 {sc : dS} {d : Nat} {K : List (Nat × Nat)} {M : dM} {v0 v1 s0 : Int} {q2 : dV} : vr sc d c_X7_next (145, [(2, v0), (0, v1), q2], [(0, s0)], (K, M)) = (if s0 = 0 then (if v1 = 40 then vr sc d c_X7_next (300, [(2, v0), (0, v1), q2], [], (K, M)) else (if v1 = 41 then vr sc d c_X7_next (300, [(2, v0), (0, v1), q2], [], (K, M)) else (if v1 = 59 then vr sc d c_X7_next (300, [(2, v0), (0, v1), q2], [], (K, M)) else (if v1 = 43 then vr sc d c_X7_next (300, [(2, v0), (0, v1), q2], [], (K, M)) else (if v1 = 45 then vr sc d c_X7_next (300, [(2, v0), (0, v1), q2], [], (K, M)) else (if v1 = 42 then vr sc d c_X7_next (300, [(2, v0), (0, v1), q2], [], (K, M)) else (if v1 = 60 then vr sc d c_X7_next (300, [(2, v0), (0, v1), q2], [], (K, M)) else (if ¬ v1 = 61 then some ([], (K, M)) else vr sc d c_X7_next (300, [(2, v0), (0, v1), q2], [], (K, M)))))))))) else (if og K 7 v0 22 = true then (if -2147483648 ≤ 2 ∧ 2 < 2147483648 then (if og K 7 v0 24 = true then (if -2147483648 ≤ 0 ∧ 0 < 2147483648 then vr sc d c_X7_next (160, [(2, v0), (0, v1), (0, 0)], [], (K, d_up (d_up M v0 22 2) v0 24 0)) else none) else none) else none) else none)) := by
  refine (v_if (k := 0) (b := 252) (c := s0 = 0) rfl rfl).trans ?_
  refine c_congr (fun _ => ?_) (fun _ => ?_)
  · refine (vr_steps 2 (x' := (255, [(2, v0), (0, v1), q2], [(0, 40), (0, v1)], (K, M))) rfl).trans ?_
    refine (v_icmp (k := 0) (b := 300) (c := v1 = 40) rfl rfl).trans ?_
    refine c_congr (fun _ => ?_) (fun _ => ?_)
    · rfl
    · refine (vr_steps 2 (x' := (261, [(2, v0), (0, v1), q2], [(0, 41), (0, v1)], (K, M))) rfl).trans ?_
      refine (v_icmp (k := 0) (b := 300) (c := v1 = 41) rfl rfl).trans ?_
      refine c_congr (fun _ => ?_) (fun _ => ?_)
      · rfl
      · refine (vr_steps 2 (x' := (267, [(2, v0), (0, v1), q2], [(0, 59), (0, v1)], (K, M))) rfl).trans ?_
        refine (v_icmp (k := 0) (b := 300) (c := v1 = 59) rfl rfl).trans ?_
        refine c_congr (fun _ => ?_) (fun _ => ?_)
        · rfl
        · refine (vr_steps 2 (x' := (273, [(2, v0), (0, v1), q2], [(0, 43), (0, v1)], (K, M))) rfl).trans ?_
          refine (v_icmp (k := 0) (b := 300) (c := v1 = 43) rfl rfl).trans ?_
          refine c_congr (fun _ => ?_) (fun _ => ?_)
          · rfl
          · refine (vr_steps 2 (x' := (279, [(2, v0), (0, v1), q2], [(0, 45), (0, v1)], (K, M))) rfl).trans ?_
            refine (v_icmp (k := 0) (b := 300) (c := v1 = 45) rfl rfl).trans ?_
            refine c_congr (fun _ => ?_) (fun _ => ?_)
            · rfl
            · refine (vr_steps 2 (x' := (285, [(2, v0), (0, v1), q2], [(0, 42), (0, v1)], (K, M))) rfl).trans ?_
              refine (v_icmp (k := 0) (b := 300) (c := v1 = 42) rfl rfl).trans ?_
              refine c_congr (fun _ => ?_) (fun _ => ?_)
              · rfl
              · refine (vr_steps 2 (x' := (291, [(2, v0), (0, v1), q2], [(0, 60), (0, v1)], (K, M))) rfl).trans ?_
                refine (v_icmp (k := 0) (b := 300) (c := v1 = 60) rfl rfl).trans ?_
                refine c_congr (fun _ => ?_) (fun _ => ?_)
                · rfl
                · refine (vr_steps 2 (x' := (297, [(2, v0), (0, v1), q2], [(0, 61), (0, v1)], (K, M))) rfl).trans ?_
                  refine (v_icmp (k := 1) (b := 321) (c := ¬ v1 = 61) rfl rfl).trans ?_
                  refine c_congr (fun _ => ?_) (fun _ => ?_)
                  · exact vr_ret (ai := (35, 1, 0, 0, [])) rfl rfl
                  · rfl
  · refine (vr_steps 2 (x' := (150, [(2, v0), (0, v1), q2], [(0, 2), (2, v0)], (K, M))) rfl).trans ?_
    refine (v_putf (a := 7) (b := 22) (t := 0) rfl rfl (by intro q; cases q)).trans ?_
    refine g_congr (fun _ => ?_)
    refine p_congr (fun _ => ?_)
    refine (vr_steps 2 (x' := (155, [(2, v0), (0, v1), q2], [(1, 0), (2, v0)], (K, d_up M v0 22 2))) rfl).trans ?_
    refine (v_putf (a := 7) (b := 24) (t := 1) rfl rfl (by intro q; cases q)).trans ?_
    refine g_congr (fun _ => ?_)
    refine p_congr (fun _ => ?_)
    exact vr_steps 2 rfl
set_option maxRecDepth 100000 in
theorem e_X7_next_160 {sc : dS} {d : Nat} {K : List (Nat × Nat)} {M : dM} {v0 v1 v2 : Int} : vr sc d c_X7_next (160, [(2, v0), (0, v1), (0, v2)], [], (K, M)) = (if og K 7 v0 21 = true then (if rg K 7 v0 = true then (vc sc d 127 [(2, v0), (0, M v0 21)] (K, M)).bind (fun r => vr sc d c_X7_next (168, [(2, v0), (0, v1), (0, v2)], r.1 ++ [], r.2)) else none) else none) := by
  refine (vr_steps 2 (x' := (162, [(2, v0), (0, v1), (0, v2)], [(2, v0), (2, v0)], (K, M))) rfl).trans ?_
  refine (v_getf (a := 7) (b := 21) (t := 0) rfl rfl).trans ?_
  refine g_congr (fun _ => ?_)
  exact (v_virt (k := 127) (n := 2) (tag := 7) (r := v0) (av := [(0, M v0 21)]) (code := c_X7_next) (pc := 165) (len := 3) (L := [(2, v0), (0, v1), (0, v2)]) (st := [(0, M v0 21), (2, v0)]) rfl (Nat.le_of_ble_eq_true rfl) (Nat.le_of_ble_eq_true rfl) rfl).trans rfl
set_option maxRecDepth 100000 in
theorem e_X7_next_168 {sc : dS} {d : Nat} {K : List (Nat × Nat)} {M : dM} {v0 v1 v2 s0 : Int} : vr sc d c_X7_next (168, [(2, v0), (0, v1), (0, v2)], [(0, s0)], (K, M)) = ((vc sc d 114 [(1, s0), (1, 48), (1, 57)] (K, M)).bind (fun r => vr sc d c_X7_next (178, [(2, v0), (0, v1), (0, v2)], r.1 ++ [], r.2))) := by
  refine (vr_steps 3 (x' := (175, [(2, v0), (0, v1), (0, v2)], [(1, 57), (1, 48), (1, s0)], (K, M))) rfl).trans ?_
  exact (v_stat (k := 114) (n := 3) (code := c_X7_next) (pc := 175) (len := 3) (L := [(2, v0), (0, v1), (0, v2)]) (st := [(1, 57), (1, 48), (1, s0)]) rfl (Nat.le_of_ble_eq_true rfl) (Nat.le_of_ble_eq_true rfl)).trans rfl
set_option maxRecDepth 100000 in
theorem e_X7_next_178 {sc : dS} {d : Nat} {K : List (Nat × Nat)} {M : dM} {v0 v1 v2 s0 : Int} : vr sc d c_X7_next (178, [(2, v0), (0, v1), (0, v2)], [(0, s0)], (K, M)) = (if s0 = 0 then (if v2 ≤ 4 then (if og K 7 v0 22 = true then (if -2147483648 ≤ 2 ∧ 2 < 2147483648 then some ([], (K, d_up M v0 22 2)) else none) else none) else (if og K 7 v0 22 = true then (if -2147483648 ≤ 4 ∧ 4 < 2147483648 then some ([], (K, d_up M v0 22 4)) else none) else none)) else (if 4 ≤ v2 then (if og K 7 v0 24 = true then (if og K 7 v0 24 = true then (if -2147483648 ≤ (M v0 24) ∧ (M v0 24) < 2147483648 then (if og K 7 v0 21 = true then (if og K 7 v0 21 = true then (if -2147483648 ≤ (w32 (((d_up M v0 24 (M v0 24)) v0 21) + 1)) ∧ (w32 (((d_up M v0 24 (M v0 24)) v0 21) + 1)) < 2147483648 then vr sc d c_X7_next (160, [(2, v0), (0, v1), (0, w32 (v2 + 1))], [], (K, d_up (d_up M v0 24 (M v0 24)) v0 21 (w32 (((d_up M v0 24 (M v0 24)) v0 21) + 1)))) else none) else none) else none) else none) else none) else none) else (if og K 7 v0 24 = true then (if og K 7 v0 21 = true then (if rg K 7 v0 = true then (vc sc d 127 [(2, v0), (0, M v0 21)] (K, M)).bind (fun r => vr sc d c_X7_next (203, [(2, v0), (0, v1), (0, v2)], r.1 ++ [(1, w64 (10 * (M v0 24))), (2, v0)], r.2)) else none) else none) else none))) := by
  refine (v_if (k := 0) (b := 235) (c := s0 = 0) rfl rfl).trans ?_
  refine c_congr (fun _ => ?_) (fun _ => ?_)
  · refine (vr_steps 3 (x' := (238, [(2, v0), (0, v1), (0, v2)], [(0, 4), (0, v2), (2, v0)], (K, M))) rfl).trans ?_
    refine (v_icmp (k := 5) (b := 245) (c := v2 ≤ 4) rfl rfl).trans ?_
    refine c_congr (fun _ => ?_) (fun _ => ?_)
    · refine (vr_steps 1 (x' := (246, [(2, v0), (0, v1), (0, v2)], [(0, 2), (2, v0)], (K, M))) rfl).trans ?_
      refine (v_putf (a := 7) (b := 22) (t := 0) rfl rfl (by intro q; cases q)).trans ?_
      refine g_congr (fun _ => ?_)
      refine p_congr (fun _ => ?_)
      refine (vr_steps 1 (x' := (321, [(2, v0), (0, v1), (0, v2)], [], (K, d_up M v0 22 2))) rfl).trans ?_
      exact vr_ret (ai := (35, 1, 0, 0, [])) rfl rfl
    · refine (vr_steps 2 (x' := (246, [(2, v0), (0, v1), (0, v2)], [(0, 4), (2, v0)], (K, M))) rfl).trans ?_
      refine (v_putf (a := 7) (b := 22) (t := 0) rfl rfl (by intro q; cases q)).trans ?_
      refine g_congr (fun _ => ?_)
      refine p_congr (fun _ => ?_)
      refine (vr_steps 1 (x' := (321, [(2, v0), (0, v1), (0, v2)], [], (K, d_up M v0 22 4))) rfl).trans ?_
      exact vr_ret (ai := (35, 1, 0, 0, [])) rfl rfl
  · refine (vr_steps 3 (x' := (184, [(2, v0), (0, v1), (0, v2)], [(0, 4), (0, v2), (2, v0)], (K, M))) rfl).trans ?_
    refine (v_icmp (k := 3) (b := 212) (c := 4 ≤ v2) rfl rfl).trans ?_
    refine c_congr (fun _ => ?_) (fun _ => ?_)
    · refine (vr_steps 1 (x' := (213, [(2, v0), (0, v1), (0, v2)], [(2, v0), (2, v0)], (K, M))) rfl).trans ?_
      refine (v_getf (a := 7) (b := 24) (t := 1) rfl rfl).trans ?_
      refine g_congr (fun _ => ?_)
      refine (v_putf (a := 7) (b := 24) (t := 1) rfl rfl (by intro q; cases q)).trans ?_
      refine g_congr (fun _ => ?_)
      refine p_congr (fun _ => ?_)
      refine (vr_steps 3 (x' := (224, [(2, v0), (0, v1), (0, w32 (v2 + 1))], [(2, v0), (2, v0)], (K, d_up M v0 24 (M v0 24)))) rfl).trans ?_
      refine (v_getf (a := 7) (b := 21) (t := 0) rfl rfl).trans ?_
      refine g_congr (fun _ => ?_)
      refine (vr_steps 2 (x' := (229, [(2, v0), (0, v1), (0, w32 (v2 + 1))], [(0, w32 (((d_up M v0 24 (M v0 24)) v0 21) + 1)), (2, v0)], (K, d_up M v0 24 (M v0 24)))) rfl).trans ?_
      refine (v_putf (a := 7) (b := 21) (t := 0) rfl rfl (by intro q; cases q)).trans ?_
      refine g_congr (fun _ => ?_)
      refine p_congr (fun _ => ?_)
      exact vr_steps 1 rfl
    · refine (vr_steps 2 (x' := (191, [(2, v0), (0, v1), (0, v2)], [(2, v0), (1, 10), (2, v0)], (K, M))) rfl).trans ?_
      refine (v_getf (a := 7) (b := 24) (t := 1) rfl rfl).trans ?_
      refine g_congr (fun _ => ?_)
      refine (vr_steps 3 (x' := (197, [(2, v0), (0, v1), (0, v2)], [(2, v0), (2, v0), (1, w64 (10 * (M v0 24))), (2, v0)], (K, M))) rfl).trans ?_
      refine (v_getf (a := 7) (b := 21) (t := 0) rfl rfl).trans ?_
      refine g_congr (fun _ => ?_)
      exact (v_virt (k := 127) (n := 2) (tag := 7) (r := v0) (av := [(0, M v0 21)]) (code := c_X7_next) (pc := 200) (len := 3) (L := [(2, v0), (0, v1), (0, v2)]) (st := [(0, M v0 21), (2, v0), (1, w64 (10 * (M v0 24))), (2, v0)]) rfl (Nat.le_of_ble_eq_true rfl) (Nat.le_of_ble_eq_true rfl) rfl).trans rfl
set_option maxRecDepth 100000 in
theorem e_X7_next_203 {sc : dS} {d : Nat} {K : List (Nat × Nat)} {M : dM} {v0 v1 v2 s0 s1 s2 : Int} : vr sc d c_X7_next (203, [(2, v0), (0, v1), (0, v2)], [(0, s2), (1, s1), (2, s0)], (K, M)) = (if og K 7 s0 24 = true then (if -2147483648 ≤ (w64 ((w64 (s1 + s2)) - 48)) ∧ (w64 ((w64 (s1 + s2)) - 48)) < 2147483648 then (if og K 7 v0 21 = true then (if og K 7 v0 21 = true then (if -2147483648 ≤ (w32 (((d_up M s0 24 (w64 ((w64 (s1 + s2)) - 48))) v0 21) + 1)) ∧ (w32 (((d_up M s0 24 (w64 ((w64 (s1 + s2)) - 48))) v0 21) + 1)) < 2147483648 then vr sc d c_X7_next (160, [(2, v0), (0, v1), (0, w32 (v2 + 1))], [], (K, d_up (d_up M s0 24 (w64 ((w64 (s1 + s2)) - 48))) v0 21 (w32 (((d_up M s0 24 (w64 ((w64 (s1 + s2)) - 48))) v0 21) + 1)))) else none) else none) else none) else none) else none) := by
  refine (vr_steps 5 (x' := (216, [(2, v0), (0, v1), (0, v2)], [(1, w64 ((w64 (s1 + s2)) - 48)), (2, s0)], (K, M))) rfl).trans ?_
  refine (v_putf (a := 7) (b := 24) (t := 1) rfl rfl (by intro q; cases q)).trans ?_
  refine g_congr (fun _ => ?_)
  refine p_congr (fun _ => ?_)
  refine (vr_steps 3 (x' := (224, [(2, v0), (0, v1), (0, w32 (v2 + 1))], [(2, v0), (2, v0)], (K, d_up M s0 24 (w64 ((w64 (s1 + s2)) - 48))))) rfl).trans ?_
  refine (v_getf (a := 7) (b := 21) (t := 0) rfl rfl).trans ?_
  refine g_congr (fun _ => ?_)
  refine (vr_steps 2 (x' := (229, [(2, v0), (0, v1), (0, w32 (v2 + 1))], [(0, w32 (((d_up M s0 24 (w64 ((w64 (s1 + s2)) - 48))) v0 21) + 1)), (2, v0)], (K, d_up M s0 24 (w64 ((w64 (s1 + s2)) - 48))))) rfl).trans ?_
  refine (v_putf (a := 7) (b := 21) (t := 0) rfl rfl (by intro q; cases q)).trans ?_
  refine g_congr (fun _ => ?_)
  refine p_congr (fun _ => ?_)
  exact vr_steps 1 rfl
set_option maxRecDepth 100000 in
theorem e_X7_next_300 {sc : dS} {d : Nat} {K : List (Nat × Nat)} {M : dM} {v0 v1 : Int} {q2 : dV} : vr sc d c_X7_next (300, [(2, v0), (0, v1), q2], [], (K, M)) = (if og K 7 v0 22 = true then (if -2147483648 ≤ 3 ∧ 3 < 2147483648 then (if og K 7 v0 24 = true then (if -2147483648 ≤ v1 ∧ v1 < 2147483648 then (if og K 7 v0 21 = true then (if og K 7 v0 21 = true then (if -2147483648 ≤ (w32 (((d_up (d_up M v0 22 3) v0 24 v1) v0 21) + 1)) ∧ (w32 (((d_up (d_up M v0 22 3) v0 24 v1) v0 21) + 1)) < 2147483648 then some ([], (K, d_up (d_up (d_up M v0 22 3) v0 24 v1) v0 21 (w32 (((d_up (d_up M v0 22 3) v0 24 v1) v0 21) + 1)))) else none) else none) else none) else none) else none) else none) else none) := by
  refine (vr_steps 2 (x' := (302, [(2, v0), (0, v1), q2], [(0, 3), (2, v0)], (K, M))) rfl).trans ?_
  refine (v_putf (a := 7) (b := 22) (t := 0) rfl rfl (by intro q; cases q)).trans ?_
  refine g_congr (fun _ => ?_)
  refine p_congr (fun _ => ?_)
  refine (vr_steps 3 (x' := (308, [(2, v0), (0, v1), q2], [(1, v1), (2, v0)], (K, d_up M v0 22 3))) rfl).trans ?_
  refine (v_putf (a := 7) (b := 24) (t := 1) rfl rfl (by intro q; cases q)).trans ?_
  refine g_congr (fun _ => ?_)
  refine p_congr (fun _ => ?_)
  refine (vr_steps 2 (x' := (313, [(2, v0), (0, v1), q2], [(2, v0), (2, v0)], (K, d_up (d_up M v0 22 3) v0 24 v1))) rfl).trans ?_
  refine (v_getf (a := 7) (b := 21) (t := 0) rfl rfl).trans ?_
  refine g_congr (fun _ => ?_)
  refine (vr_steps 2 (x' := (318, [(2, v0), (0, v1), q2], [(0, w32 (((d_up (d_up M v0 22 3) v0 24 v1) v0 21) + 1)), (2, v0)], (K, d_up (d_up M v0 22 3) v0 24 v1))) rfl).trans ?_
  refine (v_putf (a := 7) (b := 21) (t := 0) rfl rfl (by intro q; cases q)).trans ?_
  refine g_congr (fun _ => ?_)
  refine p_congr (fun _ => ?_)
  exact vr_ret (ai := (35, 1, 0, 0, [])) rfl rfl

noncomputable def c_X7_fail : Nat → Option dI := d_mcode m_X7_fail
set_option maxRecDepth 100000 in
theorem e_X7_fail_0 {sc : dS} {d : Nat} {K : List (Nat × Nat)} {M : dM} {v0 : Int} : vr sc d c_X7_fail (0, [(2, v0)], [], (K, M)) = (if og K 7 v0 26 = true then (if ¬ (M v0 26) = 0 then some ([], (K, M)) else (if og K 7 v0 26 = true then (if og K 7 v0 23 = true then (if og K 7 v0 27 = true then (if -2147483648 ≤ ((d_up M v0 26 1) v0 23) ∧ ((d_up M v0 26 1) v0 23) < 2147483648 then some ([], (K, d_up (d_up M v0 26 1) v0 27 ((d_up M v0 26 1) v0 23))) else none) else none) else none) else none)) else none) := by
  refine (vr_steps 1 (x' := (1, [(2, v0)], [(2, v0)], (K, M))) rfl).trans ?_
  refine (v_getf (a := 7) (b := 26) (t := 0) rfl rfl).trans ?_
  refine g_congr (fun _ => ?_)
  refine (v_if (k := 1) (b := 20) (c := ¬ (M v0 26) = 0) rfl rfl).trans ?_
  refine c_congr (fun _ => ?_) (fun _ => ?_)
  · exact vr_ret (ai := (35, 1, 0, 0, [])) rfl rfl
  · refine (vr_steps 2 (x' := (9, [(2, v0)], [(0, 1), (2, v0)], (K, M))) rfl).trans ?_
    refine (v_putz (a := 7) (b := 26) rfl rfl (by decide)).trans ?_
    refine g_congr (fun _ => ?_)
    refine (vr_steps 2 (x' := (14, [(2, v0)], [(2, v0), (2, v0)], (K, d_up M v0 26 1))) rfl).trans ?_
    refine (v_getf (a := 7) (b := 23) (t := 0) rfl rfl).trans ?_
    refine g_congr (fun _ => ?_)
    refine (v_putf (a := 7) (b := 27) (t := 0) rfl rfl (by intro q; cases q)).trans ?_
    refine g_congr (fun _ => ?_)
    refine p_congr (fun _ => ?_)
    exact vr_ret (ai := (35, 1, 0, 0, [])) rfl rfl

noncomputable def c_X7_isLetter : Nat → Option dI := d_mcode m_X7_isLetter
set_option maxRecDepth 100000 in
theorem e_X7_isLetter_0 {sc : dS} {d : Nat} {K : List (Nat × Nat)} {M : dM} {v0 v1 v2 : Int} : vr sc d c_X7_isLetter (0, [(2, v0), (0, v1), (0, v2)], [], (K, M)) = (if og K 7 v0 23 = true then (if og K 7 v0 21 = true then (if (M v0 21) ≤ (w32 ((M v0 23) + v1)) then (if ¬ v2 = 0 then some ([(0, 0)], (K, M)) else some ([(0, 1)], (K, M))) else (if og K 7 v0 23 = true then (if rg K 7 v0 = true then (vc sc d 127 [(2, v0), (0, w32 ((M v0 23) + v1))] (K, M)).bind (fun r => vr sc d c_X7_isLetter (23, [(2, v0), (0, v1), (0, v2)], r.1 ++ [], r.2)) else none) else none)) else none) else none) := by
  refine (vr_steps 1 (x' := (1, [(2, v0), (0, v1), (0, v2)], [(2, v0)], (K, M))) rfl).trans ?_
  refine (v_getf (a := 7) (b := 23) (t := 0) rfl rfl).trans ?_
  refine g_congr (fun _ => ?_)
  refine (vr_steps 3 (x' := (7, [(2, v0), (0, v1), (0, v2)], [(2, v0), (0, w32 ((M v0 23) + v1))], (K, M))) rfl).trans ?_
  refine (v_getf (a := 7) (b := 21) (t := 0) rfl rfl).trans ?_
  refine g_congr (fun _ => ?_)
  refine (v_icmp (k := 3) (b := 35) (c := (M v0 21) ≤ (w32 ((M v0 23) + v1))) rfl rfl).trans ?_
  refine c_congr (fun _ => ?_) (fun _ => ?_)
  · refine (vr_steps 1 (x' := (36, [(2, v0), (0, v1), (0, v2)], [(0, v2)], (K, M))) rfl).trans ?_
    refine (v_if (k := 1) (b := 43) (c := ¬ v2 = 0) rfl rfl).trans ?_
    refine c_congr (fun _ => ?_) (fun _ => ?_)
    · refine (vr_steps 1 (x' := (44, [(2, v0), (0, v1), (0, v2)], [(0, 0)], (K, M))) rfl).trans ?_
      exact vr_ret (ai := (35, 1, 3, 0, [])) rfl rfl
    · refine (vr_steps 2 (x' := (44, [(2, v0), (0, v1), (0, v2)], [(0, 1)], (K, M))) rfl).trans ?_
      exact vr_ret (ai := (35, 1, 3, 0, [])) rfl rfl
  · refine (vr_steps 2 (x' := (15, [(2, v0), (0, v1), (0, v2)], [(2, v0), (2, v0)], (K, M))) rfl).trans ?_
    refine (v_getf (a := 7) (b := 23) (t := 0) rfl rfl).trans ?_
    refine g_congr (fun _ => ?_)
    refine (vr_steps 2 (x' := (20, [(2, v0), (0, v1), (0, v2)], [(0, w32 ((M v0 23) + v1)), (2, v0)], (K, M))) rfl).trans ?_
    exact (v_virt (k := 127) (n := 2) (tag := 7) (r := v0) (av := [(0, w32 ((M v0 23) + v1))]) (code := c_X7_isLetter) (pc := 20) (len := 3) (L := [(2, v0), (0, v1), (0, v2)]) (st := [(0, w32 ((M v0 23) + v1)), (2, v0)]) rfl (Nat.le_of_ble_eq_true rfl) (Nat.le_of_ble_eq_true rfl) rfl).trans rfl
set_option maxRecDepth 100000 in
theorem e_X7_isLetter_23 {sc : dS} {d : Nat} {K : List (Nat × Nat)} {M : dM} {v0 v1 v2 s0 : Int} : vr sc d c_X7_isLetter (23, [(2, v0), (0, v1), (0, v2)], [(0, s0)], (K, M)) = (if ¬ s0 = v2 then some ([(0, 0)], (K, M)) else some ([(0, 1)], (K, M))) := by
  refine (vr_steps 1 (x' := (24, [(2, v0), (0, v1), (0, v2)], [(0, v2), (0, s0)], (K, M))) rfl).trans ?_
  refine (v_icmp (k := 1) (b := 31) (c := ¬ s0 = v2) rfl rfl).trans ?_
  refine c_congr (fun _ => ?_) (fun _ => ?_)
  · refine (vr_steps 2 (x' := (44, [(2, v0), (0, v1), (0, v2)], [(0, 0)], (K, M))) rfl).trans ?_
    exact vr_ret (ai := (35, 1, 3, 0, [])) rfl rfl
  · refine (vr_steps 2 (x' := (44, [(2, v0), (0, v1), (0, v2)], [(0, 1)], (K, M))) rfl).trans ?_
    exact vr_ret (ai := (35, 1, 3, 0, [])) rfl rfl

noncomputable def c_X7_isWord : Nat → Option dI := d_mcode m_X7_isWord
set_option maxRecDepth 100000 in
theorem e_X7_isWord_0 {sc : dS} {d : Nat} {K : List (Nat × Nat)} {M : dM} {v0 v1 v2 v3 v4 v5 v6 v7 v8 : Int} : vr sc d c_X7_isWord (0, [(2, v0), (0, v1), (0, v2), (0, v3), (0, v4), (0, v5), (0, v6), (0, v7), (0, v8)], [], (K, M)) = (if og K 7 v0 26 = true then (if ¬ (M v0 26) = 0 then some ([(0, 0)], (K, M)) else (if og K 7 v0 22 = true then (if ¬ (M v0 22) = 1 then some ([(0, 0)], (K, M)) else (if og K 7 v0 21 = true then (if og K 7 v0 23 = true then (if (w32 ((M v0 23) + 8)) < (M v0 21) then some ([(0, 0)], (K, M)) else (if rg K 7 v0 = true then (vc sc d 130 [(2, v0), (0, 0), (0, v1)] (K, M)).bind (fun r => vr sc d c_X7_isWord (35, [(2, v0), (0, v1), (0, v2), (0, v3), (0, v4), (0, v5), (0, v6), (0, v7), (0, v8)], r.1 ++ [], r.2)) else none)) else none) else none)) else none)) else none) := by
  refine (vr_steps 1 (x' := (1, [(2, v0), (0, v1), (0, v2), (0, v3), (0, v4), (0, v5), (0, v6), (0, v7), (0, v8)], [(2, v0)], (K, M))) rfl).trans ?_
  refine (v_getf (a := 7) (b := 26) (t := 0) rfl rfl).trans ?_
  refine g_congr (fun _ => ?_)
  refine (v_if (k := 1) (b := 112) (c := ¬ (M v0 26) = 0) rfl rfl).trans ?_
  refine c_congr (fun _ => ?_) (fun _ => ?_)
  · refine (vr_steps 1 (x' := (113, [(2, v0), (0, v1), (0, v2), (0, v3), (0, v4), (0, v5), (0, v6), (0, v7), (0, v8)], [(0, 0)], (K, M))) rfl).trans ?_
    exact vr_ret (ai := (35, 1, 3, 0, [])) rfl rfl
  · refine (vr_steps 1 (x' := (8, [(2, v0), (0, v1), (0, v2), (0, v3), (0, v4), (0, v5), (0, v6), (0, v7), (0, v8)], [(2, v0)], (K, M))) rfl).trans ?_
    refine (v_getf (a := 7) (b := 22) (t := 0) rfl rfl).trans ?_
    refine g_congr (fun _ => ?_)
    refine (vr_steps 1 (x' := (12, [(2, v0), (0, v1), (0, v2), (0, v3), (0, v4), (0, v5), (0, v6), (0, v7), (0, v8)], [(0, 1), (0, M v0 22)], (K, M))) rfl).trans ?_
    refine (v_icmp (k := 1) (b := 112) (c := ¬ (M v0 22) = 1) rfl rfl).trans ?_
    refine c_congr (fun _ => ?_) (fun _ => ?_)
    · refine (vr_steps 1 (x' := (113, [(2, v0), (0, v1), (0, v2), (0, v3), (0, v4), (0, v5), (0, v6), (0, v7), (0, v8)], [(0, 0)], (K, M))) rfl).trans ?_
      exact vr_ret (ai := (35, 1, 3, 0, [])) rfl rfl
    · refine (vr_steps 1 (x' := (16, [(2, v0), (0, v1), (0, v2), (0, v3), (0, v4), (0, v5), (0, v6), (0, v7), (0, v8)], [(2, v0)], (K, M))) rfl).trans ?_
      refine (v_getf (a := 7) (b := 21) (t := 0) rfl rfl).trans ?_
      refine g_congr (fun _ => ?_)
      refine (vr_steps 1 (x' := (20, [(2, v0), (0, v1), (0, v2), (0, v3), (0, v4), (0, v5), (0, v6), (0, v7), (0, v8)], [(2, v0), (0, M v0 21)], (K, M))) rfl).trans ?_
      refine (v_getf (a := 7) (b := 23) (t := 0) rfl rfl).trans ?_
      refine g_congr (fun _ => ?_)
      refine (vr_steps 2 (x' := (26, [(2, v0), (0, v1), (0, v2), (0, v3), (0, v4), (0, v5), (0, v6), (0, v7), (0, v8)], [(0, w32 ((M v0 23) + 8)), (0, M v0 21)], (K, M))) rfl).trans ?_
      refine (v_icmp (k := 4) (b := 112) (c := (w32 ((M v0 23) + 8)) < (M v0 21)) rfl rfl).trans ?_
      refine c_congr (fun _ => ?_) (fun _ => ?_)
      · refine (vr_steps 1 (x' := (113, [(2, v0), (0, v1), (0, v2), (0, v3), (0, v4), (0, v5), (0, v6), (0, v7), (0, v8)], [(0, 0)], (K, M))) rfl).trans ?_
        exact vr_ret (ai := (35, 1, 3, 0, [])) rfl rfl
      · refine (vr_steps 3 (x' := (32, [(2, v0), (0, v1), (0, v2), (0, v3), (0, v4), (0, v5), (0, v6), (0, v7), (0, v8)], [(0, v1), (0, 0), (2, v0)], (K, M))) rfl).trans ?_
        exact (v_virt (k := 130) (n := 3) (tag := 7) (r := v0) (av := [(0, 0), (0, v1)]) (code := c_X7_isWord) (pc := 32) (len := 3) (L := [(2, v0), (0, v1), (0, v2), (0, v3), (0, v4), (0, v5), (0, v6), (0, v7), (0, v8)]) (st := [(0, v1), (0, 0), (2, v0)]) rfl (Nat.le_of_ble_eq_true rfl) (Nat.le_of_ble_eq_true rfl) rfl).trans rfl
set_option maxRecDepth 100000 in
theorem e_X7_isWord_35 {sc : dS} {d : Nat} {K : List (Nat × Nat)} {M : dM} {v0 v1 v2 v3 v4 v5 v6 v7 v8 s0 : Int} : vr sc d c_X7_isWord (35, [(2, v0), (0, v1), (0, v2), (0, v3), (0, v4), (0, v5), (0, v6), (0, v7), (0, v8)], [(0, s0)], (K, M)) = (if s0 = 0 then some ([(0, 0)], (K, M)) else (if rg K 7 v0 = true then (vc sc d 130 [(2, v0), (0, 1), (0, v2)] (K, M)).bind (fun r => vr sc d c_X7_isWord (44, [(2, v0), (0, v1), (0, v2), (0, v3), (0, v4), (0, v5), (0, v6), (0, v7), (0, v8)], r.1 ++ [], r.2)) else none)) := by
  refine (v_if (k := 0) (b := 112) (c := s0 = 0) rfl rfl).trans ?_
  refine c_congr (fun _ => ?_) (fun _ => ?_)
  · refine (vr_steps 1 (x' := (113, [(2, v0), (0, v1), (0, v2), (0, v3), (0, v4), (0, v5), (0, v6), (0, v7), (0, v8)], [(0, 0)], (K, M))) rfl).trans ?_
    exact vr_ret (ai := (35, 1, 3, 0, [])) rfl rfl
  · refine (vr_steps 3 (x' := (41, [(2, v0), (0, v1), (0, v2), (0, v3), (0, v4), (0, v5), (0, v6), (0, v7), (0, v8)], [(0, v2), (0, 1), (2, v0)], (K, M))) rfl).trans ?_
    exact (v_virt (k := 130) (n := 3) (tag := 7) (r := v0) (av := [(0, 1), (0, v2)]) (code := c_X7_isWord) (pc := 41) (len := 3) (L := [(2, v0), (0, v1), (0, v2), (0, v3), (0, v4), (0, v5), (0, v6), (0, v7), (0, v8)]) (st := [(0, v2), (0, 1), (2, v0)]) rfl (Nat.le_of_ble_eq_true rfl) (Nat.le_of_ble_eq_true rfl) rfl).trans rfl
set_option maxRecDepth 100000 in
theorem e_X7_isWord_44 {sc : dS} {d : Nat} {K : List (Nat × Nat)} {M : dM} {v0 v1 v2 v3 v4 v5 v6 v7 v8 s0 : Int} : vr sc d c_X7_isWord (44, [(2, v0), (0, v1), (0, v2), (0, v3), (0, v4), (0, v5), (0, v6), (0, v7), (0, v8)], [(0, s0)], (K, M)) = (if s0 = 0 then some ([(0, 0)], (K, M)) else (if rg K 7 v0 = true then (vc sc d 130 [(2, v0), (0, 2), (0, v3)] (K, M)).bind (fun r => vr sc d c_X7_isWord (53, [(2, v0), (0, v1), (0, v2), (0, v3), (0, v4), (0, v5), (0, v6), (0, v7), (0, v8)], r.1 ++ [], r.2)) else none)) := by
  refine (v_if (k := 0) (b := 112) (c := s0 = 0) rfl rfl).trans ?_
  refine c_congr (fun _ => ?_) (fun _ => ?_)
  · refine (vr_steps 1 (x' := (113, [(2, v0), (0, v1), (0, v2), (0, v3), (0, v4), (0, v5), (0, v6), (0, v7), (0, v8)], [(0, 0)], (K, M))) rfl).trans ?_
    exact vr_ret (ai := (35, 1, 3, 0, [])) rfl rfl
  · refine (vr_steps 3 (x' := (50, [(2, v0), (0, v1), (0, v2), (0, v3), (0, v4), (0, v5), (0, v6), (0, v7), (0, v8)], [(0, v3), (0, 2), (2, v0)], (K, M))) rfl).trans ?_
    exact (v_virt (k := 130) (n := 3) (tag := 7) (r := v0) (av := [(0, 2), (0, v3)]) (code := c_X7_isWord) (pc := 50) (len := 3) (L := [(2, v0), (0, v1), (0, v2), (0, v3), (0, v4), (0, v5), (0, v6), (0, v7), (0, v8)]) (st := [(0, v3), (0, 2), (2, v0)]) rfl (Nat.le_of_ble_eq_true rfl) (Nat.le_of_ble_eq_true rfl) rfl).trans rfl
set_option maxRecDepth 100000 in
theorem e_X7_isWord_53 {sc : dS} {d : Nat} {K : List (Nat × Nat)} {M : dM} {v0 v1 v2 v3 v4 v5 v6 v7 v8 s0 : Int} : vr sc d c_X7_isWord (53, [(2, v0), (0, v1), (0, v2), (0, v3), (0, v4), (0, v5), (0, v6), (0, v7), (0, v8)], [(0, s0)], (K, M)) = (if s0 = 0 then some ([(0, 0)], (K, M)) else (if rg K 7 v0 = true then (vc sc d 130 [(2, v0), (0, 3), (0, v4)] (K, M)).bind (fun r => vr sc d c_X7_isWord (63, [(2, v0), (0, v1), (0, v2), (0, v3), (0, v4), (0, v5), (0, v6), (0, v7), (0, v8)], r.1 ++ [], r.2)) else none)) := by
  refine (v_if (k := 0) (b := 112) (c := s0 = 0) rfl rfl).trans ?_
  refine c_congr (fun _ => ?_) (fun _ => ?_)
  · refine (vr_steps 1 (x' := (113, [(2, v0), (0, v1), (0, v2), (0, v3), (0, v4), (0, v5), (0, v6), (0, v7), (0, v8)], [(0, 0)], (K, M))) rfl).trans ?_
    exact vr_ret (ai := (35, 1, 3, 0, [])) rfl rfl
  · refine (vr_steps 3 (x' := (60, [(2, v0), (0, v1), (0, v2), (0, v3), (0, v4), (0, v5), (0, v6), (0, v7), (0, v8)], [(0, v4), (0, 3), (2, v0)], (K, M))) rfl).trans ?_
    exact (v_virt (k := 130) (n := 3) (tag := 7) (r := v0) (av := [(0, 3), (0, v4)]) (code := c_X7_isWord) (pc := 60) (len := 3) (L := [(2, v0), (0, v1), (0, v2), (0, v3), (0, v4), (0, v5), (0, v6), (0, v7), (0, v8)]) (st := [(0, v4), (0, 3), (2, v0)]) rfl (Nat.le_of_ble_eq_true rfl) (Nat.le_of_ble_eq_true rfl) rfl).trans rfl
set_option maxRecDepth 100000 in
theorem e_X7_isWord_63 {sc : dS} {d : Nat} {K : List (Nat × Nat)} {M : dM} {v0 v1 v2 v3 v4 v5 v6 v7 v8 s0 : Int} : vr sc d c_X7_isWord (63, [(2, v0), (0, v1), (0, v2), (0, v3), (0, v4), (0, v5), (0, v6), (0, v7), (0, v8)], [(0, s0)], (K, M)) = (if s0 = 0 then some ([(0, 0)], (K, M)) else (if rg K 7 v0 = true then (vc sc d 130 [(2, v0), (0, 4), (0, v5)] (K, M)).bind (fun r => vr sc d c_X7_isWord (73, [(2, v0), (0, v1), (0, v2), (0, v3), (0, v4), (0, v5), (0, v6), (0, v7), (0, v8)], r.1 ++ [], r.2)) else none)) := by
  refine (v_if (k := 0) (b := 112) (c := s0 = 0) rfl rfl).trans ?_
  refine c_congr (fun _ => ?_) (fun _ => ?_)
  · refine (vr_steps 1 (x' := (113, [(2, v0), (0, v1), (0, v2), (0, v3), (0, v4), (0, v5), (0, v6), (0, v7), (0, v8)], [(0, 0)], (K, M))) rfl).trans ?_
    exact vr_ret (ai := (35, 1, 3, 0, [])) rfl rfl
  · refine (vr_steps 3 (x' := (70, [(2, v0), (0, v1), (0, v2), (0, v3), (0, v4), (0, v5), (0, v6), (0, v7), (0, v8)], [(0, v5), (0, 4), (2, v0)], (K, M))) rfl).trans ?_
    exact (v_virt (k := 130) (n := 3) (tag := 7) (r := v0) (av := [(0, 4), (0, v5)]) (code := c_X7_isWord) (pc := 70) (len := 3) (L := [(2, v0), (0, v1), (0, v2), (0, v3), (0, v4), (0, v5), (0, v6), (0, v7), (0, v8)]) (st := [(0, v5), (0, 4), (2, v0)]) rfl (Nat.le_of_ble_eq_true rfl) (Nat.le_of_ble_eq_true rfl) rfl).trans rfl
set_option maxRecDepth 100000 in
theorem e_X7_isWord_73 {sc : dS} {d : Nat} {K : List (Nat × Nat)} {M : dM} {v0 v1 v2 v3 v4 v5 v6 v7 v8 s0 : Int} : vr sc d c_X7_isWord (73, [(2, v0), (0, v1), (0, v2), (0, v3), (0, v4), (0, v5), (0, v6), (0, v7), (0, v8)], [(0, s0)], (K, M)) = (if s0 = 0 then some ([(0, 0)], (K, M)) else (if rg K 7 v0 = true then (vc sc d 130 [(2, v0), (0, 5), (0, v6)] (K, M)).bind (fun r => vr sc d c_X7_isWord (83, [(2, v0), (0, v1), (0, v2), (0, v3), (0, v4), (0, v5), (0, v6), (0, v7), (0, v8)], r.1 ++ [], r.2)) else none)) := by
  refine (v_if (k := 0) (b := 112) (c := s0 = 0) rfl rfl).trans ?_
  refine c_congr (fun _ => ?_) (fun _ => ?_)
  · refine (vr_steps 1 (x' := (113, [(2, v0), (0, v1), (0, v2), (0, v3), (0, v4), (0, v5), (0, v6), (0, v7), (0, v8)], [(0, 0)], (K, M))) rfl).trans ?_
    exact vr_ret (ai := (35, 1, 3, 0, [])) rfl rfl
  · refine (vr_steps 3 (x' := (80, [(2, v0), (0, v1), (0, v2), (0, v3), (0, v4), (0, v5), (0, v6), (0, v7), (0, v8)], [(0, v6), (0, 5), (2, v0)], (K, M))) rfl).trans ?_
    exact (v_virt (k := 130) (n := 3) (tag := 7) (r := v0) (av := [(0, 5), (0, v6)]) (code := c_X7_isWord) (pc := 80) (len := 3) (L := [(2, v0), (0, v1), (0, v2), (0, v3), (0, v4), (0, v5), (0, v6), (0, v7), (0, v8)]) (st := [(0, v6), (0, 5), (2, v0)]) rfl (Nat.le_of_ble_eq_true rfl) (Nat.le_of_ble_eq_true rfl) rfl).trans rfl
set_option maxRecDepth 100000 in
theorem e_X7_isWord_83 {sc : dS} {d : Nat} {K : List (Nat × Nat)} {M : dM} {v0 v1 v2 v3 v4 v5 v6 v7 v8 s0 : Int} : vr sc d c_X7_isWord (83, [(2, v0), (0, v1), (0, v2), (0, v3), (0, v4), (0, v5), (0, v6), (0, v7), (0, v8)], [(0, s0)], (K, M)) = (if s0 = 0 then some ([(0, 0)], (K, M)) else (if rg K 7 v0 = true then (vc sc d 130 [(2, v0), (0, 6), (0, v7)] (K, M)).bind (fun r => vr sc d c_X7_isWord (94, [(2, v0), (0, v1), (0, v2), (0, v3), (0, v4), (0, v5), (0, v6), (0, v7), (0, v8)], r.1 ++ [], r.2)) else none)) := by
  refine (v_if (k := 0) (b := 112) (c := s0 = 0) rfl rfl).trans ?_
  refine c_congr (fun _ => ?_) (fun _ => ?_)
  · refine (vr_steps 1 (x' := (113, [(2, v0), (0, v1), (0, v2), (0, v3), (0, v4), (0, v5), (0, v6), (0, v7), (0, v8)], [(0, 0)], (K, M))) rfl).trans ?_
    exact vr_ret (ai := (35, 1, 3, 0, [])) rfl rfl
  · refine (vr_steps 3 (x' := (91, [(2, v0), (0, v1), (0, v2), (0, v3), (0, v4), (0, v5), (0, v6), (0, v7), (0, v8)], [(0, v7), (0, 6), (2, v0)], (K, M))) rfl).trans ?_
    exact (v_virt (k := 130) (n := 3) (tag := 7) (r := v0) (av := [(0, 6), (0, v7)]) (code := c_X7_isWord) (pc := 91) (len := 3) (L := [(2, v0), (0, v1), (0, v2), (0, v3), (0, v4), (0, v5), (0, v6), (0, v7), (0, v8)]) (st := [(0, v7), (0, 6), (2, v0)]) rfl (Nat.le_of_ble_eq_true rfl) (Nat.le_of_ble_eq_true rfl) rfl).trans rfl
set_option maxRecDepth 100000 in
theorem e_X7_isWord_94 {sc : dS} {d : Nat} {K : List (Nat × Nat)} {M : dM} {v0 v1 v2 v3 v4 v5 v6 v7 v8 s0 : Int} : vr sc d c_X7_isWord (94, [(2, v0), (0, v1), (0, v2), (0, v3), (0, v4), (0, v5), (0, v6), (0, v7), (0, v8)], [(0, s0)], (K, M)) = (if s0 = 0 then some ([(0, 0)], (K, M)) else (if rg K 7 v0 = true then (vc sc d 130 [(2, v0), (0, 7), (0, v8)] (K, M)).bind (fun r => vr sc d c_X7_isWord (105, [(2, v0), (0, v1), (0, v2), (0, v3), (0, v4), (0, v5), (0, v6), (0, v7), (0, v8)], r.1 ++ [], r.2)) else none)) := by
  refine (v_if (k := 0) (b := 112) (c := s0 = 0) rfl rfl).trans ?_
  refine c_congr (fun _ => ?_) (fun _ => ?_)
  · refine (vr_steps 1 (x' := (113, [(2, v0), (0, v1), (0, v2), (0, v3), (0, v4), (0, v5), (0, v6), (0, v7), (0, v8)], [(0, 0)], (K, M))) rfl).trans ?_
    exact vr_ret (ai := (35, 1, 3, 0, [])) rfl rfl
  · refine (vr_steps 3 (x' := (102, [(2, v0), (0, v1), (0, v2), (0, v3), (0, v4), (0, v5), (0, v6), (0, v7), (0, v8)], [(0, v8), (0, 7), (2, v0)], (K, M))) rfl).trans ?_
    exact (v_virt (k := 130) (n := 3) (tag := 7) (r := v0) (av := [(0, 7), (0, v8)]) (code := c_X7_isWord) (pc := 102) (len := 3) (L := [(2, v0), (0, v1), (0, v2), (0, v3), (0, v4), (0, v5), (0, v6), (0, v7), (0, v8)]) (st := [(0, v8), (0, 7), (2, v0)]) rfl (Nat.le_of_ble_eq_true rfl) (Nat.le_of_ble_eq_true rfl) rfl).trans rfl
set_option maxRecDepth 100000 in
theorem e_X7_isWord_105 {sc : dS} {d : Nat} {K : List (Nat × Nat)} {M : dM} {v0 v1 v2 v3 v4 v5 v6 v7 v8 s0 : Int} : vr sc d c_X7_isWord (105, [(2, v0), (0, v1), (0, v2), (0, v3), (0, v4), (0, v5), (0, v6), (0, v7), (0, v8)], [(0, s0)], (K, M)) = (if s0 = 0 then some ([(0, 0)], (K, M)) else some ([(0, 1)], (K, M))) := by
  refine (v_if (k := 0) (b := 112) (c := s0 = 0) rfl rfl).trans ?_
  refine c_congr (fun _ => ?_) (fun _ => ?_)
  · refine (vr_steps 1 (x' := (113, [(2, v0), (0, v1), (0, v2), (0, v3), (0, v4), (0, v5), (0, v6), (0, v7), (0, v8)], [(0, 0)], (K, M))) rfl).trans ?_
    exact vr_ret (ai := (35, 1, 3, 0, [])) rfl rfl
  · refine (vr_steps 2 (x' := (113, [(2, v0), (0, v1), (0, v2), (0, v3), (0, v4), (0, v5), (0, v6), (0, v7), (0, v8)], [(0, 1)], (K, M))) rfl).trans ?_
    exact vr_ret (ai := (35, 1, 3, 0, [])) rfl rfl

noncomputable def c_X7_isSign : Nat → Option dI := d_mcode m_X7_isSign
set_option maxRecDepth 100000 in
theorem e_X7_isSign_0 {sc : dS} {d : Nat} {K : List (Nat × Nat)} {M : dM} {v0 v1 : Int} : vr sc d c_X7_isSign (0, [(2, v0), (0, v1)], [], (K, M)) = (if og K 7 v0 26 = true then (if ¬ (M v0 26) = 0 then some ([(0, 0)], (K, M)) else (if og K 7 v0 22 = true then (if ¬ (M v0 22) = 3 then some ([(0, 0)], (K, M)) else (if og K 7 v0 24 = true then (if ¬ (i_cmp (M v0 24) v1) = 0 then some ([(0, 0)], (K, M)) else some ([(0, 1)], (K, M))) else none)) else none)) else none) := by
  refine (vr_steps 1 (x' := (1, [(2, v0), (0, v1)], [(2, v0)], (K, M))) rfl).trans ?_
  refine (v_getf (a := 7) (b := 26) (t := 0) rfl rfl).trans ?_
  refine g_congr (fun _ => ?_)
  refine (v_if (k := 1) (b := 29) (c := ¬ (M v0 26) = 0) rfl rfl).trans ?_
  refine c_congr (fun _ => ?_) (fun _ => ?_)
  · refine (vr_steps 1 (x' := (30, [(2, v0), (0, v1)], [(0, 0)], (K, M))) rfl).trans ?_
    exact vr_ret (ai := (35, 1, 3, 0, [])) rfl rfl
  · refine (vr_steps 1 (x' := (8, [(2, v0), (0, v1)], [(2, v0)], (K, M))) rfl).trans ?_
    refine (v_getf (a := 7) (b := 22) (t := 0) rfl rfl).trans ?_
    refine g_congr (fun _ => ?_)
    refine (vr_steps 1 (x' := (12, [(2, v0), (0, v1)], [(0, 3), (0, M v0 22)], (K, M))) rfl).trans ?_
    refine (v_icmp (k := 1) (b := 29) (c := ¬ (M v0 22) = 3) rfl rfl).trans ?_
    refine c_congr (fun _ => ?_) (fun _ => ?_)
    · refine (vr_steps 1 (x' := (30, [(2, v0), (0, v1)], [(0, 0)], (K, M))) rfl).trans ?_
      exact vr_ret (ai := (35, 1, 3, 0, [])) rfl rfl
    · refine (vr_steps 1 (x' := (16, [(2, v0), (0, v1)], [(2, v0)], (K, M))) rfl).trans ?_
      refine (v_getf (a := 7) (b := 24) (t := 1) rfl rfl).trans ?_
      refine g_congr (fun _ => ?_)
      refine (vr_steps 3 (x' := (22, [(2, v0), (0, v1)], [(0, i_cmp (M v0 24) v1)], (K, M))) rfl).trans ?_
      refine (v_if (k := 1) (b := 29) (c := ¬ (i_cmp (M v0 24) v1) = 0) rfl rfl).trans ?_
      refine c_congr (fun _ => ?_) (fun _ => ?_)
      · refine (vr_steps 1 (x' := (30, [(2, v0), (0, v1)], [(0, 0)], (K, M))) rfl).trans ?_
        exact vr_ret (ai := (35, 1, 3, 0, [])) rfl rfl
      · refine (vr_steps 2 (x' := (30, [(2, v0), (0, v1)], [(0, 1)], (K, M))) rfl).trans ?_
        exact vr_ret (ai := (35, 1, 3, 0, [])) rfl rfl

noncomputable def c_X7_opens : Nat → Option dI := d_mcode m_X7_opens
set_option maxRecDepth 100000 in
theorem e_X7_opens_0 {sc : dS} {d : Nat} {K : List (Nat × Nat)} {M : dM} {v0 : Int} : vr sc d c_X7_opens (0, [(2, v0)], [], (K, M)) = (if og K 7 v0 25 = true then (if ¬ (M v0 25) = 5 then (if og K 7 v0 25 = true then (if og K 7 v0 25 = true then (if -2147483648 ≤ (w32 ((M v0 25) + 1)) ∧ (w32 ((M v0 25) + 1)) < 2147483648 then (if rg K 7 v0 = true then (vc sc d 128 [(2, v0)] (K, d_up M v0 25 (w32 ((M v0 25) + 1)))).bind (fun r => vr sc d c_X7_opens (28, [(2, v0)], r.1 ++ [], r.2)) else none) else none) else none) else none) else (if rg K 7 v0 = true then (vc sc d 129 [(2, v0)] (K, M)).bind (fun r => vr sc d c_X7_opens (12, [(2, v0)], r.1 ++ [], r.2)) else none)) else none) := by
  refine (vr_steps 1 (x' := (1, [(2, v0)], [(2, v0)], (K, M))) rfl).trans ?_
  refine (v_getf (a := 7) (b := 25) (t := 0) rfl rfl).trans ?_
  refine g_congr (fun _ => ?_)
  refine (vr_steps 1 (x' := (5, [(2, v0)], [(0, 5), (0, M v0 25)], (K, M))) rfl).trans ?_
  refine (v_icmp (k := 1) (b := 14) (c := ¬ (M v0 25) = 5) rfl rfl).trans ?_
  refine c_congr (fun _ => ?_) (fun _ => ?_)
  · refine (vr_steps 2 (x' := (16, [(2, v0)], [(2, v0), (2, v0)], (K, M))) rfl).trans ?_
    refine (v_getf (a := 7) (b := 25) (t := 0) rfl rfl).trans ?_
    refine g_congr (fun _ => ?_)
    refine (vr_steps 2 (x' := (21, [(2, v0)], [(0, w32 ((M v0 25) + 1)), (2, v0)], (K, M))) rfl).trans ?_
    refine (v_putf (a := 7) (b := 25) (t := 0) rfl rfl (by intro q; cases q)).trans ?_
    refine g_congr (fun _ => ?_)
    refine p_congr (fun _ => ?_)
    refine (vr_steps 1 (x' := (25, [(2, v0)], [(2, v0)], (K, d_up M v0 25 (w32 ((M v0 25) + 1))))) rfl).trans ?_
    exact (v_virt (k := 128) (n := 1) (tag := 7) (r := v0) (av := []) (code := c_X7_opens) (pc := 25) (len := 3) (L := [(2, v0)]) (st := [(2, v0)]) rfl (Nat.le_of_ble_eq_true rfl) (Nat.le_of_ble_eq_true rfl) rfl).trans rfl
  · refine (vr_steps 1 (x' := (9, [(2, v0)], [(2, v0)], (K, M))) rfl).trans ?_
    exact (v_virt (k := 129) (n := 1) (tag := 7) (r := v0) (av := []) (code := c_X7_opens) (pc := 9) (len := 3) (L := [(2, v0)]) (st := [(2, v0)]) rfl (Nat.le_of_ble_eq_true rfl) (Nat.le_of_ble_eq_true rfl) rfl).trans rfl
set_option maxRecDepth 100000 in
theorem e_X7_opens_12 {sc : dS} {d : Nat} {K : List (Nat × Nat)} {M : dM} {v0 : Int} : vr sc d c_X7_opens (12, [(2, v0)], [], (K, M)) = (some ([(0, 0)], (K, M))) := by
  refine (vr_steps 1 (x' := (13, [(2, v0)], [(0, 0)], (K, M))) rfl).trans ?_
  exact vr_ret (ai := (35, 1, 3, 0, [])) rfl rfl
set_option maxRecDepth 100000 in
theorem e_X7_opens_28 {sc : dS} {d : Nat} {K : List (Nat × Nat)} {M : dM} {v0 : Int} : vr sc d c_X7_opens (28, [(2, v0)], [], (K, M)) = (some ([(0, 1)], (K, M))) := by
  refine (vr_steps 1 (x' := (29, [(2, v0)], [(0, 1)], (K, M))) rfl).trans ?_
  exact vr_ret (ai := (35, 1, 3, 0, [])) rfl rfl

noncomputable def c_X7_name : Nat → Option dI := d_mcode m_X7_name
set_option maxRecDepth 100000 in
theorem e_X7_name_0 {sc : dS} {d : Nat} {K : List (Nat × Nat)} {M : dM} {v0 : Int} : vr sc d c_X7_name (0, [(2, v0)], [], (K, M)) = (if rg K 7 v0 = true then (vc sc d 131 [(2, v0), (0, 116), (0, 117), (0, 114), (0, 110), (0, 115), (0, 0), (0, 0), (0, 0)] (K, M)).bind (fun r => vr sc d c_X7_name (17, [(2, v0)], r.1 ++ [], r.2)) else none) := by
  refine (vr_steps 9 (x' := (14, [(2, v0)], [(0, 0), (0, 0), (0, 0), (0, 115), (0, 110), (0, 114), (0, 117), (0, 116), (2, v0)], (K, M))) rfl).trans ?_
  exact (v_virt (k := 131) (n := 9) (tag := 7) (r := v0) (av := [(0, 116), (0, 117), (0, 114), (0, 110), (0, 115), (0, 0), (0, 0), (0, 0)]) (code := c_X7_name) (pc := 14) (len := 3) (L := [(2, v0)]) (st := [(0, 0), (0, 0), (0, 0), (0, 115), (0, 110), (0, 114), (0, 117), (0, 116), (2, v0)]) rfl (Nat.le_of_ble_eq_true rfl) (Nat.le_of_ble_eq_true rfl) rfl).trans rfl
set_option maxRecDepth 100000 in
theorem e_X7_name_17 {sc : dS} {d : Nat} {K : List (Nat × Nat)} {M : dM} {v0 s0 : Int} : vr sc d c_X7_name (17, [(2, v0)], [(0, s0)], (K, M)) = (if s0 = 0 then (if rg K 7 v0 = true then (vc sc d 131 [(2, v0), (0, 115), (0, 107), (0, 105), (0, 108), (0, 108), (0, 0), (0, 0), (0, 0)] (K, M)).bind (fun r => vr sc d c_X7_name (42, [(2, v0)], r.1 ++ [], r.2)) else none) else (if og K 7 v0 13 = true then some ([(0, M v0 13)], (K, M)) else none)) := by
  refine (v_if (k := 0) (b := 25) (c := s0 = 0) rfl rfl).trans ?_
  refine c_congr (fun _ => ?_) (fun _ => ?_)
  · refine (vr_steps 9 (x' := (39, [(2, v0)], [(0, 0), (0, 0), (0, 0), (0, 108), (0, 108), (0, 105), (0, 107), (0, 115), (2, v0)], (K, M))) rfl).trans ?_
    exact (v_virt (k := 131) (n := 9) (tag := 7) (r := v0) (av := [(0, 115), (0, 107), (0, 105), (0, 108), (0, 108), (0, 0), (0, 0), (0, 0)]) (code := c_X7_name) (pc := 39) (len := 3) (L := [(2, v0)]) (st := [(0, 0), (0, 0), (0, 0), (0, 108), (0, 108), (0, 105), (0, 107), (0, 115), (2, v0)]) rfl (Nat.le_of_ble_eq_true rfl) (Nat.le_of_ble_eq_true rfl) rfl).trans rfl
  · refine (vr_steps 1 (x' := (21, [(2, v0)], [(2, v0)], (K, M))) rfl).trans ?_
    refine (v_getf (a := 7) (b := 13) (t := 0) rfl rfl).trans ?_
    refine g_congr (fun _ => ?_)
    exact vr_ret (ai := (35, 1, 1, 0, [])) rfl rfl
set_option maxRecDepth 100000 in
theorem e_X7_name_42 {sc : dS} {d : Nat} {K : List (Nat × Nat)} {M : dM} {v0 s0 : Int} : vr sc d c_X7_name (42, [(2, v0)], [(0, s0)], (K, M)) = (if s0 = 0 then (if rg K 7 v0 = true then (vc sc d 131 [(2, v0), (0, 119), (0, 97), (0, 108), (0, 107), (0, 0), (0, 0), (0, 0), (0, 0)] (K, M)).bind (fun r => vr sc d c_X7_name (66, [(2, v0)], r.1 ++ [], r.2)) else none) else (if og K 7 v0 14 = true then some ([(0, M v0 14)], (K, M)) else none)) := by
  refine (v_if (k := 0) (b := 50) (c := s0 = 0) rfl rfl).trans ?_
  refine c_congr (fun _ => ?_) (fun _ => ?_)
  · refine (vr_steps 9 (x' := (63, [(2, v0)], [(0, 0), (0, 0), (0, 0), (0, 0), (0, 107), (0, 108), (0, 97), (0, 119), (2, v0)], (K, M))) rfl).trans ?_
    exact (v_virt (k := 131) (n := 9) (tag := 7) (r := v0) (av := [(0, 119), (0, 97), (0, 108), (0, 107), (0, 0), (0, 0), (0, 0), (0, 0)]) (code := c_X7_name) (pc := 63) (len := 3) (L := [(2, v0)]) (st := [(0, 0), (0, 0), (0, 0), (0, 0), (0, 107), (0, 108), (0, 97), (0, 119), (2, v0)]) rfl (Nat.le_of_ble_eq_true rfl) (Nat.le_of_ble_eq_true rfl) rfl).trans rfl
  · refine (vr_steps 1 (x' := (46, [(2, v0)], [(2, v0)], (K, M))) rfl).trans ?_
    refine (v_getf (a := 7) (b := 14) (t := 0) rfl rfl).trans ?_
    refine g_congr (fun _ => ?_)
    exact vr_ret (ai := (35, 1, 1, 0, [])) rfl rfl
set_option maxRecDepth 100000 in
theorem e_X7_name_66 {sc : dS} {d : Nat} {K : List (Nat × Nat)} {M : dM} {v0 s0 : Int} : vr sc d c_X7_name (66, [(2, v0)], [(0, s0)], (K, M)) = (if s0 = 0 then (if rg K 7 v0 = true then (vc sc d 131 [(2, v0), (0, 119), (0, 101), (0, 116), (0, 0), (0, 0), (0, 0), (0, 0), (0, 0)] (K, M)).bind (fun r => vr sc d c_X7_name (89, [(2, v0)], r.1 ++ [], r.2)) else none) else (if og K 7 v0 15 = true then some ([(0, M v0 15)], (K, M)) else none)) := by
  refine (v_if (k := 0) (b := 74) (c := s0 = 0) rfl rfl).trans ?_
  refine c_congr (fun _ => ?_) (fun _ => ?_)
  · refine (vr_steps 9 (x' := (86, [(2, v0)], [(0, 0), (0, 0), (0, 0), (0, 0), (0, 0), (0, 116), (0, 101), (0, 119), (2, v0)], (K, M))) rfl).trans ?_
    exact (v_virt (k := 131) (n := 9) (tag := 7) (r := v0) (av := [(0, 119), (0, 101), (0, 116), (0, 0), (0, 0), (0, 0), (0, 0), (0, 0)]) (code := c_X7_name) (pc := 86) (len := 3) (L := [(2, v0)]) (st := [(0, 0), (0, 0), (0, 0), (0, 0), (0, 0), (0, 116), (0, 101), (0, 119), (2, v0)]) rfl (Nat.le_of_ble_eq_true rfl) (Nat.le_of_ble_eq_true rfl) rfl).trans rfl
  · refine (vr_steps 1 (x' := (70, [(2, v0)], [(2, v0)], (K, M))) rfl).trans ?_
    refine (v_getf (a := 7) (b := 15) (t := 0) rfl rfl).trans ?_
    refine g_congr (fun _ => ?_)
    exact vr_ret (ai := (35, 1, 1, 0, [])) rfl rfl
set_option maxRecDepth 100000 in
theorem e_X7_name_89 {sc : dS} {d : Nat} {K : List (Nat × Nat)} {M : dM} {v0 s0 : Int} : vr sc d c_X7_name (89, [(2, v0)], [(0, s0)], (K, M)) = (if s0 = 0 then (if rg K 7 v0 = true then (vc sc d 131 [(2, v0), (0, 110), (0, 117), (0, 109), (0, 98), (0, 101), (0, 114), (0, 0), (0, 0)] (K, M)).bind (fun r => vr sc d c_X7_name (115, [(2, v0)], r.1 ++ [], r.2)) else none) else (if og K 7 v0 16 = true then some ([(0, M v0 16)], (K, M)) else none)) := by
  refine (v_if (k := 0) (b := 97) (c := s0 = 0) rfl rfl).trans ?_
  refine c_congr (fun _ => ?_) (fun _ => ?_)
  · refine (vr_steps 9 (x' := (112, [(2, v0)], [(0, 0), (0, 0), (0, 114), (0, 101), (0, 98), (0, 109), (0, 117), (0, 110), (2, v0)], (K, M))) rfl).trans ?_
    exact (v_virt (k := 131) (n := 9) (tag := 7) (r := v0) (av := [(0, 110), (0, 117), (0, 109), (0, 98), (0, 101), (0, 114), (0, 0), (0, 0)]) (code := c_X7_name) (pc := 112) (len := 3) (L := [(2, v0)]) (st := [(0, 0), (0, 0), (0, 114), (0, 101), (0, 98), (0, 109), (0, 117), (0, 110), (2, v0)]) rfl (Nat.le_of_ble_eq_true rfl) (Nat.le_of_ble_eq_true rfl) rfl).trans rfl
  · refine (vr_steps 1 (x' := (93, [(2, v0)], [(2, v0)], (K, M))) rfl).trans ?_
    refine (v_getf (a := 7) (b := 16) (t := 0) rfl rfl).trans ?_
    refine g_congr (fun _ => ?_)
    exact vr_ret (ai := (35, 1, 1, 0, [])) rfl rfl
set_option maxRecDepth 100000 in
theorem e_X7_name_115 {sc : dS} {d : Nat} {K : List (Nat × Nat)} {M : dM} {v0 s0 : Int} : vr sc d c_X7_name (115, [(2, v0)], [(0, s0)], (K, M)) = (if s0 = 0 then (if rg K 7 v0 = true then (vc sc d 131 [(2, v0), (0, 100), (0, 97), (0, 121), (0, 0), (0, 0), (0, 0), (0, 0), (0, 0)] (K, M)).bind (fun r => vr sc d c_X7_name (138, [(2, v0)], r.1 ++ [], r.2)) else none) else (if og K 7 v0 17 = true then some ([(0, M v0 17)], (K, M)) else none)) := by
  refine (v_if (k := 0) (b := 123) (c := s0 = 0) rfl rfl).trans ?_
  refine c_congr (fun _ => ?_) (fun _ => ?_)
  · refine (vr_steps 9 (x' := (135, [(2, v0)], [(0, 0), (0, 0), (0, 0), (0, 0), (0, 0), (0, 121), (0, 97), (0, 100), (2, v0)], (K, M))) rfl).trans ?_
    exact (v_virt (k := 131) (n := 9) (tag := 7) (r := v0) (av := [(0, 100), (0, 97), (0, 121), (0, 0), (0, 0), (0, 0), (0, 0), (0, 0)]) (code := c_X7_name) (pc := 135) (len := 3) (L := [(2, v0)]) (st := [(0, 0), (0, 0), (0, 0), (0, 0), (0, 0), (0, 121), (0, 97), (0, 100), (2, v0)]) rfl (Nat.le_of_ble_eq_true rfl) (Nat.le_of_ble_eq_true rfl) rfl).trans rfl
  · refine (vr_steps 1 (x' := (119, [(2, v0)], [(2, v0)], (K, M))) rfl).trans ?_
    refine (v_getf (a := 7) (b := 17) (t := 0) rfl rfl).trans ?_
    refine g_congr (fun _ => ?_)
    exact vr_ret (ai := (35, 1, 1, 0, [])) rfl rfl
set_option maxRecDepth 100000 in
theorem e_X7_name_138 {sc : dS} {d : Nat} {K : List (Nat × Nat)} {M : dM} {v0 s0 : Int} : vr sc d c_X7_name (138, [(2, v0)], [(0, s0)], (K, M)) = (if s0 = 0 then (if rg K 7 v0 = true then (vc sc d 129 [(2, v0)] (K, M)).bind (fun r => vr sc d c_X7_name (150, [(2, v0)], r.1 ++ [], r.2)) else none) else (if og K 7 v0 18 = true then some ([(0, M v0 18)], (K, M)) else none)) := by
  refine (v_if (k := 0) (b := 146) (c := s0 = 0) rfl rfl).trans ?_
  refine c_congr (fun _ => ?_) (fun _ => ?_)
  · refine (vr_steps 1 (x' := (147, [(2, v0)], [(2, v0)], (K, M))) rfl).trans ?_
    exact (v_virt (k := 129) (n := 1) (tag := 7) (r := v0) (av := []) (code := c_X7_name) (pc := 147) (len := 3) (L := [(2, v0)]) (st := [(2, v0)]) rfl (Nat.le_of_ble_eq_true rfl) (Nat.le_of_ble_eq_true rfl) rfl).trans rfl
  · refine (vr_steps 1 (x' := (142, [(2, v0)], [(2, v0)], (K, M))) rfl).trans ?_
    refine (v_getf (a := 7) (b := 18) (t := 0) rfl rfl).trans ?_
    refine g_congr (fun _ => ?_)
    exact vr_ret (ai := (35, 1, 1, 0, [])) rfl rfl
set_option maxRecDepth 100000 in
theorem e_X7_name_150 {sc : dS} {d : Nat} {K : List (Nat × Nat)} {M : dM} {v0 : Int} : vr sc d c_X7_name (150, [(2, v0)], [], (K, M)) = (some ([(0, 0)], (K, M))) := by
  refine (vr_steps 1 (x' := (151, [(2, v0)], [(0, 0)], (K, M))) rfl).trans ?_
  exact vr_ret (ai := (35, 1, 1, 0, [])) rfl rfl

noncomputable def c_X7_atom : Nat → Option dI := d_mcode m_X7_atom
set_option maxRecDepth 100000 in
theorem e_X7_atom_0 {sc : dS} {d : Nat} {K : List (Nat × Nat)} {M : dM} {v0 : Int} {q1 : dV} : vr sc d c_X7_atom (0, [(2, v0), q1], [], (K, M)) = (if rg K 7 v0 = true then (vc sc d 132 [(2, v0), (0, 45)] (K, M)).bind (fun r => vr sc d c_X7_atom (8, [(2, v0), (0, 0)], r.1 ++ [], r.2)) else none) := by
  refine (vr_steps 4 (x' := (5, [(2, v0), (0, 0)], [(0, 45), (2, v0)], (K, M))) rfl).trans ?_
  exact (v_virt (k := 132) (n := 2) (tag := 7) (r := v0) (av := [(0, 45)]) (code := c_X7_atom) (pc := 5) (len := 3) (L := [(2, v0), (0, 0)]) (st := [(0, 45), (2, v0)]) rfl (Nat.le_of_ble_eq_true rfl) (Nat.le_of_ble_eq_true rfl) rfl).trans rfl
set_option maxRecDepth 100000 in
theorem e_X7_atom_8 {sc : dS} {d : Nat} {K : List (Nat × Nat)} {M : dM} {v0 v1 s0 : Int} : vr sc d c_X7_atom (8, [(2, v0), (0, v1)], [(0, s0)], (K, M)) = (if s0 = 0 then (if rg K 7 v0 = true then (vc sc d 132 [(2, v0), (0, 40)] (K, M)).bind (fun r => vr sc d c_X7_atom (43, [(2, v0), (0, v1)], r.1 ++ [], r.2)) else none) else (if rg K 7 v0 = true then (vc sc d 133 [(2, v0)] (K, M)).bind (fun r => vr sc d c_X7_atom (15, [(2, v0), (0, v1)], r.1 ++ [], r.2)) else none)) := by
  refine (v_if (k := 0) (b := 37) (c := s0 = 0) rfl rfl).trans ?_
  refine c_congr (fun _ => ?_) (fun _ => ?_)
  · refine (vr_steps 2 (x' := (40, [(2, v0), (0, v1)], [(0, 40), (2, v0)], (K, M))) rfl).trans ?_
    exact (v_virt (k := 132) (n := 2) (tag := 7) (r := v0) (av := [(0, 40)]) (code := c_X7_atom) (pc := 40) (len := 3) (L := [(2, v0), (0, v1)]) (st := [(0, 40), (2, v0)]) rfl (Nat.le_of_ble_eq_true rfl) (Nat.le_of_ble_eq_true rfl) rfl).trans rfl
  · refine (vr_steps 1 (x' := (12, [(2, v0), (0, v1)], [(2, v0)], (K, M))) rfl).trans ?_
    exact (v_virt (k := 133) (n := 1) (tag := 7) (r := v0) (av := []) (code := c_X7_atom) (pc := 12) (len := 3) (L := [(2, v0), (0, v1)]) (st := [(2, v0)]) rfl (Nat.le_of_ble_eq_true rfl) (Nat.le_of_ble_eq_true rfl) rfl).trans rfl
set_option maxRecDepth 100000 in
theorem e_X7_atom_15 {sc : dS} {d : Nat} {K : List (Nat × Nat)} {M : dM} {v0 v1 s0 : Int} : vr sc d c_X7_atom (15, [(2, v0), (0, v1)], [(0, s0)], (K, M)) = (if s0 = 0 then vr sc d c_X7_atom (161, [(2, v0), (0, v1)], [], (K, M)) else (if rg K 7 v0 = true then (vc sc d 135 [(2, v0)] (K, M)).bind (fun r => vr sc d c_X7_atom (22, [(2, v0), (0, v1)], r.1 ++ [], r.2)) else none)) := by
  refine (v_if (k := 0) (b := 161) (c := s0 = 0) rfl rfl).trans ?_
  refine c_congr (fun _ => ?_) (fun _ => ?_)
  · rfl
  · refine (vr_steps 1 (x' := (19, [(2, v0), (0, v1)], [(2, v0)], (K, M))) rfl).trans ?_
    exact (v_virt (k := 135) (n := 1) (tag := 7) (r := v0) (av := []) (code := c_X7_atom) (pc := 19) (len := 3) (L := [(2, v0), (0, v1)]) (st := [(2, v0)]) rfl (Nat.le_of_ble_eq_true rfl) (Nat.le_of_ble_eq_true rfl) rfl).trans rfl
set_option maxRecDepth 100000 in
theorem e_X7_atom_22 {sc : dS} {d : Nat} {K : List (Nat × Nat)} {M : dM} {v0 v1 s0 : Int} : vr sc d c_X7_atom (22, [(2, v0), (0, v1)], [(0, s0)], (K, M)) = (if og K 7 v0 25 = true then (if og K 7 v0 25 = true then (if -2147483648 ≤ (w32 ((M v0 25) - 1)) ∧ (w32 ((M v0 25) - 1)) < 2147483648 then vr sc d c_X7_atom (161, [(2, v0), (0, w32 (-s0))], [], (K, d_up M v0 25 (w32 ((M v0 25) - 1)))) else none) else none) else none) := by
  refine (vr_steps 4 (x' := (26, [(2, v0), (0, w32 (-s0))], [(2, v0), (2, v0)], (K, M))) rfl).trans ?_
  refine (v_getf (a := 7) (b := 25) (t := 0) rfl rfl).trans ?_
  refine g_congr (fun _ => ?_)
  refine (vr_steps 2 (x' := (31, [(2, v0), (0, w32 (-s0))], [(0, w32 ((M v0 25) - 1)), (2, v0)], (K, M))) rfl).trans ?_
  refine (v_putf (a := 7) (b := 25) (t := 0) rfl rfl (by intro q; cases q)).trans ?_
  refine g_congr (fun _ => ?_)
  refine p_congr (fun _ => ?_)
  exact vr_steps 1 rfl
set_option maxRecDepth 100000 in
theorem e_X7_atom_43 {sc : dS} {d : Nat} {K : List (Nat × Nat)} {M : dM} {v0 v1 s0 : Int} : vr sc d c_X7_atom (43, [(2, v0), (0, v1)], [(0, s0)], (K, M)) = (if s0 = 0 then (if og K 7 v0 26 = true then (if ¬ (M v0 26) = 0 then (if og K 7 v0 26 = true then (if ¬ (M v0 26) = 0 then (if rg K 7 v0 = true then (vc sc d 129 [(2, v0)] (K, M)).bind (fun r => vr sc d c_X7_atom (161, [(2, v0), (0, v1)], r.1 ++ [], r.2)) else none) else (if og K 7 v0 22 = true then (if ¬ (M v0 22) = 1 then (if rg K 7 v0 = true then (vc sc d 129 [(2, v0)] (K, M)).bind (fun r => vr sc d c_X7_atom (161, [(2, v0), (0, v1)], r.1 ++ [], r.2)) else none) else (if rg K 7 v0 = true then (vc sc d 134 [(2, v0)] (K, M)).bind (fun r => vr sc d c_X7_atom (142, [(2, v0), (0, v1)], r.1 ++ [], r.2)) else none)) else none)) else none) else (if og K 7 v0 22 = true then (if ¬ (M v0 22) = 2 then (if og K 7 v0 26 = true then (if ¬ (M v0 26) = 0 then (if rg K 7 v0 = true then (vc sc d 129 [(2, v0)] (K, M)).bind (fun r => vr sc d c_X7_atom (161, [(2, v0), (0, v1)], r.1 ++ [], r.2)) else none) else (if og K 7 v0 22 = true then (if ¬ (M v0 22) = 1 then (if rg K 7 v0 = true then (vc sc d 129 [(2, v0)] (K, M)).bind (fun r => vr sc d c_X7_atom (161, [(2, v0), (0, v1)], r.1 ++ [], r.2)) else none) else (if rg K 7 v0 = true then (vc sc d 134 [(2, v0)] (K, M)).bind (fun r => vr sc d c_X7_atom (142, [(2, v0), (0, v1)], r.1 ++ [], r.2)) else none)) else none)) else none) else (if og K 7 v0 24 = true then (if rg K 7 v0 = true then (vc sc d 128 [(2, v0)] (K, M)).bind (fun r => vr sc d c_X7_atom (120, [(2, v0), (0, w32 (M v0 24))], r.1 ++ [], r.2)) else none) else none)) else none)) else none) else (if rg K 7 v0 = true then (vc sc d 133 [(2, v0)] (K, M)).bind (fun r => vr sc d c_X7_atom (50, [(2, v0), (0, v1)], r.1 ++ [], r.2)) else none)) := by
  refine (v_if (k := 0) (b := 95) (c := s0 = 0) rfl rfl).trans ?_
  refine c_congr (fun _ => ?_) (fun _ => ?_)
  · refine (vr_steps 1 (x' := (96, [(2, v0), (0, v1)], [(2, v0)], (K, M))) rfl).trans ?_
    refine (v_getf (a := 7) (b := 26) (t := 0) rfl rfl).trans ?_
    refine g_congr (fun _ => ?_)
    refine (v_if (k := 1) (b := 123) (c := ¬ (M v0 26) = 0) rfl rfl).trans ?_
    refine c_congr (fun _ => ?_) (fun _ => ?_)
    · refine (vr_steps 1 (x' := (124, [(2, v0), (0, v1)], [(2, v0)], (K, M))) rfl).trans ?_
      refine (v_getf (a := 7) (b := 26) (t := 0) rfl rfl).trans ?_
      refine g_congr (fun _ => ?_)
      refine (v_if (k := 1) (b := 157) (c := ¬ (M v0 26) = 0) rfl rfl).trans ?_
      refine c_congr (fun _ => ?_) (fun _ => ?_)
      · refine (vr_steps 1 (x' := (158, [(2, v0), (0, v1)], [(2, v0)], (K, M))) rfl).trans ?_
        exact (v_virt (k := 129) (n := 1) (tag := 7) (r := v0) (av := []) (code := c_X7_atom) (pc := 158) (len := 3) (L := [(2, v0), (0, v1)]) (st := [(2, v0)]) rfl (Nat.le_of_ble_eq_true rfl) (Nat.le_of_ble_eq_true rfl) rfl).trans rfl
      · refine (vr_steps 1 (x' := (131, [(2, v0), (0, v1)], [(2, v0)], (K, M))) rfl).trans ?_
        refine (v_getf (a := 7) (b := 22) (t := 0) rfl rfl).trans ?_
        refine g_congr (fun _ => ?_)
        refine (vr_steps 1 (x' := (135, [(2, v0), (0, v1)], [(0, 1), (0, M v0 22)], (K, M))) rfl).trans ?_
        refine (v_icmp (k := 1) (b := 157) (c := ¬ (M v0 22) = 1) rfl rfl).trans ?_
        refine c_congr (fun _ => ?_) (fun _ => ?_)
        · refine (vr_steps 1 (x' := (158, [(2, v0), (0, v1)], [(2, v0)], (K, M))) rfl).trans ?_
          exact (v_virt (k := 129) (n := 1) (tag := 7) (r := v0) (av := []) (code := c_X7_atom) (pc := 158) (len := 3) (L := [(2, v0), (0, v1)]) (st := [(2, v0)]) rfl (Nat.le_of_ble_eq_true rfl) (Nat.le_of_ble_eq_true rfl) rfl).trans rfl
        · refine (vr_steps 1 (x' := (139, [(2, v0), (0, v1)], [(2, v0)], (K, M))) rfl).trans ?_
          exact (v_virt (k := 134) (n := 1) (tag := 7) (r := v0) (av := []) (code := c_X7_atom) (pc := 139) (len := 3) (L := [(2, v0), (0, v1)]) (st := [(2, v0)]) rfl (Nat.le_of_ble_eq_true rfl) (Nat.le_of_ble_eq_true rfl) rfl).trans rfl
    · refine (vr_steps 1 (x' := (103, [(2, v0), (0, v1)], [(2, v0)], (K, M))) rfl).trans ?_
      refine (v_getf (a := 7) (b := 22) (t := 0) rfl rfl).trans ?_
      refine g_congr (fun _ => ?_)
      refine (vr_steps 1 (x' := (107, [(2, v0), (0, v1)], [(0, 2), (0, M v0 22)], (K, M))) rfl).trans ?_
      refine (v_icmp (k := 1) (b := 123) (c := ¬ (M v0 22) = 2) rfl rfl).trans ?_
      refine c_congr (fun _ => ?_) (fun _ => ?_)
      · refine (vr_steps 1 (x' := (124, [(2, v0), (0, v1)], [(2, v0)], (K, M))) rfl).trans ?_
        refine (v_getf (a := 7) (b := 26) (t := 0) rfl rfl).trans ?_
        refine g_congr (fun _ => ?_)
        refine (v_if (k := 1) (b := 157) (c := ¬ (M v0 26) = 0) rfl rfl).trans ?_
        refine c_congr (fun _ => ?_) (fun _ => ?_)
        · refine (vr_steps 1 (x' := (158, [(2, v0), (0, v1)], [(2, v0)], (K, M))) rfl).trans ?_
          exact (v_virt (k := 129) (n := 1) (tag := 7) (r := v0) (av := []) (code := c_X7_atom) (pc := 158) (len := 3) (L := [(2, v0), (0, v1)]) (st := [(2, v0)]) rfl (Nat.le_of_ble_eq_true rfl) (Nat.le_of_ble_eq_true rfl) rfl).trans rfl
        · refine (vr_steps 1 (x' := (131, [(2, v0), (0, v1)], [(2, v0)], (K, M))) rfl).trans ?_
          refine (v_getf (a := 7) (b := 22) (t := 0) rfl rfl).trans ?_
          refine g_congr (fun _ => ?_)
          refine (vr_steps 1 (x' := (135, [(2, v0), (0, v1)], [(0, 1), (0, M v0 22)], (K, M))) rfl).trans ?_
          refine (v_icmp (k := 1) (b := 157) (c := ¬ (M v0 22) = 1) rfl rfl).trans ?_
          refine c_congr (fun _ => ?_) (fun _ => ?_)
          · refine (vr_steps 1 (x' := (158, [(2, v0), (0, v1)], [(2, v0)], (K, M))) rfl).trans ?_
            exact (v_virt (k := 129) (n := 1) (tag := 7) (r := v0) (av := []) (code := c_X7_atom) (pc := 158) (len := 3) (L := [(2, v0), (0, v1)]) (st := [(2, v0)]) rfl (Nat.le_of_ble_eq_true rfl) (Nat.le_of_ble_eq_true rfl) rfl).trans rfl
          · refine (vr_steps 1 (x' := (139, [(2, v0), (0, v1)], [(2, v0)], (K, M))) rfl).trans ?_
            exact (v_virt (k := 134) (n := 1) (tag := 7) (r := v0) (av := []) (code := c_X7_atom) (pc := 139) (len := 3) (L := [(2, v0), (0, v1)]) (st := [(2, v0)]) rfl (Nat.le_of_ble_eq_true rfl) (Nat.le_of_ble_eq_true rfl) rfl).trans rfl
      · refine (vr_steps 1 (x' := (111, [(2, v0), (0, v1)], [(2, v0)], (K, M))) rfl).trans ?_
        refine (v_getf (a := 7) (b := 24) (t := 1) rfl rfl).trans ?_
        refine g_congr (fun _ => ?_)
        refine (vr_steps 3 (x' := (117, [(2, v0), (0, w32 (M v0 24))], [(2, v0)], (K, M))) rfl).trans ?_
        exact (v_virt (k := 128) (n := 1) (tag := 7) (r := v0) (av := []) (code := c_X7_atom) (pc := 117) (len := 3) (L := [(2, v0), (0, w32 (M v0 24))]) (st := [(2, v0)]) rfl (Nat.le_of_ble_eq_true rfl) (Nat.le_of_ble_eq_true rfl) rfl).trans rfl
  · refine (vr_steps 1 (x' := (47, [(2, v0), (0, v1)], [(2, v0)], (K, M))) rfl).trans ?_
    exact (v_virt (k := 133) (n := 1) (tag := 7) (r := v0) (av := []) (code := c_X7_atom) (pc := 47) (len := 3) (L := [(2, v0), (0, v1)]) (st := [(2, v0)]) rfl (Nat.le_of_ble_eq_true rfl) (Nat.le_of_ble_eq_true rfl) rfl).trans rfl
set_option maxRecDepth 100000 in
theorem e_X7_atom_50 {sc : dS} {d : Nat} {K : List (Nat × Nat)} {M : dM} {v0 v1 s0 : Int} : vr sc d c_X7_atom (50, [(2, v0), (0, v1)], [(0, s0)], (K, M)) = (if s0 = 0 then vr sc d c_X7_atom (161, [(2, v0), (0, v1)], [], (K, M)) else (if rg K 7 v0 = true then (vc sc d 140 [(2, v0)] (K, M)).bind (fun r => vr sc d c_X7_atom (57, [(2, v0), (0, v1)], r.1 ++ [], r.2)) else none)) := by
  refine (v_if (k := 0) (b := 161) (c := s0 = 0) rfl rfl).trans ?_
  refine c_congr (fun _ => ?_) (fun _ => ?_)
  · rfl
  · refine (vr_steps 1 (x' := (54, [(2, v0), (0, v1)], [(2, v0)], (K, M))) rfl).trans ?_
    exact (v_virt (k := 140) (n := 1) (tag := 7) (r := v0) (av := []) (code := c_X7_atom) (pc := 54) (len := 3) (L := [(2, v0), (0, v1)]) (st := [(2, v0)]) rfl (Nat.le_of_ble_eq_true rfl) (Nat.le_of_ble_eq_true rfl) rfl).trans rfl
set_option maxRecDepth 100000 in
theorem e_X7_atom_57 {sc : dS} {d : Nat} {K : List (Nat × Nat)} {M : dM} {v0 v1 s0 : Int} : vr sc d c_X7_atom (57, [(2, v0), (0, v1)], [(0, s0)], (K, M)) = (if rg K 7 v0 = true then (vc sc d 132 [(2, v0), (0, 41)] (K, M)).bind (fun r => vr sc d c_X7_atom (64, [(2, v0), (0, s0)], r.1 ++ [], r.2)) else none) := by
  refine (vr_steps 3 (x' := (61, [(2, v0), (0, s0)], [(0, 41), (2, v0)], (K, M))) rfl).trans ?_
  exact (v_virt (k := 132) (n := 2) (tag := 7) (r := v0) (av := [(0, 41)]) (code := c_X7_atom) (pc := 61) (len := 3) (L := [(2, v0), (0, s0)]) (st := [(0, 41), (2, v0)]) rfl (Nat.le_of_ble_eq_true rfl) (Nat.le_of_ble_eq_true rfl) rfl).trans rfl
set_option maxRecDepth 100000 in
theorem e_X7_atom_64 {sc : dS} {d : Nat} {K : List (Nat × Nat)} {M : dM} {v0 v1 s0 : Int} : vr sc d c_X7_atom (64, [(2, v0), (0, v1)], [(0, s0)], (K, M)) = (if ¬ s0 = 0 then vr sc d c_X7_atom (71, [(2, v0), (0, v1)], [], (K, M)) else (if rg K 7 v0 = true then (vc sc d 129 [(2, v0)] (K, M)).bind (fun r => vr sc d c_X7_atom (71, [(2, v0), (0, v1)], r.1 ++ [], r.2)) else none)) := by
  refine (v_if (k := 1) (b := 71) (c := ¬ s0 = 0) rfl rfl).trans ?_
  refine c_congr (fun _ => ?_) (fun _ => ?_)
  · rfl
  · refine (vr_steps 1 (x' := (68, [(2, v0), (0, v1)], [(2, v0)], (K, M))) rfl).trans ?_
    exact (v_virt (k := 129) (n := 1) (tag := 7) (r := v0) (av := []) (code := c_X7_atom) (pc := 68) (len := 3) (L := [(2, v0), (0, v1)]) (st := [(2, v0)]) rfl (Nat.le_of_ble_eq_true rfl) (Nat.le_of_ble_eq_true rfl) rfl).trans rfl
set_option maxRecDepth 100000 in
theorem e_X7_atom_71 {sc : dS} {d : Nat} {K : List (Nat × Nat)} {M : dM} {v0 v1 : Int} : vr sc d c_X7_atom (71, [(2, v0), (0, v1)], [], (K, M)) = (if og K 7 v0 25 = true then (if og K 7 v0 25 = true then (if -2147483648 ≤ (w32 ((M v0 25) - 1)) ∧ (w32 ((M v0 25) - 1)) < 2147483648 then (if og K 7 v0 26 = true then (if ¬ ((d_up M v0 25 (w32 ((M v0 25) - 1))) v0 26) = 0 then vr sc d c_X7_atom (161, [(2, v0), (0, v1)], [], (K, d_up M v0 25 (w32 ((M v0 25) - 1)))) else (if rg K 7 v0 = true then (vc sc d 128 [(2, v0)] (K, d_up M v0 25 (w32 ((M v0 25) - 1)))).bind (fun r => vr sc d c_X7_atom (92, [(2, v0), (0, v1)], r.1 ++ [], r.2)) else none)) else none) else none) else none) else none) := by
  refine (vr_steps 2 (x' := (73, [(2, v0), (0, v1)], [(2, v0), (2, v0)], (K, M))) rfl).trans ?_
  refine (v_getf (a := 7) (b := 25) (t := 0) rfl rfl).trans ?_
  refine g_congr (fun _ => ?_)
  refine (vr_steps 2 (x' := (78, [(2, v0), (0, v1)], [(0, w32 ((M v0 25) - 1)), (2, v0)], (K, M))) rfl).trans ?_
  refine (v_putf (a := 7) (b := 25) (t := 0) rfl rfl (by intro q; cases q)).trans ?_
  refine g_congr (fun _ => ?_)
  refine p_congr (fun _ => ?_)
  refine (vr_steps 1 (x' := (82, [(2, v0), (0, v1)], [(2, v0)], (K, d_up M v0 25 (w32 ((M v0 25) - 1))))) rfl).trans ?_
  refine (v_getf (a := 7) (b := 26) (t := 0) rfl rfl).trans ?_
  refine g_congr (fun _ => ?_)
  refine (v_if (k := 1) (b := 161) (c := ¬ ((d_up M v0 25 (w32 ((M v0 25) - 1))) v0 26) = 0) rfl rfl).trans ?_
  refine c_congr (fun _ => ?_) (fun _ => ?_)
  · rfl
  · refine (vr_steps 1 (x' := (89, [(2, v0), (0, v1)], [(2, v0)], (K, d_up M v0 25 (w32 ((M v0 25) - 1))))) rfl).trans ?_
    exact (v_virt (k := 128) (n := 1) (tag := 7) (r := v0) (av := []) (code := c_X7_atom) (pc := 89) (len := 3) (L := [(2, v0), (0, v1)]) (st := [(2, v0)]) rfl (Nat.le_of_ble_eq_true rfl) (Nat.le_of_ble_eq_true rfl) rfl).trans rfl
set_option maxRecDepth 100000 in
theorem e_X7_atom_92 {sc : dS} {d : Nat} {K : List (Nat × Nat)} {M : dM} {v0 v1 : Int} : vr sc d c_X7_atom (92, [(2, v0), (0, v1)], [], (K, M)) = (vr sc d c_X7_atom (161, [(2, v0), (0, v1)], [], (K, M))) := by
  exact vr_steps 1 rfl
set_option maxRecDepth 100000 in
theorem e_X7_atom_120 {sc : dS} {d : Nat} {K : List (Nat × Nat)} {M : dM} {v0 v1 : Int} : vr sc d c_X7_atom (120, [(2, v0), (0, v1)], [], (K, M)) = (vr sc d c_X7_atom (161, [(2, v0), (0, v1)], [], (K, M))) := by
  exact vr_steps 1 rfl
set_option maxRecDepth 100000 in
theorem e_X7_atom_142 {sc : dS} {d : Nat} {K : List (Nat × Nat)} {M : dM} {v0 v1 s0 : Int} : vr sc d c_X7_atom (142, [(2, v0), (0, v1)], [(0, s0)], (K, M)) = (if og K 7 v0 26 = true then (if ¬ (M v0 26) = 0 then vr sc d c_X7_atom (161, [(2, v0), (0, s0)], [], (K, M)) else (if rg K 7 v0 = true then (vc sc d 128 [(2, v0)] (K, M)).bind (fun r => vr sc d c_X7_atom (154, [(2, v0), (0, s0)], r.1 ++ [], r.2)) else none)) else none) := by
  refine (vr_steps 2 (x' := (144, [(2, v0), (0, s0)], [(2, v0)], (K, M))) rfl).trans ?_
  refine (v_getf (a := 7) (b := 26) (t := 0) rfl rfl).trans ?_
  refine g_congr (fun _ => ?_)
  refine (v_if (k := 1) (b := 161) (c := ¬ (M v0 26) = 0) rfl rfl).trans ?_
  refine c_congr (fun _ => ?_) (fun _ => ?_)
  · rfl
  · refine (vr_steps 1 (x' := (151, [(2, v0), (0, s0)], [(2, v0)], (K, M))) rfl).trans ?_
    exact (v_virt (k := 128) (n := 1) (tag := 7) (r := v0) (av := []) (code := c_X7_atom) (pc := 151) (len := 3) (L := [(2, v0), (0, s0)]) (st := [(2, v0)]) rfl (Nat.le_of_ble_eq_true rfl) (Nat.le_of_ble_eq_true rfl) rfl).trans rfl
set_option maxRecDepth 100000 in
theorem e_X7_atom_154 {sc : dS} {d : Nat} {K : List (Nat × Nat)} {M : dM} {v0 v1 : Int} : vr sc d c_X7_atom (154, [(2, v0), (0, v1)], [], (K, M)) = (vr sc d c_X7_atom (161, [(2, v0), (0, v1)], [], (K, M))) := by
  exact vr_steps 1 rfl
set_option maxRecDepth 100000 in
theorem e_X7_atom_161 {sc : dS} {d : Nat} {K : List (Nat × Nat)} {M : dM} {v0 v1 : Int} : vr sc d c_X7_atom (161, [(2, v0), (0, v1)], [], (K, M)) = (some ([(0, v1)], (K, M))) := by
  refine (vr_steps 1 (x' := (162, [(2, v0), (0, v1)], [(0, v1)], (K, M))) rfl).trans ?_
  exact vr_ret (ai := (35, 1, 1, 0, [])) rfl rfl

noncomputable def c_X7_term : Nat → Option dI := d_mcode m_X7_term
set_option maxRecDepth 100000 in
theorem e_X7_term_0 {sc : dS} {d : Nat} {K : List (Nat × Nat)} {M : dM} {v0 : Int} {q1 : dV} : vr sc d c_X7_term (0, [(2, v0), q1], [], (K, M)) = (if rg K 7 v0 = true then (vc sc d 135 [(2, v0)] (K, M)).bind (fun r => vr sc d c_X7_term (4, [(2, v0), q1], r.1 ++ [], r.2)) else none) := by
  refine (vr_steps 1 (x' := (1, [(2, v0), q1], [(2, v0)], (K, M))) rfl).trans ?_
  exact (v_virt (k := 135) (n := 1) (tag := 7) (r := v0) (av := []) (code := c_X7_term) (pc := 1) (len := 3) (L := [(2, v0), q1]) (st := [(2, v0)]) rfl (Nat.le_of_ble_eq_true rfl) (Nat.le_of_ble_eq_true rfl) rfl).trans rfl
set_option maxRecDepth 100000 in
theorem e_X7_term_4 {sc : dS} {d : Nat} {K : List (Nat × Nat)} {M : dM} {v0 s0 : Int} {q1 : dV} : vr sc d c_X7_term (4, [(2, v0), q1], [(0, s0)], (K, M)) = (vr sc d c_X7_term (5, [(2, v0), (0, s0)], [], (K, M))) := by
  exact vr_steps 1 rfl
set_option maxRecDepth 100000 in
theorem e_X7_term_5 {sc : dS} {d : Nat} {K : List (Nat × Nat)} {M : dM} {v0 v1 : Int} : vr sc d c_X7_term (5, [(2, v0), (0, v1)], [], (K, M)) = (if rg K 7 v0 = true then (vc sc d 132 [(2, v0), (0, 42)] (K, M)).bind (fun r => vr sc d c_X7_term (11, [(2, v0), (0, v1)], r.1 ++ [], r.2)) else none) := by
  refine (vr_steps 2 (x' := (8, [(2, v0), (0, v1)], [(0, 42), (2, v0)], (K, M))) rfl).trans ?_
  exact (v_virt (k := 132) (n := 2) (tag := 7) (r := v0) (av := [(0, 42)]) (code := c_X7_term) (pc := 8) (len := 3) (L := [(2, v0), (0, v1)]) (st := [(0, 42), (2, v0)]) rfl (Nat.le_of_ble_eq_true rfl) (Nat.le_of_ble_eq_true rfl) rfl).trans rfl
set_option maxRecDepth 100000 in
theorem e_X7_term_11 {sc : dS} {d : Nat} {K : List (Nat × Nat)} {M : dM} {v0 v1 s0 : Int} : vr sc d c_X7_term (11, [(2, v0), (0, v1)], [(0, s0)], (K, M)) = (if s0 = 0 then some ([(0, v1)], (K, M)) else (if rg K 7 v0 = true then (vc sc d 128 [(2, v0)] (K, M)).bind (fun r => vr sc d c_X7_term (18, [(2, v0), (0, v1)], r.1 ++ [], r.2)) else none)) := by
  refine (v_if (k := 0) (b := 28) (c := s0 = 0) rfl rfl).trans ?_
  refine c_congr (fun _ => ?_) (fun _ => ?_)
  · refine (vr_steps 1 (x' := (29, [(2, v0), (0, v1)], [(0, v1)], (K, M))) rfl).trans ?_
    exact vr_ret (ai := (35, 1, 1, 0, [])) rfl rfl
  · refine (vr_steps 1 (x' := (15, [(2, v0), (0, v1)], [(2, v0)], (K, M))) rfl).trans ?_
    exact (v_virt (k := 128) (n := 1) (tag := 7) (r := v0) (av := []) (code := c_X7_term) (pc := 15) (len := 3) (L := [(2, v0), (0, v1)]) (st := [(2, v0)]) rfl (Nat.le_of_ble_eq_true rfl) (Nat.le_of_ble_eq_true rfl) rfl).trans rfl
set_option maxRecDepth 100000 in
theorem e_X7_term_18 {sc : dS} {d : Nat} {K : List (Nat × Nat)} {M : dM} {v0 v1 : Int} : vr sc d c_X7_term (18, [(2, v0), (0, v1)], [], (K, M)) = (if rg K 7 v0 = true then (vc sc d 135 [(2, v0)] (K, M)).bind (fun r => vr sc d c_X7_term (23, [(2, v0), (0, v1)], r.1 ++ [(0, v1)], r.2)) else none) := by
  refine (vr_steps 2 (x' := (20, [(2, v0), (0, v1)], [(2, v0), (0, v1)], (K, M))) rfl).trans ?_
  exact (v_virt (k := 135) (n := 1) (tag := 7) (r := v0) (av := []) (code := c_X7_term) (pc := 20) (len := 3) (L := [(2, v0), (0, v1)]) (st := [(2, v0), (0, v1)]) rfl (Nat.le_of_ble_eq_true rfl) (Nat.le_of_ble_eq_true rfl) rfl).trans rfl
set_option maxRecDepth 100000 in
theorem e_X7_term_23 {sc : dS} {d : Nat} {K : List (Nat × Nat)} {M : dM} {v0 v1 s0 s1 : Int} : vr sc d c_X7_term (23, [(2, v0), (0, v1)], [(0, s1), (0, s0)], (K, M)) = (vr sc d c_X7_term (5, [(2, v0), (0, w32 (s0 * s1))], [], (K, M))) := by
  exact vr_steps 3 rfl

noncomputable def c_X7_added : Nat → Option dI := d_mcode m_X7_added
set_option maxRecDepth 100000 in
theorem e_X7_added_0 {sc : dS} {d : Nat} {K : List (Nat × Nat)} {M : dM} {v0 : Int} {q1 q2 q3 : dV} : vr sc d c_X7_added (0, [(2, v0), q1, q2, q3], [], (K, M)) = (if rg K 7 v0 = true then (vc sc d 136 [(2, v0)] (K, M)).bind (fun r => vr sc d c_X7_added (4, [(2, v0), q1, q2, q3], r.1 ++ [], r.2)) else none) := by
  refine (vr_steps 1 (x' := (1, [(2, v0), q1, q2, q3], [(2, v0)], (K, M))) rfl).trans ?_
  exact (v_virt (k := 136) (n := 1) (tag := 7) (r := v0) (av := []) (code := c_X7_added) (pc := 1) (len := 3) (L := [(2, v0), q1, q2, q3]) (st := [(2, v0)]) rfl (Nat.le_of_ble_eq_true rfl) (Nat.le_of_ble_eq_true rfl) rfl).trans rfl
set_option maxRecDepth 100000 in
theorem e_X7_added_4 {sc : dS} {d : Nat} {K : List (Nat × Nat)} {M : dM} {v0 s0 : Int} {q1 q2 q3 : dV} : vr sc d c_X7_added (4, [(2, v0), q1, q2, q3], [(0, s0)], (K, M)) = (vr sc d c_X7_added (5, [(2, v0), (0, s0), q2, q3], [], (K, M))) := by
  exact vr_steps 1 rfl
set_option maxRecDepth 100000 in
theorem e_X7_added_5 {sc : dS} {d : Nat} {K : List (Nat × Nat)} {M : dM} {v0 v1 : Int} {q2 q3 : dV} : vr sc d c_X7_added (5, [(2, v0), (0, v1), q2, q3], [], (K, M)) = (if rg K 7 v0 = true then (vc sc d 132 [(2, v0), (0, 43)] (K, M)).bind (fun r => vr sc d c_X7_added (11, [(2, v0), (0, v1), q2, q3], r.1 ++ [], r.2)) else none) := by
  refine (vr_steps 2 (x' := (8, [(2, v0), (0, v1), q2, q3], [(0, 43), (2, v0)], (K, M))) rfl).trans ?_
  exact (v_virt (k := 132) (n := 2) (tag := 7) (r := v0) (av := [(0, 43)]) (code := c_X7_added) (pc := 8) (len := 3) (L := [(2, v0), (0, v1), q2, q3]) (st := [(0, 43), (2, v0)]) rfl (Nat.le_of_ble_eq_true rfl) (Nat.le_of_ble_eq_true rfl) rfl).trans rfl
set_option maxRecDepth 100000 in
theorem e_X7_added_11 {sc : dS} {d : Nat} {K : List (Nat × Nat)} {M : dM} {v0 v1 s0 : Int} {q2 q3 : dV} : vr sc d c_X7_added (11, [(2, v0), (0, v1), q2, q3], [(0, s0)], (K, M)) = (if ¬ s0 = 0 then (if og K 7 v0 24 = true then (if ¬ (i_cmp (M v0 24) 43) = 0 then (if rg K 7 v0 = true then (vc sc d 128 [(2, v0)] (K, M)).bind (fun r => vr sc d c_X7_added (44, [(2, v0), (0, v1), (0, 0), q3], r.1 ++ [], r.2)) else none) else (if rg K 7 v0 = true then (vc sc d 128 [(2, v0)] (K, M)).bind (fun r => vr sc d c_X7_added (44, [(2, v0), (0, v1), (0, 1), q3], r.1 ++ [], r.2)) else none)) else none) else (if rg K 7 v0 = true then (vc sc d 132 [(2, v0), (0, 45)] (K, M)).bind (fun r => vr sc d c_X7_added (20, [(2, v0), (0, v1), q2, q3], r.1 ++ [], r.2)) else none)) := by
  refine (v_if (k := 1) (b := 23) (c := ¬ s0 = 0) rfl rfl).trans ?_
  refine c_congr (fun _ => ?_) (fun _ => ?_)
  · refine (vr_steps 1 (x' := (24, [(2, v0), (0, v1), q2, q3], [(2, v0)], (K, M))) rfl).trans ?_
    refine (v_getf (a := 7) (b := 24) (t := 1) rfl rfl).trans ?_
    refine g_congr (fun _ => ?_)
    refine (vr_steps 2 (x' := (31, [(2, v0), (0, v1), q2, q3], [(0, i_cmp (M v0 24) 43)], (K, M))) rfl).trans ?_
    refine (v_if (k := 1) (b := 38) (c := ¬ (i_cmp (M v0 24) 43) = 0) rfl rfl).trans ?_
    refine c_congr (fun _ => ?_) (fun _ => ?_)
    · refine (vr_steps 3 (x' := (41, [(2, v0), (0, v1), (0, 0), q3], [(2, v0)], (K, M))) rfl).trans ?_
      exact (v_virt (k := 128) (n := 1) (tag := 7) (r := v0) (av := []) (code := c_X7_added) (pc := 41) (len := 3) (L := [(2, v0), (0, v1), (0, 0), q3]) (st := [(2, v0)]) rfl (Nat.le_of_ble_eq_true rfl) (Nat.le_of_ble_eq_true rfl) rfl).trans rfl
    · refine (vr_steps 4 (x' := (41, [(2, v0), (0, v1), (0, 1), q3], [(2, v0)], (K, M))) rfl).trans ?_
      exact (v_virt (k := 128) (n := 1) (tag := 7) (r := v0) (av := []) (code := c_X7_added) (pc := 41) (len := 3) (L := [(2, v0), (0, v1), (0, 1), q3]) (st := [(2, v0)]) rfl (Nat.le_of_ble_eq_true rfl) (Nat.le_of_ble_eq_true rfl) rfl).trans rfl
  · refine (vr_steps 2 (x' := (17, [(2, v0), (0, v1), q2, q3], [(0, 45), (2, v0)], (K, M))) rfl).trans ?_
    exact (v_virt (k := 132) (n := 2) (tag := 7) (r := v0) (av := [(0, 45)]) (code := c_X7_added) (pc := 17) (len := 3) (L := [(2, v0), (0, v1), q2, q3]) (st := [(0, 45), (2, v0)]) rfl (Nat.le_of_ble_eq_true rfl) (Nat.le_of_ble_eq_true rfl) rfl).trans rfl
set_option maxRecDepth 100000 in
theorem e_X7_added_20 {sc : dS} {d : Nat} {K : List (Nat × Nat)} {M : dM} {v0 v1 s0 : Int} {q2 q3 : dV} : vr sc d c_X7_added (20, [(2, v0), (0, v1), q2, q3], [(0, s0)], (K, M)) = (if s0 = 0 then some ([(0, v1)], (K, M)) else (if og K 7 v0 24 = true then (if ¬ (i_cmp (M v0 24) 43) = 0 then (if rg K 7 v0 = true then (vc sc d 128 [(2, v0)] (K, M)).bind (fun r => vr sc d c_X7_added (44, [(2, v0), (0, v1), (0, 0), q3], r.1 ++ [], r.2)) else none) else (if rg K 7 v0 = true then (vc sc d 128 [(2, v0)] (K, M)).bind (fun r => vr sc d c_X7_added (44, [(2, v0), (0, v1), (0, 1), q3], r.1 ++ [], r.2)) else none)) else none)) := by
  refine (v_if (k := 0) (b := 66) (c := s0 = 0) rfl rfl).trans ?_
  refine c_congr (fun _ => ?_) (fun _ => ?_)
  · refine (vr_steps 1 (x' := (67, [(2, v0), (0, v1), q2, q3], [(0, v1)], (K, M))) rfl).trans ?_
    exact vr_ret (ai := (35, 1, 1, 0, [])) rfl rfl
  · refine (vr_steps 1 (x' := (24, [(2, v0), (0, v1), q2, q3], [(2, v0)], (K, M))) rfl).trans ?_
    refine (v_getf (a := 7) (b := 24) (t := 1) rfl rfl).trans ?_
    refine g_congr (fun _ => ?_)
    refine (vr_steps 2 (x' := (31, [(2, v0), (0, v1), q2, q3], [(0, i_cmp (M v0 24) 43)], (K, M))) rfl).trans ?_
    refine (v_if (k := 1) (b := 38) (c := ¬ (i_cmp (M v0 24) 43) = 0) rfl rfl).trans ?_
    refine c_congr (fun _ => ?_) (fun _ => ?_)
    · refine (vr_steps 3 (x' := (41, [(2, v0), (0, v1), (0, 0), q3], [(2, v0)], (K, M))) rfl).trans ?_
      exact (v_virt (k := 128) (n := 1) (tag := 7) (r := v0) (av := []) (code := c_X7_added) (pc := 41) (len := 3) (L := [(2, v0), (0, v1), (0, 0), q3]) (st := [(2, v0)]) rfl (Nat.le_of_ble_eq_true rfl) (Nat.le_of_ble_eq_true rfl) rfl).trans rfl
    · refine (vr_steps 4 (x' := (41, [(2, v0), (0, v1), (0, 1), q3], [(2, v0)], (K, M))) rfl).trans ?_
      exact (v_virt (k := 128) (n := 1) (tag := 7) (r := v0) (av := []) (code := c_X7_added) (pc := 41) (len := 3) (L := [(2, v0), (0, v1), (0, 1), q3]) (st := [(2, v0)]) rfl (Nat.le_of_ble_eq_true rfl) (Nat.le_of_ble_eq_true rfl) rfl).trans rfl
set_option maxRecDepth 100000 in
theorem e_X7_added_44 {sc : dS} {d : Nat} {K : List (Nat × Nat)} {M : dM} {v0 v1 v2 : Int} {q3 : dV} : vr sc d c_X7_added (44, [(2, v0), (0, v1), (0, v2), q3], [], (K, M)) = (if rg K 7 v0 = true then (vc sc d 136 [(2, v0)] (K, M)).bind (fun r => vr sc d c_X7_added (48, [(2, v0), (0, v1), (0, v2), q3], r.1 ++ [], r.2)) else none) := by
  refine (vr_steps 1 (x' := (45, [(2, v0), (0, v1), (0, v2), q3], [(2, v0)], (K, M))) rfl).trans ?_
  exact (v_virt (k := 136) (n := 1) (tag := 7) (r := v0) (av := []) (code := c_X7_added) (pc := 45) (len := 3) (L := [(2, v0), (0, v1), (0, v2), q3]) (st := [(2, v0)]) rfl (Nat.le_of_ble_eq_true rfl) (Nat.le_of_ble_eq_true rfl) rfl).trans rfl
set_option maxRecDepth 100000 in
theorem e_X7_added_48 {sc : dS} {d : Nat} {K : List (Nat × Nat)} {M : dM} {v0 v1 v2 s0 : Int} {q3 : dV} : vr sc d c_X7_added (48, [(2, v0), (0, v1), (0, v2), q3], [(0, s0)], (K, M)) = (if v2 = 0 then vr sc d c_X7_added (5, [(2, v0), (0, w32 (v1 - s0)), (0, v2), (0, s0)], [], (K, M)) else vr sc d c_X7_added (5, [(2, v0), (0, w32 (v1 + s0)), (0, v2), (0, s0)], [], (K, M))) := by
  refine (vr_steps 2 (x' := (50, [(2, v0), (0, v1), (0, v2), (0, s0)], [(0, v2)], (K, M))) rfl).trans ?_
  refine (v_if (k := 0) (b := 59) (c := v2 = 0) rfl rfl).trans ?_
  refine c_congr (fun _ => ?_) (fun _ => ?_)
  · exact vr_steps 5 rfl
  · exact vr_steps 6 rfl

noncomputable def c_X7_not : Nat → Option dI := d_mcode m_X7_not
set_option maxRecDepth 100000 in
theorem e_X7_not_0 {sc : dS} {d : Nat} {K : List (Nat × Nat)} {M : dM} {v0 : Int} {q1 q2 q3 : dV} : vr sc d c_X7_not (0, [(2, v0), q1, q2, q3], [], (K, M)) = (if rg K 7 v0 = true then (vc sc d 131 [(2, v0), (0, 110), (0, 111), (0, 116), (0, 0), (0, 0), (0, 0), (0, 0), (0, 0)] (K, M)).bind (fun r => vr sc d c_X7_not (15, [(2, v0), q1, q2, q3], r.1 ++ [], r.2)) else none) := by
  refine (vr_steps 9 (x' := (12, [(2, v0), q1, q2, q3], [(0, 0), (0, 0), (0, 0), (0, 0), (0, 0), (0, 116), (0, 111), (0, 110), (2, v0)], (K, M))) rfl).trans ?_
  exact (v_virt (k := 131) (n := 9) (tag := 7) (r := v0) (av := [(0, 110), (0, 111), (0, 116), (0, 0), (0, 0), (0, 0), (0, 0), (0, 0)]) (code := c_X7_not) (pc := 12) (len := 3) (L := [(2, v0), q1, q2, q3]) (st := [(0, 0), (0, 0), (0, 0), (0, 0), (0, 0), (0, 116), (0, 111), (0, 110), (2, v0)]) rfl (Nat.le_of_ble_eq_true rfl) (Nat.le_of_ble_eq_true rfl) rfl).trans rfl
set_option maxRecDepth 100000 in
theorem e_X7_not_15 {sc : dS} {d : Nat} {K : List (Nat × Nat)} {M : dM} {v0 s0 : Int} {q1 q2 q3 : dV} : vr sc d c_X7_not (15, [(2, v0), q1, q2, q3], [(0, s0)], (K, M)) = (if s0 = 0 then (if rg K 7 v0 = true then (vc sc d 137 [(2, v0)] (K, M)).bind (fun r => vr sc d c_X7_not (56, [(2, v0), q1, q2, q3], r.1 ++ [], r.2)) else none) else (if rg K 7 v0 = true then (vc sc d 133 [(2, v0)] (K, M)).bind (fun r => vr sc d c_X7_not (22, [(2, v0), q1, q2, q3], r.1 ++ [], r.2)) else none)) := by
  refine (v_if (k := 0) (b := 52) (c := s0 = 0) rfl rfl).trans ?_
  refine c_congr (fun _ => ?_) (fun _ => ?_)
  · refine (vr_steps 1 (x' := (53, [(2, v0), q1, q2, q3], [(2, v0)], (K, M))) rfl).trans ?_
    exact (v_virt (k := 137) (n := 1) (tag := 7) (r := v0) (av := []) (code := c_X7_not) (pc := 53) (len := 3) (L := [(2, v0), q1, q2, q3]) (st := [(2, v0)]) rfl (Nat.le_of_ble_eq_true rfl) (Nat.le_of_ble_eq_true rfl) rfl).trans rfl
  · refine (vr_steps 1 (x' := (19, [(2, v0), q1, q2, q3], [(2, v0)], (K, M))) rfl).trans ?_
    exact (v_virt (k := 133) (n := 1) (tag := 7) (r := v0) (av := []) (code := c_X7_not) (pc := 19) (len := 3) (L := [(2, v0), q1, q2, q3]) (st := [(2, v0)]) rfl (Nat.le_of_ble_eq_true rfl) (Nat.le_of_ble_eq_true rfl) rfl).trans rfl
set_option maxRecDepth 100000 in
theorem e_X7_not_22 {sc : dS} {d : Nat} {K : List (Nat × Nat)} {M : dM} {v0 s0 : Int} {q1 q2 q3 : dV} : vr sc d c_X7_not (22, [(2, v0), q1, q2, q3], [(0, s0)], (K, M)) = (if ¬ s0 = 0 then (if rg K 7 v0 = true then (vc sc d 138 [(2, v0)] (K, M)).bind (fun r => vr sc d c_X7_not (31, [(2, v0), q1, q2, q3], r.1 ++ [], r.2)) else none) else some ([(0, 0)], (K, M))) := by
  refine (v_if (k := 1) (b := 27) (c := ¬ s0 = 0) rfl rfl).trans ?_
  refine c_congr (fun _ => ?_) (fun _ => ?_)
  · refine (vr_steps 1 (x' := (28, [(2, v0), q1, q2, q3], [(2, v0)], (K, M))) rfl).trans ?_
    exact (v_virt (k := 138) (n := 1) (tag := 7) (r := v0) (av := []) (code := c_X7_not) (pc := 28) (len := 3) (L := [(2, v0), q1, q2, q3]) (st := [(2, v0)]) rfl (Nat.le_of_ble_eq_true rfl) (Nat.le_of_ble_eq_true rfl) rfl).trans rfl
  · refine (vr_steps 1 (x' := (26, [(2, v0), q1, q2, q3], [(0, 0)], (K, M))) rfl).trans ?_
    exact vr_ret (ai := (35, 1, 1, 0, [])) rfl rfl
set_option maxRecDepth 100000 in
theorem e_X7_not_31 {sc : dS} {d : Nat} {K : List (Nat × Nat)} {M : dM} {v0 s0 : Int} {q1 q2 q3 : dV} : vr sc d c_X7_not (31, [(2, v0), q1, q2, q3], [(0, s0)], (K, M)) = (if og K 7 v0 25 = true then (if og K 7 v0 25 = true then (if -2147483648 ≤ (w32 ((M v0 25) - 1)) ∧ (w32 ((M v0 25) - 1)) < 2147483648 then (if ¬ s0 = 0 then some ([(0, 0)], (K, d_up M v0 25 (w32 ((M v0 25) - 1)))) else some ([(0, 1)], (K, d_up M v0 25 (w32 ((M v0 25) - 1))))) else none) else none) else none) := by
  refine (vr_steps 3 (x' := (34, [(2, v0), (0, s0), q2, q3], [(2, v0), (2, v0)], (K, M))) rfl).trans ?_
  refine (v_getf (a := 7) (b := 25) (t := 0) rfl rfl).trans ?_
  refine g_congr (fun _ => ?_)
  refine (vr_steps 2 (x' := (39, [(2, v0), (0, s0), q2, q3], [(0, w32 ((M v0 25) - 1)), (2, v0)], (K, M))) rfl).trans ?_
  refine (v_putf (a := 7) (b := 25) (t := 0) rfl rfl (by intro q; cases q)).trans ?_
  refine g_congr (fun _ => ?_)
  refine p_congr (fun _ => ?_)
  refine (vr_steps 1 (x' := (43, [(2, v0), (0, s0), q2, q3], [(0, s0)], (K, d_up M v0 25 (w32 ((M v0 25) - 1))))) rfl).trans ?_
  refine (v_if (k := 1) (b := 50) (c := ¬ s0 = 0) rfl rfl).trans ?_
  refine c_congr (fun _ => ?_) (fun _ => ?_)
  · refine (vr_steps 1 (x' := (51, [(2, v0), (0, s0), q2, q3], [(0, 0)], (K, d_up M v0 25 (w32 ((M v0 25) - 1))))) rfl).trans ?_
    exact vr_ret (ai := (35, 1, 1, 0, [])) rfl rfl
  · refine (vr_steps 2 (x' := (51, [(2, v0), (0, s0), q2, q3], [(0, 1)], (K, d_up M v0 25 (w32 ((M v0 25) - 1))))) rfl).trans ?_
    exact vr_ret (ai := (35, 1, 1, 0, [])) rfl rfl
set_option maxRecDepth 100000 in
theorem e_X7_not_56 {sc : dS} {d : Nat} {K : List (Nat × Nat)} {M : dM} {v0 s0 : Int} {q1 q2 q3 : dV} : vr sc d c_X7_not (56, [(2, v0), q1, q2, q3], [(0, s0)], (K, M)) = (if rg K 7 v0 = true then (vc sc d 132 [(2, v0), (0, 60)] (K, M)).bind (fun r => vr sc d c_X7_not (63, [(2, v0), (0, s0), q2, q3], r.1 ++ [], r.2)) else none) := by
  refine (vr_steps 3 (x' := (60, [(2, v0), (0, s0), q2, q3], [(0, 60), (2, v0)], (K, M))) rfl).trans ?_
  exact (v_virt (k := 132) (n := 2) (tag := 7) (r := v0) (av := [(0, 60)]) (code := c_X7_not) (pc := 60) (len := 3) (L := [(2, v0), (0, s0), q2, q3]) (st := [(0, 60), (2, v0)]) rfl (Nat.le_of_ble_eq_true rfl) (Nat.le_of_ble_eq_true rfl) rfl).trans rfl
set_option maxRecDepth 100000 in
theorem e_X7_not_63 {sc : dS} {d : Nat} {K : List (Nat × Nat)} {M : dM} {v0 v1 s0 : Int} {q2 q3 : dV} : vr sc d c_X7_not (63, [(2, v0), (0, v1), q2, q3], [(0, s0)], (K, M)) = (if ¬ s0 = 0 then (if og K 7 v0 24 = true then (if ¬ (i_cmp (M v0 24) 60) = 0 then (if rg K 7 v0 = true then (vc sc d 128 [(2, v0)] (K, M)).bind (fun r => vr sc d c_X7_not (98, [(2, v0), (0, v1), (0, 0), q3], r.1 ++ [], r.2)) else none) else (if rg K 7 v0 = true then (vc sc d 128 [(2, v0)] (K, M)).bind (fun r => vr sc d c_X7_not (98, [(2, v0), (0, v1), (0, 1), q3], r.1 ++ [], r.2)) else none)) else none) else (if rg K 7 v0 = true then (vc sc d 132 [(2, v0), (0, 61)] (K, M)).bind (fun r => vr sc d c_X7_not (72, [(2, v0), (0, v1), q2, q3], r.1 ++ [], r.2)) else none)) := by
  refine (v_if (k := 1) (b := 77) (c := ¬ s0 = 0) rfl rfl).trans ?_
  refine c_congr (fun _ => ?_) (fun _ => ?_)
  · refine (vr_steps 1 (x' := (78, [(2, v0), (0, v1), q2, q3], [(2, v0)], (K, M))) rfl).trans ?_
    refine (v_getf (a := 7) (b := 24) (t := 1) rfl rfl).trans ?_
    refine g_congr (fun _ => ?_)
    refine (vr_steps 2 (x' := (85, [(2, v0), (0, v1), q2, q3], [(0, i_cmp (M v0 24) 60)], (K, M))) rfl).trans ?_
    refine (v_if (k := 1) (b := 92) (c := ¬ (i_cmp (M v0 24) 60) = 0) rfl rfl).trans ?_
    refine c_congr (fun _ => ?_) (fun _ => ?_)
    · refine (vr_steps 3 (x' := (95, [(2, v0), (0, v1), (0, 0), q3], [(2, v0)], (K, M))) rfl).trans ?_
      exact (v_virt (k := 128) (n := 1) (tag := 7) (r := v0) (av := []) (code := c_X7_not) (pc := 95) (len := 3) (L := [(2, v0), (0, v1), (0, 0), q3]) (st := [(2, v0)]) rfl (Nat.le_of_ble_eq_true rfl) (Nat.le_of_ble_eq_true rfl) rfl).trans rfl
    · refine (vr_steps 4 (x' := (95, [(2, v0), (0, v1), (0, 1), q3], [(2, v0)], (K, M))) rfl).trans ?_
      exact (v_virt (k := 128) (n := 1) (tag := 7) (r := v0) (av := []) (code := c_X7_not) (pc := 95) (len := 3) (L := [(2, v0), (0, v1), (0, 1), q3]) (st := [(2, v0)]) rfl (Nat.le_of_ble_eq_true rfl) (Nat.le_of_ble_eq_true rfl) rfl).trans rfl
  · refine (vr_steps 2 (x' := (69, [(2, v0), (0, v1), q2, q3], [(0, 61), (2, v0)], (K, M))) rfl).trans ?_
    exact (v_virt (k := 132) (n := 2) (tag := 7) (r := v0) (av := [(0, 61)]) (code := c_X7_not) (pc := 69) (len := 3) (L := [(2, v0), (0, v1), q2, q3]) (st := [(0, 61), (2, v0)]) rfl (Nat.le_of_ble_eq_true rfl) (Nat.le_of_ble_eq_true rfl) rfl).trans rfl
set_option maxRecDepth 100000 in
theorem e_X7_not_72 {sc : dS} {d : Nat} {K : List (Nat × Nat)} {M : dM} {v0 v1 s0 : Int} {q2 q3 : dV} : vr sc d c_X7_not (72, [(2, v0), (0, v1), q2, q3], [(0, s0)], (K, M)) = (if ¬ s0 = 0 then (if og K 7 v0 24 = true then (if ¬ (i_cmp (M v0 24) 60) = 0 then (if rg K 7 v0 = true then (vc sc d 128 [(2, v0)] (K, M)).bind (fun r => vr sc d c_X7_not (98, [(2, v0), (0, v1), (0, 0), q3], r.1 ++ [], r.2)) else none) else (if rg K 7 v0 = true then (vc sc d 128 [(2, v0)] (K, M)).bind (fun r => vr sc d c_X7_not (98, [(2, v0), (0, v1), (0, 1), q3], r.1 ++ [], r.2)) else none)) else none) else some ([(0, v1)], (K, M))) := by
  refine (v_if (k := 1) (b := 77) (c := ¬ s0 = 0) rfl rfl).trans ?_
  refine c_congr (fun _ => ?_) (fun _ => ?_)
  · refine (vr_steps 1 (x' := (78, [(2, v0), (0, v1), q2, q3], [(2, v0)], (K, M))) rfl).trans ?_
    refine (v_getf (a := 7) (b := 24) (t := 1) rfl rfl).trans ?_
    refine g_congr (fun _ => ?_)
    refine (vr_steps 2 (x' := (85, [(2, v0), (0, v1), q2, q3], [(0, i_cmp (M v0 24) 60)], (K, M))) rfl).trans ?_
    refine (v_if (k := 1) (b := 92) (c := ¬ (i_cmp (M v0 24) 60) = 0) rfl rfl).trans ?_
    refine c_congr (fun _ => ?_) (fun _ => ?_)
    · refine (vr_steps 3 (x' := (95, [(2, v0), (0, v1), (0, 0), q3], [(2, v0)], (K, M))) rfl).trans ?_
      exact (v_virt (k := 128) (n := 1) (tag := 7) (r := v0) (av := []) (code := c_X7_not) (pc := 95) (len := 3) (L := [(2, v0), (0, v1), (0, 0), q3]) (st := [(2, v0)]) rfl (Nat.le_of_ble_eq_true rfl) (Nat.le_of_ble_eq_true rfl) rfl).trans rfl
    · refine (vr_steps 4 (x' := (95, [(2, v0), (0, v1), (0, 1), q3], [(2, v0)], (K, M))) rfl).trans ?_
      exact (v_virt (k := 128) (n := 1) (tag := 7) (r := v0) (av := []) (code := c_X7_not) (pc := 95) (len := 3) (L := [(2, v0), (0, v1), (0, 1), q3]) (st := [(2, v0)]) rfl (Nat.le_of_ble_eq_true rfl) (Nat.le_of_ble_eq_true rfl) rfl).trans rfl
  · refine (vr_steps 1 (x' := (76, [(2, v0), (0, v1), q2, q3], [(0, v1)], (K, M))) rfl).trans ?_
    exact vr_ret (ai := (35, 1, 1, 0, [])) rfl rfl
set_option maxRecDepth 100000 in
theorem e_X7_not_98 {sc : dS} {d : Nat} {K : List (Nat × Nat)} {M : dM} {v0 v1 v2 : Int} {q3 : dV} : vr sc d c_X7_not (98, [(2, v0), (0, v1), (0, v2), q3], [], (K, M)) = (if rg K 7 v0 = true then (vc sc d 137 [(2, v0)] (K, M)).bind (fun r => vr sc d c_X7_not (102, [(2, v0), (0, v1), (0, v2), q3], r.1 ++ [], r.2)) else none) := by
  refine (vr_steps 1 (x' := (99, [(2, v0), (0, v1), (0, v2), q3], [(2, v0)], (K, M))) rfl).trans ?_
  exact (v_virt (k := 137) (n := 1) (tag := 7) (r := v0) (av := []) (code := c_X7_not) (pc := 99) (len := 3) (L := [(2, v0), (0, v1), (0, v2), q3]) (st := [(2, v0)]) rfl (Nat.le_of_ble_eq_true rfl) (Nat.le_of_ble_eq_true rfl) rfl).trans rfl
set_option maxRecDepth 100000 in
theorem e_X7_not_102 {sc : dS} {d : Nat} {K : List (Nat × Nat)} {M : dM} {v0 v1 v2 s0 : Int} {q3 : dV} : vr sc d c_X7_not (102, [(2, v0), (0, v1), (0, v2), q3], [(0, s0)], (K, M)) = (if v2 = 0 then (if ¬ v1 = s0 then some ([(0, 0)], (K, M)) else some ([(0, 1)], (K, M))) else (if s0 ≤ v1 then some ([(0, 0)], (K, M)) else some ([(0, 1)], (K, M)))) := by
  refine (vr_steps 2 (x' := (104, [(2, v0), (0, v1), (0, v2), (0, s0)], [(0, v2)], (K, M))) rfl).trans ?_
  refine (v_if (k := 0) (b := 115) (c := v2 = 0) rfl rfl).trans ?_
  refine c_congr (fun _ => ?_) (fun _ => ?_)
  · refine (vr_steps 2 (x' := (117, [(2, v0), (0, v1), (0, v2), (0, s0)], [(0, s0), (0, v1)], (K, M))) rfl).trans ?_
    refine (v_icmp (k := 1) (b := 124) (c := ¬ v1 = s0) rfl rfl).trans ?_
    refine c_congr (fun _ => ?_) (fun _ => ?_)
    · refine (vr_steps 1 (x' := (125, [(2, v0), (0, v1), (0, v2), (0, s0)], [(0, 0)], (K, M))) rfl).trans ?_
      exact vr_ret (ai := (35, 1, 1, 0, [])) rfl rfl
    · refine (vr_steps 2 (x' := (125, [(2, v0), (0, v1), (0, v2), (0, s0)], [(0, 1)], (K, M))) rfl).trans ?_
      exact vr_ret (ai := (35, 1, 1, 0, [])) rfl rfl
  · refine (vr_steps 2 (x' := (109, [(2, v0), (0, v1), (0, v2), (0, s0)], [(0, s0), (0, v1)], (K, M))) rfl).trans ?_
    refine (v_icmp (k := 3) (b := 124) (c := s0 ≤ v1) rfl rfl).trans ?_
    refine c_congr (fun _ => ?_) (fun _ => ?_)
    · refine (vr_steps 1 (x' := (125, [(2, v0), (0, v1), (0, v2), (0, s0)], [(0, 0)], (K, M))) rfl).trans ?_
      exact vr_ret (ai := (35, 1, 1, 0, [])) rfl rfl
    · refine (vr_steps 3 (x' := (125, [(2, v0), (0, v1), (0, v2), (0, s0)], [(0, 1)], (K, M))) rfl).trans ?_
      exact vr_ret (ai := (35, 1, 1, 0, [])) rfl rfl

noncomputable def c_X7_both : Nat → Option dI := d_mcode m_X7_both
set_option maxRecDepth 100000 in
theorem e_X7_both_0 {sc : dS} {d : Nat} {K : List (Nat × Nat)} {M : dM} {v0 : Int} {q1 q2 : dV} : vr sc d c_X7_both (0, [(2, v0), q1, q2], [], (K, M)) = (if rg K 7 v0 = true then (vc sc d 138 [(2, v0)] (K, M)).bind (fun r => vr sc d c_X7_both (4, [(2, v0), q1, q2], r.1 ++ [], r.2)) else none) := by
  refine (vr_steps 1 (x' := (1, [(2, v0), q1, q2], [(2, v0)], (K, M))) rfl).trans ?_
  exact (v_virt (k := 138) (n := 1) (tag := 7) (r := v0) (av := []) (code := c_X7_both) (pc := 1) (len := 3) (L := [(2, v0), q1, q2]) (st := [(2, v0)]) rfl (Nat.le_of_ble_eq_true rfl) (Nat.le_of_ble_eq_true rfl) rfl).trans rfl
set_option maxRecDepth 100000 in
theorem e_X7_both_4 {sc : dS} {d : Nat} {K : List (Nat × Nat)} {M : dM} {v0 s0 : Int} {q1 q2 : dV} : vr sc d c_X7_both (4, [(2, v0), q1, q2], [(0, s0)], (K, M)) = (vr sc d c_X7_both (5, [(2, v0), (0, s0), q2], [], (K, M))) := by
  exact vr_steps 1 rfl
set_option maxRecDepth 100000 in
theorem e_X7_both_5 {sc : dS} {d : Nat} {K : List (Nat × Nat)} {M : dM} {v0 v1 : Int} {q2 : dV} : vr sc d c_X7_both (5, [(2, v0), (0, v1), q2], [], (K, M)) = (if rg K 7 v0 = true then (vc sc d 131 [(2, v0), (0, 97), (0, 110), (0, 100), (0, 0), (0, 0), (0, 0), (0, 0), (0, 0)] (K, M)).bind (fun r => vr sc d c_X7_both (20, [(2, v0), (0, v1), q2], r.1 ++ [], r.2)) else none) := by
  refine (vr_steps 9 (x' := (17, [(2, v0), (0, v1), q2], [(0, 0), (0, 0), (0, 0), (0, 0), (0, 0), (0, 100), (0, 110), (0, 97), (2, v0)], (K, M))) rfl).trans ?_
  exact (v_virt (k := 131) (n := 9) (tag := 7) (r := v0) (av := [(0, 97), (0, 110), (0, 100), (0, 0), (0, 0), (0, 0), (0, 0), (0, 0)]) (code := c_X7_both) (pc := 17) (len := 3) (L := [(2, v0), (0, v1), q2]) (st := [(0, 0), (0, 0), (0, 0), (0, 0), (0, 0), (0, 100), (0, 110), (0, 97), (2, v0)]) rfl (Nat.le_of_ble_eq_true rfl) (Nat.le_of_ble_eq_true rfl) rfl).trans rfl
set_option maxRecDepth 100000 in
theorem e_X7_both_20 {sc : dS} {d : Nat} {K : List (Nat × Nat)} {M : dM} {v0 v1 s0 : Int} {q2 : dV} : vr sc d c_X7_both (20, [(2, v0), (0, v1), q2], [(0, s0)], (K, M)) = (if s0 = 0 then some ([(0, v1)], (K, M)) else (if rg K 7 v0 = true then (vc sc d 128 [(2, v0)] (K, M)).bind (fun r => vr sc d c_X7_both (27, [(2, v0), (0, v1), q2], r.1 ++ [], r.2)) else none)) := by
  refine (v_if (k := 0) (b := 49) (c := s0 = 0) rfl rfl).trans ?_
  refine c_congr (fun _ => ?_) (fun _ => ?_)
  · refine (vr_steps 1 (x' := (50, [(2, v0), (0, v1), q2], [(0, v1)], (K, M))) rfl).trans ?_
    exact vr_ret (ai := (35, 1, 1, 0, [])) rfl rfl
  · refine (vr_steps 1 (x' := (24, [(2, v0), (0, v1), q2], [(2, v0)], (K, M))) rfl).trans ?_
    exact (v_virt (k := 128) (n := 1) (tag := 7) (r := v0) (av := []) (code := c_X7_both) (pc := 24) (len := 3) (L := [(2, v0), (0, v1), q2]) (st := [(2, v0)]) rfl (Nat.le_of_ble_eq_true rfl) (Nat.le_of_ble_eq_true rfl) rfl).trans rfl
set_option maxRecDepth 100000 in
theorem e_X7_both_27 {sc : dS} {d : Nat} {K : List (Nat × Nat)} {M : dM} {v0 v1 : Int} {q2 : dV} : vr sc d c_X7_both (27, [(2, v0), (0, v1), q2], [], (K, M)) = (if rg K 7 v0 = true then (vc sc d 138 [(2, v0)] (K, M)).bind (fun r => vr sc d c_X7_both (31, [(2, v0), (0, v1), q2], r.1 ++ [], r.2)) else none) := by
  refine (vr_steps 1 (x' := (28, [(2, v0), (0, v1), q2], [(2, v0)], (K, M))) rfl).trans ?_
  exact (v_virt (k := 138) (n := 1) (tag := 7) (r := v0) (av := []) (code := c_X7_both) (pc := 28) (len := 3) (L := [(2, v0), (0, v1), q2]) (st := [(2, v0)]) rfl (Nat.le_of_ble_eq_true rfl) (Nat.le_of_ble_eq_true rfl) rfl).trans rfl
set_option maxRecDepth 100000 in
theorem e_X7_both_31 {sc : dS} {d : Nat} {K : List (Nat × Nat)} {M : dM} {v0 v1 s0 : Int} {q2 : dV} : vr sc d c_X7_both (31, [(2, v0), (0, v1), q2], [(0, s0)], (K, M)) = (if v1 = 0 then vr sc d c_X7_both (5, [(2, v0), (0, 0), (0, s0)], [], (K, M)) else (if s0 = 0 then vr sc d c_X7_both (5, [(2, v0), (0, 0), (0, s0)], [], (K, M)) else vr sc d c_X7_both (5, [(2, v0), (0, 1), (0, s0)], [], (K, M)))) := by
  refine (vr_steps 2 (x' := (33, [(2, v0), (0, v1), (0, s0)], [(0, v1)], (K, M))) rfl).trans ?_
  refine (v_if (k := 0) (b := 44) (c := v1 = 0) rfl rfl).trans ?_
  refine c_congr (fun _ => ?_) (fun _ => ?_)
  · exact vr_steps 3 rfl
  · refine (vr_steps 1 (x' := (37, [(2, v0), (0, v1), (0, s0)], [(0, s0)], (K, M))) rfl).trans ?_
    refine (v_if (k := 0) (b := 44) (c := s0 = 0) rfl rfl).trans ?_
    refine c_congr (fun _ => ?_) (fun _ => ?_)
    · exact vr_steps 3 rfl
    · exact vr_steps 4 rfl

noncomputable def c_X7_either : Nat → Option dI := d_mcode m_X7_either
set_option maxRecDepth 100000 in
theorem e_X7_either_0 {sc : dS} {d : Nat} {K : List (Nat × Nat)} {M : dM} {v0 : Int} {q1 q2 : dV} : vr sc d c_X7_either (0, [(2, v0), q1, q2], [], (K, M)) = (if rg K 7 v0 = true then (vc sc d 139 [(2, v0)] (K, M)).bind (fun r => vr sc d c_X7_either (4, [(2, v0), q1, q2], r.1 ++ [], r.2)) else none) := by
  refine (vr_steps 1 (x' := (1, [(2, v0), q1, q2], [(2, v0)], (K, M))) rfl).trans ?_
  exact (v_virt (k := 139) (n := 1) (tag := 7) (r := v0) (av := []) (code := c_X7_either) (pc := 1) (len := 3) (L := [(2, v0), q1, q2]) (st := [(2, v0)]) rfl (Nat.le_of_ble_eq_true rfl) (Nat.le_of_ble_eq_true rfl) rfl).trans rfl
set_option maxRecDepth 100000 in
theorem e_X7_either_4 {sc : dS} {d : Nat} {K : List (Nat × Nat)} {M : dM} {v0 s0 : Int} {q1 q2 : dV} : vr sc d c_X7_either (4, [(2, v0), q1, q2], [(0, s0)], (K, M)) = (vr sc d c_X7_either (5, [(2, v0), (0, s0), q2], [], (K, M))) := by
  exact vr_steps 1 rfl
set_option maxRecDepth 100000 in
theorem e_X7_either_5 {sc : dS} {d : Nat} {K : List (Nat × Nat)} {M : dM} {v0 v1 : Int} {q2 : dV} : vr sc d c_X7_either (5, [(2, v0), (0, v1), q2], [], (K, M)) = (if rg K 7 v0 = true then (vc sc d 131 [(2, v0), (0, 111), (0, 114), (0, 0), (0, 0), (0, 0), (0, 0), (0, 0), (0, 0)] (K, M)).bind (fun r => vr sc d c_X7_either (19, [(2, v0), (0, v1), q2], r.1 ++ [], r.2)) else none) := by
  refine (vr_steps 9 (x' := (16, [(2, v0), (0, v1), q2], [(0, 0), (0, 0), (0, 0), (0, 0), (0, 0), (0, 0), (0, 114), (0, 111), (2, v0)], (K, M))) rfl).trans ?_
  exact (v_virt (k := 131) (n := 9) (tag := 7) (r := v0) (av := [(0, 111), (0, 114), (0, 0), (0, 0), (0, 0), (0, 0), (0, 0), (0, 0)]) (code := c_X7_either) (pc := 16) (len := 3) (L := [(2, v0), (0, v1), q2]) (st := [(0, 0), (0, 0), (0, 0), (0, 0), (0, 0), (0, 0), (0, 114), (0, 111), (2, v0)]) rfl (Nat.le_of_ble_eq_true rfl) (Nat.le_of_ble_eq_true rfl) rfl).trans rfl
set_option maxRecDepth 100000 in
theorem e_X7_either_19 {sc : dS} {d : Nat} {K : List (Nat × Nat)} {M : dM} {v0 v1 s0 : Int} {q2 : dV} : vr sc d c_X7_either (19, [(2, v0), (0, v1), q2], [(0, s0)], (K, M)) = (if s0 = 0 then some ([(0, v1)], (K, M)) else (if rg K 7 v0 = true then (vc sc d 128 [(2, v0)] (K, M)).bind (fun r => vr sc d c_X7_either (26, [(2, v0), (0, v1), q2], r.1 ++ [], r.2)) else none)) := by
  refine (v_if (k := 0) (b := 48) (c := s0 = 0) rfl rfl).trans ?_
  refine c_congr (fun _ => ?_) (fun _ => ?_)
  · refine (vr_steps 1 (x' := (49, [(2, v0), (0, v1), q2], [(0, v1)], (K, M))) rfl).trans ?_
    exact vr_ret (ai := (35, 1, 1, 0, [])) rfl rfl
  · refine (vr_steps 1 (x' := (23, [(2, v0), (0, v1), q2], [(2, v0)], (K, M))) rfl).trans ?_
    exact (v_virt (k := 128) (n := 1) (tag := 7) (r := v0) (av := []) (code := c_X7_either) (pc := 23) (len := 3) (L := [(2, v0), (0, v1), q2]) (st := [(2, v0)]) rfl (Nat.le_of_ble_eq_true rfl) (Nat.le_of_ble_eq_true rfl) rfl).trans rfl
set_option maxRecDepth 100000 in
theorem e_X7_either_26 {sc : dS} {d : Nat} {K : List (Nat × Nat)} {M : dM} {v0 v1 : Int} {q2 : dV} : vr sc d c_X7_either (26, [(2, v0), (0, v1), q2], [], (K, M)) = (if rg K 7 v0 = true then (vc sc d 139 [(2, v0)] (K, M)).bind (fun r => vr sc d c_X7_either (30, [(2, v0), (0, v1), q2], r.1 ++ [], r.2)) else none) := by
  refine (vr_steps 1 (x' := (27, [(2, v0), (0, v1), q2], [(2, v0)], (K, M))) rfl).trans ?_
  exact (v_virt (k := 139) (n := 1) (tag := 7) (r := v0) (av := []) (code := c_X7_either) (pc := 27) (len := 3) (L := [(2, v0), (0, v1), q2]) (st := [(2, v0)]) rfl (Nat.le_of_ble_eq_true rfl) (Nat.le_of_ble_eq_true rfl) rfl).trans rfl
set_option maxRecDepth 100000 in
theorem e_X7_either_30 {sc : dS} {d : Nat} {K : List (Nat × Nat)} {M : dM} {v0 v1 s0 : Int} {q2 : dV} : vr sc d c_X7_either (30, [(2, v0), (0, v1), q2], [(0, s0)], (K, M)) = (if ¬ v1 = 0 then vr sc d c_X7_either (5, [(2, v0), (0, 1), (0, s0)], [], (K, M)) else (if s0 = 0 then vr sc d c_X7_either (5, [(2, v0), (0, 0), (0, s0)], [], (K, M)) else vr sc d c_X7_either (5, [(2, v0), (0, 1), (0, s0)], [], (K, M)))) := by
  refine (vr_steps 2 (x' := (32, [(2, v0), (0, v1), (0, s0)], [(0, v1)], (K, M))) rfl).trans ?_
  refine (v_if (k := 1) (b := 39) (c := ¬ v1 = 0) rfl rfl).trans ?_
  refine c_congr (fun _ => ?_) (fun _ => ?_)
  · exact vr_steps 4 rfl
  · refine (vr_steps 1 (x' := (36, [(2, v0), (0, v1), (0, s0)], [(0, s0)], (K, M))) rfl).trans ?_
    refine (v_if (k := 0) (b := 43) (c := s0 = 0) rfl rfl).trans ?_
    refine c_congr (fun _ => ?_) (fun _ => ?_)
    · exact vr_steps 3 rfl
    · exact vr_steps 4 rfl

noncomputable def c_X7_part : Nat → Option dI := d_mcode m_X7_part
set_option maxRecDepth 100000 in
theorem e_X7_part_0 {sc : dS} {d : Nat} {K : List (Nat × Nat)} {M : dM} {v0 v1 : Int} {q2 : dV} : vr sc d c_X7_part (0, [(2, v0), (0, v1), q2], [], (K, M)) = (if ¬ v1 = 0 then vr sc d c_X7_part (8, [(2, v0), (0, v1), q2], [], (K, M)) else (if rg K 7 v0 = true then (vc sc d 129 [(2, v0)] (K, M)).bind (fun r => vr sc d c_X7_part (8, [(2, v0), (0, v1), q2], r.1 ++ [], r.2)) else none)) := by
  refine (vr_steps 1 (x' := (1, [(2, v0), (0, v1), q2], [(0, v1)], (K, M))) rfl).trans ?_
  refine (v_if (k := 1) (b := 8) (c := ¬ v1 = 0) rfl rfl).trans ?_
  refine c_congr (fun _ => ?_) (fun _ => ?_)
  · rfl
  · refine (vr_steps 1 (x' := (5, [(2, v0), (0, v1), q2], [(2, v0)], (K, M))) rfl).trans ?_
    exact (v_virt (k := 129) (n := 1) (tag := 7) (r := v0) (av := []) (code := c_X7_part) (pc := 5) (len := 3) (L := [(2, v0), (0, v1), q2]) (st := [(2, v0)]) rfl (Nat.le_of_ble_eq_true rfl) (Nat.le_of_ble_eq_true rfl) rfl).trans rfl
set_option maxRecDepth 100000 in
theorem e_X7_part_8 {sc : dS} {d : Nat} {K : List (Nat × Nat)} {M : dM} {v0 v1 : Int} {q2 : dV} : vr sc d c_X7_part (8, [(2, v0), (0, v1), q2], [], (K, M)) = (if og K 7 v0 26 = true then (if ¬ (M v0 26) = 0 then vr sc d c_X7_part (19, [(2, v0), (0, v1), q2], [], (K, M)) else (if rg K 7 v0 = true then (vc sc d 128 [(2, v0)] (K, M)).bind (fun r => vr sc d c_X7_part (19, [(2, v0), (0, v1), q2], r.1 ++ [], r.2)) else none)) else none) := by
  refine (vr_steps 1 (x' := (9, [(2, v0), (0, v1), q2], [(2, v0)], (K, M))) rfl).trans ?_
  refine (v_getf (a := 7) (b := 26) (t := 0) rfl rfl).trans ?_
  refine g_congr (fun _ => ?_)
  refine (v_if (k := 1) (b := 19) (c := ¬ (M v0 26) = 0) rfl rfl).trans ?_
  refine c_congr (fun _ => ?_) (fun _ => ?_)
  · rfl
  · refine (vr_steps 1 (x' := (16, [(2, v0), (0, v1), q2], [(2, v0)], (K, M))) rfl).trans ?_
    exact (v_virt (k := 128) (n := 1) (tag := 7) (r := v0) (av := []) (code := c_X7_part) (pc := 16) (len := 3) (L := [(2, v0), (0, v1), q2]) (st := [(2, v0)]) rfl (Nat.le_of_ble_eq_true rfl) (Nat.le_of_ble_eq_true rfl) rfl).trans rfl
set_option maxRecDepth 100000 in
theorem e_X7_part_19 {sc : dS} {d : Nat} {K : List (Nat × Nat)} {M : dM} {v0 v1 : Int} {q2 : dV} : vr sc d c_X7_part (19, [(2, v0), (0, v1), q2], [], (K, M)) = (if og K 7 v0 26 = true then (if (M v0 26) = 0 then (if rg K 7 v0 = true then (vc sc d 140 [(2, v0)] (K, M)).bind (fun r => vr sc d c_X7_part (34, [(2, v0), (0, v1), q2], r.1 ++ [], r.2)) else none) else vr sc d c_X7_part (34, [(2, v0), (0, v1), q2], [(0, 0)], (K, M))) else none) := by
  refine (vr_steps 1 (x' := (20, [(2, v0), (0, v1), q2], [(2, v0)], (K, M))) rfl).trans ?_
  refine (v_getf (a := 7) (b := 26) (t := 0) rfl rfl).trans ?_
  refine g_congr (fun _ => ?_)
  refine (v_if (k := 0) (b := 30) (c := (M v0 26) = 0) rfl rfl).trans ?_
  refine c_congr (fun _ => ?_) (fun _ => ?_)
  · refine (vr_steps 1 (x' := (31, [(2, v0), (0, v1), q2], [(2, v0)], (K, M))) rfl).trans ?_
    exact (v_virt (k := 140) (n := 1) (tag := 7) (r := v0) (av := []) (code := c_X7_part) (pc := 31) (len := 3) (L := [(2, v0), (0, v1), q2]) (st := [(2, v0)]) rfl (Nat.le_of_ble_eq_true rfl) (Nat.le_of_ble_eq_true rfl) rfl).trans rfl
  · exact vr_steps 2 rfl
set_option maxRecDepth 100000 in
theorem e_X7_part_34 {sc : dS} {d : Nat} {K : List (Nat × Nat)} {M : dM} {v0 v1 s0 : Int} {q2 : dV} : vr sc d c_X7_part (34, [(2, v0), (0, v1), q2], [(0, s0)], (K, M)) = (if rg K 7 v0 = true then (vc sc d 132 [(2, v0), (0, 59)] (K, M)).bind (fun r => vr sc d c_X7_part (41, [(2, v0), (0, v1), (0, s0)], r.1 ++ [], r.2)) else none) := by
  refine (vr_steps 3 (x' := (38, [(2, v0), (0, v1), (0, s0)], [(0, 59), (2, v0)], (K, M))) rfl).trans ?_
  exact (v_virt (k := 132) (n := 2) (tag := 7) (r := v0) (av := [(0, 59)]) (code := c_X7_part) (pc := 38) (len := 3) (L := [(2, v0), (0, v1), (0, s0)]) (st := [(0, 59), (2, v0)]) rfl (Nat.le_of_ble_eq_true rfl) (Nat.le_of_ble_eq_true rfl) rfl).trans rfl
set_option maxRecDepth 100000 in
theorem e_X7_part_41 {sc : dS} {d : Nat} {K : List (Nat × Nat)} {M : dM} {v0 v1 v2 s0 : Int} : vr sc d c_X7_part (41, [(2, v0), (0, v1), (0, v2)], [(0, s0)], (K, M)) = (if ¬ s0 = 0 then vr sc d c_X7_part (48, [(2, v0), (0, v1), (0, v2)], [], (K, M)) else (if rg K 7 v0 = true then (vc sc d 129 [(2, v0)] (K, M)).bind (fun r => vr sc d c_X7_part (48, [(2, v0), (0, v1), (0, v2)], r.1 ++ [], r.2)) else none)) := by
  refine (v_if (k := 1) (b := 48) (c := ¬ s0 = 0) rfl rfl).trans ?_
  refine c_congr (fun _ => ?_) (fun _ => ?_)
  · rfl
  · refine (vr_steps 1 (x' := (45, [(2, v0), (0, v1), (0, v2)], [(2, v0)], (K, M))) rfl).trans ?_
    exact (v_virt (k := 129) (n := 1) (tag := 7) (r := v0) (av := []) (code := c_X7_part) (pc := 45) (len := 3) (L := [(2, v0), (0, v1), (0, v2)]) (st := [(2, v0)]) rfl (Nat.le_of_ble_eq_true rfl) (Nat.le_of_ble_eq_true rfl) rfl).trans rfl
set_option maxRecDepth 100000 in
theorem e_X7_part_48 {sc : dS} {d : Nat} {K : List (Nat × Nat)} {M : dM} {v0 v1 v2 : Int} : vr sc d c_X7_part (48, [(2, v0), (0, v1), (0, v2)], [], (K, M)) = (if og K 7 v0 26 = true then (if ¬ (M v0 26) = 0 then vr sc d c_X7_part (59, [(2, v0), (0, v1), (0, v2)], [], (K, M)) else (if rg K 7 v0 = true then (vc sc d 128 [(2, v0)] (K, M)).bind (fun r => vr sc d c_X7_part (59, [(2, v0), (0, v1), (0, v2)], r.1 ++ [], r.2)) else none)) else none) := by
  refine (vr_steps 1 (x' := (49, [(2, v0), (0, v1), (0, v2)], [(2, v0)], (K, M))) rfl).trans ?_
  refine (v_getf (a := 7) (b := 26) (t := 0) rfl rfl).trans ?_
  refine g_congr (fun _ => ?_)
  refine (v_if (k := 1) (b := 59) (c := ¬ (M v0 26) = 0) rfl rfl).trans ?_
  refine c_congr (fun _ => ?_) (fun _ => ?_)
  · rfl
  · refine (vr_steps 1 (x' := (56, [(2, v0), (0, v1), (0, v2)], [(2, v0)], (K, M))) rfl).trans ?_
    exact (v_virt (k := 128) (n := 1) (tag := 7) (r := v0) (av := []) (code := c_X7_part) (pc := 56) (len := 3) (L := [(2, v0), (0, v1), (0, v2)]) (st := [(2, v0)]) rfl (Nat.le_of_ble_eq_true rfl) (Nat.le_of_ble_eq_true rfl) rfl).trans rfl
set_option maxRecDepth 100000 in
theorem e_X7_part_59 {sc : dS} {d : Nat} {K : List (Nat × Nat)} {M : dM} {v0 v1 v2 : Int} : vr sc d c_X7_part (59, [(2, v0), (0, v1), (0, v2)], [], (K, M)) = (some ([(0, v2)], (K, M))) := by
  refine (vr_steps 1 (x' := (60, [(2, v0), (0, v1), (0, v2)], [(0, v2)], (K, M))) rfl).trans ?_
  exact vr_ret (ai := (35, 1, 1, 0, [])) rfl rfl

noncomputable def c_X7_readText : Nat → Option dI := d_mcode m_X7_readText
set_option maxRecDepth 100000 in
theorem e_X7_readText_0 {sc : dS} {d : Nat} {K : List (Nat × Nat)} {M : dM} {v0 v1 v2 : Int} {q3 q4 q5 : dV} : vr sc d c_X7_readText (0, [(2, v0), (0, v1), (0, v2), q3, q4, q5], [], (K, M)) = (if og K 7 v0 19 = true then (if -2147483648 ≤ (w32 (160 * v1)) ∧ (w32 (160 * v1)) < 2147483648 then (if og K 7 v0 2 = true then (if ag K 8 ((d_up M v0 19 (w32 (160 * v1))) v0 2) v1 = true then (if og K 7 v0 20 = true then (if -2147483648 ≤ ((d_up M v0 19 (w32 (160 * v1))) ((d_up M v0 19 (w32 (160 * v1))) v0 2) v1) ∧ ((d_up M v0 19 (w32 (160 * v1))) ((d_up M v0 19 (w32 (160 * v1))) v0 2) v1) < 2147483648 then (if og K 7 v0 21 = true then (if -2147483648 ≤ 0 ∧ 0 < 2147483648 then (if og K 7 v0 25 = true then (if -2147483648 ≤ 0 ∧ 0 < 2147483648 then (if og K 7 v0 26 = true then (if rg K 7 v0 = true then (vc sc d 128 [(2, v0)] (K, d_up (d_up (d_up (d_up (d_up M v0 19 (w32 (160 * v1))) v0 20 ((d_up M v0 19 (w32 (160 * v1))) ((d_up M v0 19 (w32 (160 * v1))) v0 2) v1)) v0 21 0) v0 25 0) v0 26 0)).bind (fun r => vr sc d c_X7_readText (38, [(2, v0), (0, v1), (0, v2), q3, q4, q5], r.1 ++ [], r.2)) else none) else none) else none) else none) else none) else none) else none) else none) else none) else none) else none) else none) := by
  refine (vr_steps 4 (x' := (6, [(2, v0), (0, v1), (0, v2), q3, q4, q5], [(0, w32 (160 * v1)), (2, v0)], (K, M))) rfl).trans ?_
  refine (v_putf (a := 7) (b := 19) (t := 0) rfl rfl (by intro q; cases q)).trans ?_
  refine g_congr (fun _ => ?_)
  refine p_congr (fun _ => ?_)
  refine (vr_steps 2 (x' := (11, [(2, v0), (0, v1), (0, v2), q3, q4, q5], [(2, v0), (2, v0)], (K, d_up M v0 19 (w32 (160 * v1))))) rfl).trans ?_
  refine (v_getf (a := 7) (b := 2) (t := 2) rfl rfl).trans ?_
  refine g_congr (fun _ => ?_)
  refine (vr_steps 1 (x' := (15, [(2, v0), (0, v1), (0, v2), q3, q4, q5], [(0, v1), (2, (d_up M v0 19 (w32 (160 * v1))) v0 2), (2, v0)], (K, d_up M v0 19 (w32 (160 * v1))))) rfl).trans ?_
  refine (v_ald (a := 8) rfl (by decide)).trans ?_
  refine g_congr (fun _ => ?_)
  refine (v_putf (a := 7) (b := 20) (t := 0) rfl rfl (by intro q; cases q)).trans ?_
  refine g_congr (fun _ => ?_)
  refine p_congr (fun _ => ?_)
  refine (vr_steps 2 (x' := (21, [(2, v0), (0, v1), (0, v2), q3, q4, q5], [(0, 0), (2, v0)], (K, d_up (d_up M v0 19 (w32 (160 * v1))) v0 20 ((d_up M v0 19 (w32 (160 * v1))) ((d_up M v0 19 (w32 (160 * v1))) v0 2) v1)))) rfl).trans ?_
  refine (v_putf (a := 7) (b := 21) (t := 0) rfl rfl (by intro q; cases q)).trans ?_
  refine g_congr (fun _ => ?_)
  refine p_congr (fun _ => ?_)
  refine (vr_steps 2 (x' := (26, [(2, v0), (0, v1), (0, v2), q3, q4, q5], [(0, 0), (2, v0)], (K, d_up (d_up (d_up M v0 19 (w32 (160 * v1))) v0 20 ((d_up M v0 19 (w32 (160 * v1))) ((d_up M v0 19 (w32 (160 * v1))) v0 2) v1)) v0 21 0))) rfl).trans ?_
  refine (v_putf (a := 7) (b := 25) (t := 0) rfl rfl (by intro q; cases q)).trans ?_
  refine g_congr (fun _ => ?_)
  refine p_congr (fun _ => ?_)
  refine (vr_steps 2 (x' := (31, [(2, v0), (0, v1), (0, v2), q3, q4, q5], [(0, 0), (2, v0)], (K, d_up (d_up (d_up (d_up M v0 19 (w32 (160 * v1))) v0 20 ((d_up M v0 19 (w32 (160 * v1))) ((d_up M v0 19 (w32 (160 * v1))) v0 2) v1)) v0 21 0) v0 25 0))) rfl).trans ?_
  refine (v_putz (a := 7) (b := 26) rfl rfl (by decide)).trans ?_
  refine g_congr (fun _ => ?_)
  refine (vr_steps 1 (x' := (35, [(2, v0), (0, v1), (0, v2), q3, q4, q5], [(2, v0)], (K, d_up (d_up (d_up (d_up (d_up M v0 19 (w32 (160 * v1))) v0 20 ((d_up M v0 19 (w32 (160 * v1))) ((d_up M v0 19 (w32 (160 * v1))) v0 2) v1)) v0 21 0) v0 25 0) v0 26 0))) rfl).trans ?_
  exact (v_virt (k := 128) (n := 1) (tag := 7) (r := v0) (av := []) (code := c_X7_readText) (pc := 35) (len := 3) (L := [(2, v0), (0, v1), (0, v2), q3, q4, q5]) (st := [(2, v0)]) rfl (Nat.le_of_ble_eq_true rfl) (Nat.le_of_ble_eq_true rfl) rfl).trans rfl
set_option maxRecDepth 100000 in
theorem e_X7_readText_38 {sc : dS} {d : Nat} {K : List (Nat × Nat)} {M : dM} {v0 v1 v2 : Int} {q3 q4 q5 : dV} : vr sc d c_X7_readText (38, [(2, v0), (0, v1), (0, v2), q3, q4, q5], [], (K, M)) = (if rg K 7 v0 = true then (vc sc d 131 [(2, v0), (0, 104), (0, 111), (0, 108), (0, 100), (0, 115), (0, 0), (0, 0), (0, 0)] (K, M)).bind (fun r => vr sc d c_X7_readText (56, [(2, v0), (0, v1), (0, v2), q3, q4, q5], r.1 ++ [(2, v0)], r.2)) else none) := by
  refine (vr_steps 10 (x' := (53, [(2, v0), (0, v1), (0, v2), q3, q4, q5], [(0, 0), (0, 0), (0, 0), (0, 115), (0, 100), (0, 108), (0, 111), (0, 104), (2, v0), (2, v0)], (K, M))) rfl).trans ?_
  exact (v_virt (k := 131) (n := 9) (tag := 7) (r := v0) (av := [(0, 104), (0, 111), (0, 108), (0, 100), (0, 115), (0, 0), (0, 0), (0, 0)]) (code := c_X7_readText) (pc := 53) (len := 3) (L := [(2, v0), (0, v1), (0, v2), q3, q4, q5]) (st := [(0, 0), (0, 0), (0, 0), (0, 115), (0, 100), (0, 108), (0, 111), (0, 104), (2, v0), (2, v0)]) rfl (Nat.le_of_ble_eq_true rfl) (Nat.le_of_ble_eq_true rfl) rfl).trans rfl
set_option maxRecDepth 100000 in
theorem e_X7_readText_56 {sc : dS} {d : Nat} {K : List (Nat × Nat)} {M : dM} {v0 v1 v2 s0 s1 : Int} {q3 q4 q5 : dV} : vr sc d c_X7_readText (56, [(2, v0), (0, v1), (0, v2), q3, q4, q5], [(0, s1), (2, s0)], (K, M)) = (if rg K 7 s0 = true then (vc sc d 141 [(2, s0), (0, s1)] (K, M)).bind (fun r => vr sc d c_X7_readText (59, [(2, v0), (0, v1), (0, v2), q3, q4, q5], r.1 ++ [], r.2)) else none) := by
  exact (v_virt (k := 141) (n := 2) (tag := 7) (r := s0) (av := [(0, s1)]) (code := c_X7_readText) (pc := 56) (len := 3) (L := [(2, v0), (0, v1), (0, v2), q3, q4, q5]) (st := [(0, s1), (2, s0)]) rfl (Nat.le_of_ble_eq_true rfl) (Nat.le_of_ble_eq_true rfl) rfl).trans rfl
set_option maxRecDepth 100000 in
theorem e_X7_readText_59 {sc : dS} {d : Nat} {K : List (Nat × Nat)} {M : dM} {v0 v1 v2 s0 : Int} {q3 q4 q5 : dV} : vr sc d c_X7_readText (59, [(2, v0), (0, v1), (0, v2), q3, q4, q5], [(0, s0)], (K, M)) = (if og K 7 v0 26 = true then (if (M v0 26) = 0 then (if rg K 7 v0 = true then (vc sc d 131 [(2, v0), (0, 108), (0, 101), (0, 97), (0, 114), (0, 110), (0, 115), (0, 0), (0, 0)] (K, M)).bind (fun r => vr sc d c_X7_readText (90, [(2, v0), (0, v1), (0, v2), (0, s0), q4, q5], r.1 ++ [(2, v0)], r.2)) else none) else vr sc d c_X7_readText (93, [(2, v0), (0, v1), (0, v2), (0, s0), q4, q5], [(0, 0)], (K, M))) else none) := by
  refine (vr_steps 2 (x' := (61, [(2, v0), (0, v1), (0, v2), (0, s0), q4, q5], [(2, v0)], (K, M))) rfl).trans ?_
  refine (v_getf (a := 7) (b := 26) (t := 0) rfl rfl).trans ?_
  refine g_congr (fun _ => ?_)
  refine (v_if (k := 0) (b := 71) (c := (M v0 26) = 0) rfl rfl).trans ?_
  refine c_congr (fun _ => ?_) (fun _ => ?_)
  · refine (vr_steps 10 (x' := (87, [(2, v0), (0, v1), (0, v2), (0, s0), q4, q5], [(0, 0), (0, 0), (0, 115), (0, 110), (0, 114), (0, 97), (0, 101), (0, 108), (2, v0), (2, v0)], (K, M))) rfl).trans ?_
    exact (v_virt (k := 131) (n := 9) (tag := 7) (r := v0) (av := [(0, 108), (0, 101), (0, 97), (0, 114), (0, 110), (0, 115), (0, 0), (0, 0)]) (code := c_X7_readText) (pc := 87) (len := 3) (L := [(2, v0), (0, v1), (0, v2), (0, s0), q4, q5]) (st := [(0, 0), (0, 0), (0, 115), (0, 110), (0, 114), (0, 97), (0, 101), (0, 108), (2, v0), (2, v0)]) rfl (Nat.le_of_ble_eq_true rfl) (Nat.le_of_ble_eq_true rfl) rfl).trans rfl
  · exact vr_steps 2 rfl
set_option maxRecDepth 100000 in
theorem e_X7_readText_90 {sc : dS} {d : Nat} {K : List (Nat × Nat)} {M : dM} {v0 v1 v2 v3 s0 s1 : Int} {q4 q5 : dV} : vr sc d c_X7_readText (90, [(2, v0), (0, v1), (0, v2), (0, v3), q4, q5], [(0, s1), (2, s0)], (K, M)) = (if rg K 7 s0 = true then (vc sc d 141 [(2, s0), (0, s1)] (K, M)).bind (fun r => vr sc d c_X7_readText (93, [(2, v0), (0, v1), (0, v2), (0, v3), q4, q5], r.1 ++ [], r.2)) else none) := by
  exact (v_virt (k := 141) (n := 2) (tag := 7) (r := s0) (av := [(0, s1)]) (code := c_X7_readText) (pc := 90) (len := 3) (L := [(2, v0), (0, v1), (0, v2), (0, v3), q4, q5]) (st := [(0, s1), (2, s0)]) rfl (Nat.le_of_ble_eq_true rfl) (Nat.le_of_ble_eq_true rfl) rfl).trans rfl
set_option maxRecDepth 100000 in
theorem e_X7_readText_93 {sc : dS} {d : Nat} {K : List (Nat × Nat)} {M : dM} {v0 v1 v2 v3 s0 : Int} {q4 q5 : dV} : vr sc d c_X7_readText (93, [(2, v0), (0, v1), (0, v2), (0, v3), q4, q5], [(0, s0)], (K, M)) = (if og K 7 v0 26 = true then (if (M v0 26) = 0 then (if rg K 7 v0 = true then (vc sc d 131 [(2, v0), (0, 114), (0, 101), (0, 97), (0, 100), (0, 115), (0, 0), (0, 0), (0, 0)] (K, M)).bind (fun r => vr sc d c_X7_readText (124, [(2, v0), (0, v1), (0, v2), (0, v3), (0, s0), q5], r.1 ++ [(2, v0)], r.2)) else none) else vr sc d c_X7_readText (127, [(2, v0), (0, v1), (0, v2), (0, v3), (0, s0), q5], [(0, 0)], (K, M))) else none) := by
  refine (vr_steps 2 (x' := (96, [(2, v0), (0, v1), (0, v2), (0, v3), (0, s0), q5], [(2, v0)], (K, M))) rfl).trans ?_
  refine (v_getf (a := 7) (b := 26) (t := 0) rfl rfl).trans ?_
  refine g_congr (fun _ => ?_)
  refine (v_if (k := 0) (b := 106) (c := (M v0 26) = 0) rfl rfl).trans ?_
  refine c_congr (fun _ => ?_) (fun _ => ?_)
  · refine (vr_steps 10 (x' := (121, [(2, v0), (0, v1), (0, v2), (0, v3), (0, s0), q5], [(0, 0), (0, 0), (0, 0), (0, 115), (0, 100), (0, 97), (0, 101), (0, 114), (2, v0), (2, v0)], (K, M))) rfl).trans ?_
    exact (v_virt (k := 131) (n := 9) (tag := 7) (r := v0) (av := [(0, 114), (0, 101), (0, 97), (0, 100), (0, 115), (0, 0), (0, 0), (0, 0)]) (code := c_X7_readText) (pc := 121) (len := 3) (L := [(2, v0), (0, v1), (0, v2), (0, v3), (0, s0), q5]) (st := [(0, 0), (0, 0), (0, 0), (0, 115), (0, 100), (0, 97), (0, 101), (0, 114), (2, v0), (2, v0)]) rfl (Nat.le_of_ble_eq_true rfl) (Nat.le_of_ble_eq_true rfl) rfl).trans rfl
  · exact vr_steps 2 rfl
set_option maxRecDepth 100000 in
theorem e_X7_readText_124 {sc : dS} {d : Nat} {K : List (Nat × Nat)} {M : dM} {v0 v1 v2 v3 v4 s0 s1 : Int} {q5 : dV} : vr sc d c_X7_readText (124, [(2, v0), (0, v1), (0, v2), (0, v3), (0, v4), q5], [(0, s1), (2, s0)], (K, M)) = (if rg K 7 s0 = true then (vc sc d 141 [(2, s0), (0, s1)] (K, M)).bind (fun r => vr sc d c_X7_readText (127, [(2, v0), (0, v1), (0, v2), (0, v3), (0, v4), q5], r.1 ++ [], r.2)) else none) := by
  exact (v_virt (k := 141) (n := 2) (tag := 7) (r := s0) (av := [(0, s1)]) (code := c_X7_readText) (pc := 124) (len := 3) (L := [(2, v0), (0, v1), (0, v2), (0, v3), (0, v4), q5]) (st := [(0, s1), (2, s0)]) rfl (Nat.le_of_ble_eq_true rfl) (Nat.le_of_ble_eq_true rfl) rfl).trans rfl
set_option maxRecDepth 100000 in
theorem e_X7_readText_127 {sc : dS} {d : Nat} {K : List (Nat × Nat)} {M : dM} {v0 v1 v2 v3 v4 s0 : Int} {q5 : dV} : vr sc d c_X7_readText (127, [(2, v0), (0, v1), (0, v2), (0, v3), (0, v4), q5], [(0, s0)], (K, M)) = (if og K 7 v0 26 = true then (if ¬ (M v0 26) = 0 then vr sc d c_X7_readText (147, [(2, v0), (0, v1), (0, v2), (0, v3), (0, v4), (0, s0)], [], (K, M)) else (if og K 7 v0 22 = true then (if (M v0 22) = 0 then vr sc d c_X7_readText (147, [(2, v0), (0, v1), (0, v2), (0, v3), (0, v4), (0, s0)], [], (K, M)) else (if rg K 7 v0 = true then (vc sc d 129 [(2, v0)] (K, M)).bind (fun r => vr sc d c_X7_readText (147, [(2, v0), (0, v1), (0, v2), (0, v3), (0, v4), (0, s0)], r.1 ++ [], r.2)) else none)) else none)) else none) := by
  refine (vr_steps 2 (x' := (130, [(2, v0), (0, v1), (0, v2), (0, v3), (0, v4), (0, s0)], [(2, v0)], (K, M))) rfl).trans ?_
  refine (v_getf (a := 7) (b := 26) (t := 0) rfl rfl).trans ?_
  refine g_congr (fun _ => ?_)
  refine (v_if (k := 1) (b := 147) (c := ¬ (M v0 26) = 0) rfl rfl).trans ?_
  refine c_congr (fun _ => ?_) (fun _ => ?_)
  · rfl
  · refine (vr_steps 1 (x' := (137, [(2, v0), (0, v1), (0, v2), (0, v3), (0, v4), (0, s0)], [(2, v0)], (K, M))) rfl).trans ?_
    refine (v_getf (a := 7) (b := 22) (t := 0) rfl rfl).trans ?_
    refine g_congr (fun _ => ?_)
    refine (v_if (k := 0) (b := 147) (c := (M v0 22) = 0) rfl rfl).trans ?_
    refine c_congr (fun _ => ?_) (fun _ => ?_)
    · rfl
    · refine (vr_steps 1 (x' := (144, [(2, v0), (0, v1), (0, v2), (0, v3), (0, v4), (0, s0)], [(2, v0)], (K, M))) rfl).trans ?_
      exact (v_virt (k := 129) (n := 1) (tag := 7) (r := v0) (av := []) (code := c_X7_readText) (pc := 144) (len := 3) (L := [(2, v0), (0, v1), (0, v2), (0, v3), (0, v4), (0, s0)]) (st := [(2, v0)]) rfl (Nat.le_of_ble_eq_true rfl) (Nat.le_of_ble_eq_true rfl) rfl).trans rfl
set_option maxRecDepth 100000 in
theorem e_X7_readText_147 {sc : dS} {d : Nat} {K : List (Nat × Nat)} {M : dM} {v0 v1 v2 v3 v4 v5 : Int} : vr sc d c_X7_readText (147, [(2, v0), (0, v1), (0, v2), (0, v3), (0, v4), (0, v5)], [], (K, M)) = (if ¬ v2 = 0 then (if ¬ v2 = 1 then some ([(0, v5)], (K, M)) else some ([(0, v4)], (K, M))) else some ([(0, v3)], (K, M))) := by
  refine (vr_steps 1 (x' := (148, [(2, v0), (0, v1), (0, v2), (0, v3), (0, v4), (0, v5)], [(0, v2)], (K, M))) rfl).trans ?_
  refine (v_if (k := 1) (b := 155) (c := ¬ v2 = 0) rfl rfl).trans ?_
  refine c_congr (fun _ => ?_) (fun _ => ?_)
  · refine (vr_steps 2 (x' := (157, [(2, v0), (0, v1), (0, v2), (0, v3), (0, v4), (0, v5)], [(0, 1), (0, v2)], (K, M))) rfl).trans ?_
    refine (v_icmp (k := 1) (b := 165) (c := ¬ v2 = 1) rfl rfl).trans ?_
    refine c_congr (fun _ => ?_) (fun _ => ?_)
    · refine (vr_steps 1 (x' := (167, [(2, v0), (0, v1), (0, v2), (0, v3), (0, v4), (0, v5)], [(0, v5)], (K, M))) rfl).trans ?_
      exact vr_ret (ai := (35, 1, 1, 0, [])) rfl rfl
    · refine (vr_steps 2 (x' := (167, [(2, v0), (0, v1), (0, v2), (0, v3), (0, v4), (0, v5)], [(0, v4)], (K, M))) rfl).trans ?_
      exact vr_ret (ai := (35, 1, 1, 0, [])) rfl rfl
  · refine (vr_steps 2 (x' := (167, [(2, v0), (0, v1), (0, v2), (0, v3), (0, v4), (0, v5)], [(0, v3)], (K, M))) rfl).trans ?_
    exact vr_ret (ai := (35, 1, 1, 0, [])) rfl rfl

noncomputable def c_X7_text : Nat → Option dI := d_mcode m_X7_text
set_option maxRecDepth 100000 in
theorem e_X7_text_0 {sc : dS} {d : Nat} {K : List (Nat × Nat)} {M : dM} {v0 : Int} {q1 : dV} : vr sc d c_X7_text (0, [(2, v0), q1], [], (K, M)) = (if og K 7 v0 3 = true then (if ¬ (M v0 3) = 6 then vr sc d c_X7_text (14, [(2, v0), (0, 0)], [], (K, M)) else some ([(0, (-4))], (K, M))) else none) := by
  refine (vr_steps 1 (x' := (1, [(2, v0), q1], [(2, v0)], (K, M))) rfl).trans ?_
  refine (v_getf (a := 7) (b := 3) (t := 0) rfl rfl).trans ?_
  refine g_congr (fun _ => ?_)
  refine (vr_steps 1 (x' := (6, [(2, v0), q1], [(0, 6), (0, M v0 3)], (K, M))) rfl).trans ?_
  refine (v_icmp (k := 1) (b := 12) (c := ¬ (M v0 3) = 6) rfl rfl).trans ?_
  refine c_congr (fun _ => ?_) (fun _ => ?_)
  · exact vr_steps 2 rfl
  · refine (vr_steps 1 (x' := (11, [(2, v0), q1], [(0, (-4))], (K, M))) rfl).trans ?_
    exact vr_ret (ai := (35, 1, 1, 0, [])) rfl rfl
set_option maxRecDepth 100000 in
theorem e_X7_text_14 {sc : dS} {d : Nat} {K : List (Nat × Nat)} {M : dM} {v0 v1 : Int} : vr sc d c_X7_text (14, [(2, v0), (0, v1)], [], (K, M)) = (if og K 7 v0 6 = true then (if (M v0 6) ≤ v1 then (if og K 7 v0 2 = true then (if og K 7 v0 3 = true then (if og K 7 v0 6 = true then (if ag K 8 (M v0 2) (M v0 3) = true then (if og K 7 v0 6 = true then (if -2147483648 ≤ 0 ∧ 0 < 2147483648 then (if og K 7 v0 3 = true then (if rg K 7 v0 = true then (vc sc d 142 [(2, v0), (0, (d_up (d_up M (M v0 2) (M v0 3) (M v0 6)) v0 6 0) v0 3), (0, 0)] (K, d_up (d_up M (M v0 2) (M v0 3) (M v0 6)) v0 6 0)).bind (fun r => vr sc d c_X7_text (76, [(2, v0), (0, v1)], r.1 ++ [], r.2)) else none) else none) else none) else none) else none) else none) else none) else none) else (if og K 7 v0 1 = true then (if og K 7 v0 3 = true then (if og K 7 v0 5 = true then (if ag K 8 (M v0 5) v1 = true then (if ag K 8 (M v0 1) (w32 ((w32 (160 * (M v0 3))) + v1)) = true then vr sc d c_X7_text (14, [(2, v0), (0, w32 (v1 + 1))], [], (K, d_up M (M v0 1) (w32 ((w32 (160 * (M v0 3))) + v1)) (M (M v0 5) v1))) else none) else none) else none) else none) else none)) else none) := by
  refine (vr_steps 2 (x' := (16, [(2, v0), (0, v1)], [(2, v0), (0, v1)], (K, M))) rfl).trans ?_
  refine (v_getf (a := 7) (b := 6) (t := 0) rfl rfl).trans ?_
  refine g_congr (fun _ => ?_)
  refine (v_icmp (k := 3) (b := 49) (c := (M v0 6) ≤ v1) rfl rfl).trans ?_
  refine c_congr (fun _ => ?_) (fun _ => ?_)
  · refine (vr_steps 1 (x' := (50, [(2, v0), (0, v1)], [(2, v0)], (K, M))) rfl).trans ?_
    refine (v_getf (a := 7) (b := 2) (t := 2) rfl rfl).trans ?_
    refine g_congr (fun _ => ?_)
    refine (vr_steps 1 (x' := (54, [(2, v0), (0, v1)], [(2, v0), (2, M v0 2)], (K, M))) rfl).trans ?_
    refine (v_getf (a := 7) (b := 3) (t := 0) rfl rfl).trans ?_
    refine g_congr (fun _ => ?_)
    refine (vr_steps 1 (x' := (58, [(2, v0), (0, v1)], [(2, v0), (0, M v0 3), (2, M v0 2)], (K, M))) rfl).trans ?_
    refine (v_getf (a := 7) (b := 6) (t := 0) rfl rfl).trans ?_
    refine g_congr (fun _ => ?_)
    refine (v_ast rfl).trans ?_
    refine g_congr (fun _ => ?_)
    refine (vr_steps 2 (x' := (64, [(2, v0), (0, v1)], [(0, 0), (2, v0)], (K, d_up M (M v0 2) (M v0 3) (M v0 6)))) rfl).trans ?_
    refine (v_putf (a := 7) (b := 6) (t := 0) rfl rfl (by intro q; cases q)).trans ?_
    refine g_congr (fun _ => ?_)
    refine p_congr (fun _ => ?_)
    refine (vr_steps 2 (x' := (69, [(2, v0), (0, v1)], [(2, v0), (2, v0)], (K, d_up (d_up M (M v0 2) (M v0 3) (M v0 6)) v0 6 0))) rfl).trans ?_
    refine (v_getf (a := 7) (b := 3) (t := 0) rfl rfl).trans ?_
    refine g_congr (fun _ => ?_)
    refine (vr_steps 1 (x' := (73, [(2, v0), (0, v1)], [(0, 0), (0, (d_up (d_up M (M v0 2) (M v0 3) (M v0 6)) v0 6 0) v0 3), (2, v0)], (K, d_up (d_up M (M v0 2) (M v0 3) (M v0 6)) v0 6 0))) rfl).trans ?_
    exact (v_virt (k := 142) (n := 3) (tag := 7) (r := v0) (av := [(0, (d_up (d_up M (M v0 2) (M v0 3) (M v0 6)) v0 6 0) v0 3), (0, 0)]) (code := c_X7_text) (pc := 73) (len := 3) (L := [(2, v0), (0, v1)]) (st := [(0, 0), (0, (d_up (d_up M (M v0 2) (M v0 3) (M v0 6)) v0 6 0) v0 3), (2, v0)]) rfl (Nat.le_of_ble_eq_true rfl) (Nat.le_of_ble_eq_true rfl) rfl).trans rfl
  · refine (vr_steps 1 (x' := (23, [(2, v0), (0, v1)], [(2, v0)], (K, M))) rfl).trans ?_
    refine (v_getf (a := 7) (b := 1) (t := 2) rfl rfl).trans ?_
    refine g_congr (fun _ => ?_)
    refine (vr_steps 2 (x' := (30, [(2, v0), (0, v1)], [(2, v0), (0, 160), (2, M v0 1)], (K, M))) rfl).trans ?_
    refine (v_getf (a := 7) (b := 3) (t := 0) rfl rfl).trans ?_
    refine g_congr (fun _ => ?_)
    refine (vr_steps 4 (x' := (37, [(2, v0), (0, v1)], [(2, v0), (0, w32 ((w32 (160 * (M v0 3))) + v1)), (2, M v0 1)], (K, M))) rfl).trans ?_
    refine (v_getf (a := 7) (b := 5) (t := 2) rfl rfl).trans ?_
    refine g_congr (fun _ => ?_)
    refine (vr_steps 1 (x' := (41, [(2, v0), (0, v1)], [(0, v1), (2, M v0 5), (0, w32 ((w32 (160 * (M v0 3))) + v1)), (2, M v0 1)], (K, M))) rfl).trans ?_
    refine (v_ald (a := 8) rfl (by decide)).trans ?_
    refine g_congr (fun _ => ?_)
    refine (v_ast rfl).trans ?_
    refine g_congr (fun _ => ?_)
    exact vr_steps 2 rfl
set_option maxRecDepth 100000 in
theorem e_X7_text_76 {sc : dS} {d : Nat} {K : List (Nat × Nat)} {M : dM} {v0 v1 s0 : Int} : vr sc d c_X7_text (76, [(2, v0), (0, v1)], [(0, s0)], (K, M)) = (if og K 7 v0 26 = true then (if (M v0 26) = 0 then (if og K 7 v0 3 = true then (if og K 7 v0 3 = true then (if -2147483648 ≤ (w32 ((M v0 3) + 1)) ∧ (w32 ((M v0 3) + 1)) < 2147483648 then (if og K 7 v0 3 = true then some ([(0, w32 (((d_up M v0 3 (w32 ((M v0 3) + 1))) v0 3) - 1))], (K, d_up M v0 3 (w32 ((M v0 3) + 1)))) else none) else none) else none) else none) else (if og K 7 v0 27 = true then some ([(0, w32 ((-100) - (M v0 27)))], (K, M)) else none)) else none) := by
  refine (vr_steps 2 (x' := (78, [(2, v0), (0, s0)], [(2, v0)], (K, M))) rfl).trans ?_
  refine (v_getf (a := 7) (b := 26) (t := 0) rfl rfl).trans ?_
  refine g_congr (fun _ => ?_)
  refine (v_if (k := 0) (b := 92) (c := (M v0 26) = 0) rfl rfl).trans ?_
  refine c_congr (fun _ => ?_) (fun _ => ?_)
  · refine (vr_steps 2 (x' := (94, [(2, v0), (0, s0)], [(2, v0), (2, v0)], (K, M))) rfl).trans ?_
    refine (v_getf (a := 7) (b := 3) (t := 0) rfl rfl).trans ?_
    refine g_congr (fun _ => ?_)
    refine (vr_steps 2 (x' := (99, [(2, v0), (0, s0)], [(0, w32 ((M v0 3) + 1)), (2, v0)], (K, M))) rfl).trans ?_
    refine (v_putf (a := 7) (b := 3) (t := 0) rfl rfl (by intro q; cases q)).trans ?_
    refine g_congr (fun _ => ?_)
    refine p_congr (fun _ => ?_)
    refine (vr_steps 1 (x' := (103, [(2, v0), (0, s0)], [(2, v0)], (K, d_up M v0 3 (w32 ((M v0 3) + 1))))) rfl).trans ?_
    refine (v_getf (a := 7) (b := 3) (t := 0) rfl rfl).trans ?_
    refine g_congr (fun _ => ?_)
    refine (vr_steps 2 (x' := (108, [(2, v0), (0, s0)], [(0, w32 (((d_up M v0 3 (w32 ((M v0 3) + 1))) v0 3) - 1))], (K, d_up M v0 3 (w32 ((M v0 3) + 1))))) rfl).trans ?_
    exact vr_ret (ai := (35, 1, 1, 0, [])) rfl rfl
  · refine (vr_steps 2 (x' := (87, [(2, v0), (0, s0)], [(2, v0), (0, (-100))], (K, M))) rfl).trans ?_
    refine (v_getf (a := 7) (b := 27) (t := 0) rfl rfl).trans ?_
    refine g_congr (fun _ => ?_)
    refine (vr_steps 1 (x' := (91, [(2, v0), (0, s0)], [(0, w32 ((-100) - (M v0 27)))], (K, M))) rfl).trans ?_
    exact vr_ret (ai := (35, 1, 1, 0, [])) rfl rfl

noncomputable def c_X7_force : Nat → Option dI := d_mcode m_X7_force
set_option maxRecDepth 100000 in
theorem e_X7_force_0 {sc : dS} {d : Nat} {K : List (Nat × Nat)} {M : dM} {v0 v1 : Int} {q2 : dV} : vr sc d c_X7_force (0, [(2, v0), (0, v1), q2], [], (K, M)) = (if og K 7 v0 3 = true then (vc sc d 114 [(1, v1), (1, 0), (1, w32 ((M v0 3) - 1))] (K, M)).bind (fun r => vr sc d c_X7_force (13, [(2, v0), (0, v1), q2], r.1 ++ [], r.2)) else none) := by
  refine (vr_steps 4 (x' := (4, [(2, v0), (0, v1), q2], [(2, v0), (1, 0), (1, v1)], (K, M))) rfl).trans ?_
  refine (v_getf (a := 7) (b := 3) (t := 0) rfl rfl).trans ?_
  refine g_congr (fun _ => ?_)
  refine (vr_steps 3 (x' := (10, [(2, v0), (0, v1), q2], [(1, w32 ((M v0 3) - 1)), (1, 0), (1, v1)], (K, M))) rfl).trans ?_
  exact (v_stat (k := 114) (n := 3) (code := c_X7_force) (pc := 10) (len := 3) (L := [(2, v0), (0, v1), q2]) (st := [(1, w32 ((M v0 3) - 1)), (1, 0), (1, v1)]) rfl (Nat.le_of_ble_eq_true rfl) (Nat.le_of_ble_eq_true rfl)).trans rfl
set_option maxRecDepth 100000 in
theorem e_X7_force_13 {sc : dS} {d : Nat} {K : List (Nat × Nat)} {M : dM} {v0 v1 s0 : Int} {q2 : dV} : vr sc d c_X7_force (13, [(2, v0), (0, v1), q2], [(0, s0)], (K, M)) = (if ¬ s0 = 0 then (if og K 7 v0 4 = true then (if og K 7 v0 4 = true then (if -2147483648 ≤ v1 ∧ v1 < 2147483648 then some ([(0, M v0 4)], (K, d_up M v0 4 v1)) else none) else none) else none) else some ([(0, (-2))], (K, M))) := by
  refine (v_if (k := 1) (b := 19) (c := ¬ s0 = 0) rfl rfl).trans ?_
  refine c_congr (fun _ => ?_) (fun _ => ?_)
  · refine (vr_steps 1 (x' := (20, [(2, v0), (0, v1), q2], [(2, v0)], (K, M))) rfl).trans ?_
    refine (v_getf (a := 7) (b := 4) (t := 0) rfl rfl).trans ?_
    refine g_congr (fun _ => ?_)
    refine (vr_steps 3 (x' := (26, [(2, v0), (0, v1), (0, M v0 4)], [(0, v1), (2, v0)], (K, M))) rfl).trans ?_
    refine (v_putf (a := 7) (b := 4) (t := 0) rfl rfl (by intro q; cases q)).trans ?_
    refine g_congr (fun _ => ?_)
    refine p_congr (fun _ => ?_)
    refine (vr_steps 1 (x' := (30, [(2, v0), (0, v1), (0, M v0 4)], [(0, M v0 4)], (K, d_up M v0 4 v1))) rfl).trans ?_
    exact vr_ret (ai := (35, 1, 1, 0, [])) rfl rfl
  · refine (vr_steps 1 (x' := (18, [(2, v0), (0, v1), q2], [(0, (-2))], (K, M))) rfl).trans ?_
    exact vr_ret (ai := (35, 1, 1, 0, [])) rfl rfl

noncomputable def c_X7_says : Nat → Option dI := d_mcode m_X7_says
set_option maxRecDepth 100000 in
theorem e_X7_says_0 {sc : dS} {d : Nat} {K : List (Nat × Nat)} {M : dM} {v0 v1 v2 v3 v4 : Int} : vr sc d c_X7_says (0, [(2, v0), (0, v1), (0, v2), (0, v3), (0, v4)], [], (K, M)) = (if og K 7 v0 13 = true then (if -2147483648 ≤ v4 ∧ v4 < 2147483648 then (if og K 7 v0 9 = true then (if ag K 8 ((d_up M v0 13 v4) v0 9) (w32 ((w32 (3 * v2)) + 1)) = true then (if og K 7 v0 14 = true then (if -2147483648 ≤ ((d_up M v0 13 v4) ((d_up M v0 13 v4) v0 9) (w32 ((w32 (3 * v2)) + 1))) ∧ ((d_up M v0 13 v4) ((d_up M v0 13 v4) v0 9) (w32 ((w32 (3 * v2)) + 1))) < 2147483648 then (if ¬ v3 = (-1) then (if og K 7 v0 10 = true then (if ag K 8 ((d_up (d_up M v0 13 v4) v0 14 ((d_up M v0 13 v4) ((d_up M v0 13 v4) v0 9) (w32 ((w32 (3 * v2)) + 1)))) v0 10) (w32 (3 * v3)) = true then (if og K 7 v0 15 = true then (if -2147483648 ≤ ((d_up (d_up M v0 13 v4) v0 14 ((d_up M v0 13 v4) ((d_up M v0 13 v4) v0 9) (w32 ((w32 (3 * v2)) + 1)))) ((d_up (d_up M v0 13 v4) v0 14 ((d_up M v0 13 v4) ((d_up M v0 13 v4) v0 9) (w32 ((w32 (3 * v2)) + 1)))) v0 10) (w32 (3 * v3))) ∧ ((d_up (d_up M v0 13 v4) v0 14 ((d_up M v0 13 v4) ((d_up M v0 13 v4) v0 9) (w32 ((w32 (3 * v2)) + 1)))) ((d_up (d_up M v0 13 v4) v0 14 ((d_up M v0 13 v4) ((d_up M v0 13 v4) v0 9) (w32 ((w32 (3 * v2)) + 1)))) v0 10) (w32 (3 * v3))) < 2147483648 then (if og K 7 v0 8 = true then (if og K 7 v0 16 = true then (if -2147483648 ≤ ((d_up (d_up (d_up M v0 13 v4) v0 14 ((d_up M v0 13 v4) ((d_up M v0 13 v4) v0 9) (w32 ((w32 (3 * v2)) + 1)))) v0 15 ((d_up (d_up M v0 13 v4) v0 14 ((d_up M v0 13 v4) ((d_up M v0 13 v4) v0 9) (w32 ((w32 (3 * v2)) + 1)))) ((d_up (d_up M v0 13 v4) v0 14 ((d_up M v0 13 v4) ((d_up M v0 13 v4) v0 9) (w32 ((w32 (3 * v2)) + 1)))) v0 10) (w32 (3 * v3)))) v0 8) ∧ ((d_up (d_up (d_up M v0 13 v4) v0 14 ((d_up M v0 13 v4) ((d_up M v0 13 v4) v0 9) (w32 ((w32 (3 * v2)) + 1)))) v0 15 ((d_up (d_up M v0 13 v4) v0 14 ((d_up M v0 13 v4) ((d_up M v0 13 v4) v0 9) (w32 ((w32 (3 * v2)) + 1)))) ((d_up (d_up M v0 13 v4) v0 14 ((d_up M v0 13 v4) ((d_up M v0 13 v4) v0 9) (w32 ((w32 (3 * v2)) + 1)))) v0 10) (w32 (3 * v3)))) v0 8) < 2147483648 then (if og K 7 v0 9 = true then (if ag K 8 ((d_up (d_up (d_up (d_up M v0 13 v4) v0 14 ((d_up M v0 13 v4) ((d_up M v0 13 v4) v0 9) (w32 ((w32 (3 * v2)) + 1)))) v0 15 ((d_up (d_up M v0 13 v4) v0 14 ((d_up M v0 13 v4) ((d_up M v0 13 v4) v0 9) (w32 ((w32 (3 * v2)) + 1)))) ((d_up (d_up M v0 13 v4) v0 14 ((d_up M v0 13 v4) ((d_up M v0 13 v4) v0 9) (w32 ((w32 (3 * v2)) + 1)))) v0 10) (w32 (3 * v3)))) v0 16 ((d_up (d_up (d_up M v0 13 v4) v0 14 ((d_up M v0 13 v4) ((d_up M v0 13 v4) v0 9) (w32 ((w32 (3 * v2)) + 1)))) v0 15 ((d_up (d_up M v0 13 v4) v0 14 ((d_up M v0 13 v4) ((d_up M v0 13 v4) v0 9) (w32 ((w32 (3 * v2)) + 1)))) ((d_up (d_up M v0 13 v4) v0 14 ((d_up M v0 13 v4) ((d_up M v0 13 v4) v0 9) (w32 ((w32 (3 * v2)) + 1)))) v0 10) (w32 (3 * v3)))) v0 8)) v0 9) (w32 (3 * v2)) = true then (if og K 7 v0 17 = true then (if -2147483648 ≤ ((d_up (d_up (d_up (d_up M v0 13 v4) v0 14 ((d_up M v0 13 v4) ((d_up M v0 13 v4) v0 9) (w32 ((w32 (3 * v2)) + 1)))) v0 15 ((d_up (d_up M v0 13 v4) v0 14 ((d_up M v0 13 v4) ((d_up M v0 13 v4) v0 9) (w32 ((w32 (3 * v2)) + 1)))) ((d_up (d_up M v0 13 v4) v0 14 ((d_up M v0 13 v4) ((d_up M v0 13 v4) v0 9) (w32 ((w32 (3 * v2)) + 1)))) v0 10) (w32 (3 * v3)))) v0 16 ((d_up (d_up (d_up M v0 13 v4) v0 14 ((d_up M v0 13 v4) ((d_up M v0 13 v4) v0 9) (w32 ((w32 (3 * v2)) + 1)))) v0 15 ((d_up (d_up M v0 13 v4) v0 14 ((d_up M v0 13 v4) ((d_up M v0 13 v4) v0 9) (w32 ((w32 (3 * v2)) + 1)))) ((d_up (d_up M v0 13 v4) v0 14 ((d_up M v0 13 v4) ((d_up M v0 13 v4) v0 9) (w32 ((w32 (3 * v2)) + 1)))) v0 10) (w32 (3 * v3)))) v0 8)) ((d_up (d_up (d_up (d_up M v0 13 v4) v0 14 ((d_up M v0 13 v4) ((d_up M v0 13 v4) v0 9) (w32 ((w32 (3 * v2)) + 1)))) v0 15 ((d_up (d_up M v0 13 v4) v0 14 ((d_up M v0 13 v4) ((d_up M v0 13 v4) v0 9) (w32 ((w32 (3 * v2)) + 1)))) ((d_up (d_up M v0 13 v4) v0 14 ((d_up M v0 13 v4) ((d_up M v0 13 v4) v0 9) (w32 ((w32 (3 * v2)) + 1)))) v0 10) (w32 (3 * v3)))) v0 16 ((d_up (d_up (d_up M v0 13 v4) v0 14 ((d_up M v0 13 v4) ((d_up M v0 13 v4) v0 9) (w32 ((w32 (3 * v2)) + 1)))) v0 15 ((d_up (d_up M v0 13 v4) v0 14 ((d_up M v0 13 v4) ((d_up M v0 13 v4) v0 9) (w32 ((w32 (3 * v2)) + 1)))) ((d_up (d_up M v0 13 v4) v0 14 ((d_up M v0 13 v4) ((d_up M v0 13 v4) v0 9) (w32 ((w32 (3 * v2)) + 1)))) v0 10) (w32 (3 * v3)))) v0 8)) v0 9) (w32 (3 * v2))) ∧ ((d_up (d_up (d_up (d_up M v0 13 v4) v0 14 ((d_up M v0 13 v4) ((d_up M v0 13 v4) v0 9) (w32 ((w32 (3 * v2)) + 1)))) v0 15 ((d_up (d_up M v0 13 v4) v0 14 ((d_up M v0 13 v4) ((d_up M v0 13 v4) v0 9) (w32 ((w32 (3 * v2)) + 1)))) ((d_up (d_up M v0 13 v4) v0 14 ((d_up M v0 13 v4) ((d_up M v0 13 v4) v0 9) (w32 ((w32 (3 * v2)) + 1)))) v0 10) (w32 (3 * v3)))) v0 16 ((d_up (d_up (d_up M v0 13 v4) v0 14 ((d_up M v0 13 v4) ((d_up M v0 13 v4) v0 9) (w32 ((w32 (3 * v2)) + 1)))) v0 15 ((d_up (d_up M v0 13 v4) v0 14 ((d_up M v0 13 v4) ((d_up M v0 13 v4) v0 9) (w32 ((w32 (3 * v2)) + 1)))) ((d_up (d_up M v0 13 v4) v0 14 ((d_up M v0 13 v4) ((d_up M v0 13 v4) v0 9) (w32 ((w32 (3 * v2)) + 1)))) v0 10) (w32 (3 * v3)))) v0 8)) ((d_up (d_up (d_up (d_up M v0 13 v4) v0 14 ((d_up M v0 13 v4) ((d_up M v0 13 v4) v0 9) (w32 ((w32 (3 * v2)) + 1)))) v0 15 ((d_up (d_up M v0 13 v4) v0 14 ((d_up M v0 13 v4) ((d_up M v0 13 v4) v0 9) (w32 ((w32 (3 * v2)) + 1)))) ((d_up (d_up M v0 13 v4) v0 14 ((d_up M v0 13 v4) ((d_up M v0 13 v4) v0 9) (w32 ((w32 (3 * v2)) + 1)))) v0 10) (w32 (3 * v3)))) v0 16 ((d_up (d_up (d_up M v0 13 v4) v0 14 ((d_up M v0 13 v4) ((d_up M v0 13 v4) v0 9) (w32 ((w32 (3 * v2)) + 1)))) v0 15 ((d_up (d_up M v0 13 v4) v0 14 ((d_up M v0 13 v4) ((d_up M v0 13 v4) v0 9) (w32 ((w32 (3 * v2)) + 1)))) ((d_up (d_up M v0 13 v4) v0 14 ((d_up M v0 13 v4) ((d_up M v0 13 v4) v0 9) (w32 ((w32 (3 * v2)) + 1)))) v0 10) (w32 (3 * v3)))) v0 8)) v0 9) (w32 (3 * v2))) < 2147483648 then (if og K 7 v0 7 = true then (if og K 7 v0 18 = true then (if -2147483648 ≤ ((d_up (d_up (d_up (d_up (d_up M v0 13 v4) v0 14 ((d_up M v0 13 v4) ((d_up M v0 13 v4) v0 9) (w32 ((w32 (3 * v2)) + 1)))) v0 15 ((d_up (d_up M v0 13 v4) v0 14 ((d_up M v0 13 v4) ((d_up M v0 13 v4) v0 9) (w32 ((w32 (3 * v2)) + 1)))) ((d_up (d_up M v0 13 v4) v0 14 ((d_up M v0 13 v4) ((d_up M v0 13 v4) v0 9) (w32 ((w32 (3 * v2)) + 1)))) v0 10) (w32 (3 * v3)))) v0 16 ((d_up (d_up (d_up M v0 13 v4) v0 14 ((d_up M v0 13 v4) ((d_up M v0 13 v4) v0 9) (w32 ((w32 (3 * v2)) + 1)))) v0 15 ((d_up (d_up M v0 13 v4) v0 14 ((d_up M v0 13 v4) ((d_up M v0 13 v4) v0 9) (w32 ((w32 (3 * v2)) + 1)))) ((d_up (d_up M v0 13 v4) v0 14 ((d_up M v0 13 v4) ((d_up M v0 13 v4) v0 9) (w32 ((w32 (3 * v2)) + 1)))) v0 10) (w32 (3 * v3)))) v0 8)) v0 17 ((d_up (d_up (d_up (d_up M v0 13 v4) v0 14 ((d_up M v0 13 v4) ((d_up M v0 13 v4) v0 9) (w32 ((w32 (3 * v2)) + 1)))) v0 15 ((d_up (d_up M v0 13 v4) v0 14 ((d_up M v0 13 v4) ((d_up M v0 13 v4) v0 9) (w32 ((w32 (3 * v2)) + 1)))) ((d_up (d_up M v0 13 v4) v0 14 ((d_up M v0 13 v4) ((d_up M v0 13 v4) v0 9) (w32 ((w32 (3 * v2)) + 1)))) v0 10) (w32 (3 * v3)))) v0 16 ((d_up (d_up (d_up M v0 13 v4) v0 14 ((d_up M v0 13 v4) ((d_up M v0 13 v4) v0 9) (w32 ((w32 (3 * v2)) + 1)))) v0 15 ((d_up (d_up M v0 13 v4) v0 14 ((d_up M v0 13 v4) ((d_up M v0 13 v4) v0 9) (w32 ((w32 (3 * v2)) + 1)))) ((d_up (d_up M v0 13 v4) v0 14 ((d_up M v0 13 v4) ((d_up M v0 13 v4) v0 9) (w32 ((w32 (3 * v2)) + 1)))) v0 10) (w32 (3 * v3)))) v0 8)) ((d_up (d_up (d_up (d_up M v0 13 v4) v0 14 ((d_up M v0 13 v4) ((d_up M v0 13 v4) v0 9) (w32 ((w32 (3 * v2)) + 1)))) v0 15 ((d_up (d_up M v0 13 v4) v0 14 ((d_up M v0 13 v4) ((d_up M v0 13 v4) v0 9) (w32 ((w32 (3 * v2)) + 1)))) ((d_up (d_up M v0 13 v4) v0 14 ((d_up M v0 13 v4) ((d_up M v0 13 v4) v0 9) (w32 ((w32 (3 * v2)) + 1)))) v0 10) (w32 (3 * v3)))) v0 16 ((d_up (d_up (d_up M v0 13 v4) v0 14 ((d_up M v0 13 v4) ((d_up M v0 13 v4) v0 9) (w32 ((w32 (3 * v2)) + 1)))) v0 15 ((d_up (d_up M v0 13 v4) v0 14 ((d_up M v0 13 v4) ((d_up M v0 13 v4) v0 9) (w32 ((w32 (3 * v2)) + 1)))) ((d_up (d_up M v0 13 v4) v0 14 ((d_up M v0 13 v4) ((d_up M v0 13 v4) v0 9) (w32 ((w32 (3 * v2)) + 1)))) v0 10) (w32 (3 * v3)))) v0 8)) v0 9) (w32 (3 * v2)))) v0 7) ∧ ((d_up (d_up (d_up (d_up (d_up M v0 13 v4) v0 14 ((d_up M v0 13 v4) ((d_up M v0 13 v4) v0 9) (w32 ((w32 (3 * v2)) + 1)))) v0 15 ((d_up (d_up M v0 13 v4) v0 14 ((d_up M v0 13 v4) ((d_up M v0 13 v4) v0 9) (w32 ((w32 (3 * v2)) + 1)))) ((d_up (d_up M v0 13 v4) v0 14 ((d_up M v0 13 v4) ((d_up M v0 13 v4) v0 9) (w32 ((w32 (3 * v2)) + 1)))) v0 10) (w32 (3 * v3)))) v0 16 ((d_up (d_up (d_up M v0 13 v4) v0 14 ((d_up M v0 13 v4) ((d_up M v0 13 v4) v0 9) (w32 ((w32 (3 * v2)) + 1)))) v0 15 ((d_up (d_up M v0 13 v4) v0 14 ((d_up M v0 13 v4) ((d_up M v0 13 v4) v0 9) (w32 ((w32 (3 * v2)) + 1)))) ((d_up (d_up M v0 13 v4) v0 14 ((d_up M v0 13 v4) ((d_up M v0 13 v4) v0 9) (w32 ((w32 (3 * v2)) + 1)))) v0 10) (w32 (3 * v3)))) v0 8)) v0 17 ((d_up (d_up (d_up (d_up M v0 13 v4) v0 14 ((d_up M v0 13 v4) ((d_up M v0 13 v4) v0 9) (w32 ((w32 (3 * v2)) + 1)))) v0 15 ((d_up (d_up M v0 13 v4) v0 14 ((d_up M v0 13 v4) ((d_up M v0 13 v4) v0 9) (w32 ((w32 (3 * v2)) + 1)))) ((d_up (d_up M v0 13 v4) v0 14 ((d_up M v0 13 v4) ((d_up M v0 13 v4) v0 9) (w32 ((w32 (3 * v2)) + 1)))) v0 10) (w32 (3 * v3)))) v0 16 ((d_up (d_up (d_up M v0 13 v4) v0 14 ((d_up M v0 13 v4) ((d_up M v0 13 v4) v0 9) (w32 ((w32 (3 * v2)) + 1)))) v0 15 ((d_up (d_up M v0 13 v4) v0 14 ((d_up M v0 13 v4) ((d_up M v0 13 v4) v0 9) (w32 ((w32 (3 * v2)) + 1)))) ((d_up (d_up M v0 13 v4) v0 14 ((d_up M v0 13 v4) ((d_up M v0 13 v4) v0 9) (w32 ((w32 (3 * v2)) + 1)))) v0 10) (w32 (3 * v3)))) v0 8)) ((d_up (d_up (d_up (d_up M v0 13 v4) v0 14 ((d_up M v0 13 v4) ((d_up M v0 13 v4) v0 9) (w32 ((w32 (3 * v2)) + 1)))) v0 15 ((d_up (d_up M v0 13 v4) v0 14 ((d_up M v0 13 v4) ((d_up M v0 13 v4) v0 9) (w32 ((w32 (3 * v2)) + 1)))) ((d_up (d_up M v0 13 v4) v0 14 ((d_up M v0 13 v4) ((d_up M v0 13 v4) v0 9) (w32 ((w32 (3 * v2)) + 1)))) v0 10) (w32 (3 * v3)))) v0 16 ((d_up (d_up (d_up M v0 13 v4) v0 14 ((d_up M v0 13 v4) ((d_up M v0 13 v4) v0 9) (w32 ((w32 (3 * v2)) + 1)))) v0 15 ((d_up (d_up M v0 13 v4) v0 14 ((d_up M v0 13 v4) ((d_up M v0 13 v4) v0 9) (w32 ((w32 (3 * v2)) + 1)))) ((d_up (d_up M v0 13 v4) v0 14 ((d_up M v0 13 v4) ((d_up M v0 13 v4) v0 9) (w32 ((w32 (3 * v2)) + 1)))) v0 10) (w32 (3 * v3)))) v0 8)) v0 9) (w32 (3 * v2)))) v0 7) < 2147483648 then (if og K 7 v0 4 = true then (if rg K 7 v0 = true then (vc sc d 142 [(2, v0), (0, (d_up (d_up (d_up (d_up (d_up (d_up M v0 13 v4) v0 14 ((d_up M v0 13 v4) ((d_up M v0 13 v4) v0 9) (w32 ((w32 (3 * v2)) + 1)))) v0 15 ((d_up (d_up M v0 13 v4) v0 14 ((d_up M v0 13 v4) ((d_up M v0 13 v4) v0 9) (w32 ((w32 (3 * v2)) + 1)))) ((d_up (d_up M v0 13 v4) v0 14 ((d_up M v0 13 v4) ((d_up M v0 13 v4) v0 9) (w32 ((w32 (3 * v2)) + 1)))) v0 10) (w32 (3 * v3)))) v0 16 ((d_up (d_up (d_up M v0 13 v4) v0 14 ((d_up M v0 13 v4) ((d_up M v0 13 v4) v0 9) (w32 ((w32 (3 * v2)) + 1)))) v0 15 ((d_up (d_up M v0 13 v4) v0 14 ((d_up M v0 13 v4) ((d_up M v0 13 v4) v0 9) (w32 ((w32 (3 * v2)) + 1)))) ((d_up (d_up M v0 13 v4) v0 14 ((d_up M v0 13 v4) ((d_up M v0 13 v4) v0 9) (w32 ((w32 (3 * v2)) + 1)))) v0 10) (w32 (3 * v3)))) v0 8)) v0 17 ((d_up (d_up (d_up (d_up M v0 13 v4) v0 14 ((d_up M v0 13 v4) ((d_up M v0 13 v4) v0 9) (w32 ((w32 (3 * v2)) + 1)))) v0 15 ((d_up (d_up M v0 13 v4) v0 14 ((d_up M v0 13 v4) ((d_up M v0 13 v4) v0 9) (w32 ((w32 (3 * v2)) + 1)))) ((d_up (d_up M v0 13 v4) v0 14 ((d_up M v0 13 v4) ((d_up M v0 13 v4) v0 9) (w32 ((w32 (3 * v2)) + 1)))) v0 10) (w32 (3 * v3)))) v0 16 ((d_up (d_up (d_up M v0 13 v4) v0 14 ((d_up M v0 13 v4) ((d_up M v0 13 v4) v0 9) (w32 ((w32 (3 * v2)) + 1)))) v0 15 ((d_up (d_up M v0 13 v4) v0 14 ((d_up M v0 13 v4) ((d_up M v0 13 v4) v0 9) (w32 ((w32 (3 * v2)) + 1)))) ((d_up (d_up M v0 13 v4) v0 14 ((d_up M v0 13 v4) ((d_up M v0 13 v4) v0 9) (w32 ((w32 (3 * v2)) + 1)))) v0 10) (w32 (3 * v3)))) v0 8)) ((d_up (d_up (d_up (d_up M v0 13 v4) v0 14 ((d_up M v0 13 v4) ((d_up M v0 13 v4) v0 9) (w32 ((w32 (3 * v2)) + 1)))) v0 15 ((d_up (d_up M v0 13 v4) v0 14 ((d_up M v0 13 v4) ((d_up M v0 13 v4) v0 9) (w32 ((w32 (3 * v2)) + 1)))) ((d_up (d_up M v0 13 v4) v0 14 ((d_up M v0 13 v4) ((d_up M v0 13 v4) v0 9) (w32 ((w32 (3 * v2)) + 1)))) v0 10) (w32 (3 * v3)))) v0 16 ((d_up (d_up (d_up M v0 13 v4) v0 14 ((d_up M v0 13 v4) ((d_up M v0 13 v4) v0 9) (w32 ((w32 (3 * v2)) + 1)))) v0 15 ((d_up (d_up M v0 13 v4) v0 14 ((d_up M v0 13 v4) ((d_up M v0 13 v4) v0 9) (w32 ((w32 (3 * v2)) + 1)))) ((d_up (d_up M v0 13 v4) v0 14 ((d_up M v0 13 v4) ((d_up M v0 13 v4) v0 9) (w32 ((w32 (3 * v2)) + 1)))) v0 10) (w32 (3 * v3)))) v0 8)) v0 9) (w32 (3 * v2)))) v0 18 ((d_up (d_up (d_up (d_up (d_up M v0 13 v4) v0 14 ((d_up M v0 13 v4) ((d_up M v0 13 v4) v0 9) (w32 ((w32 (3 * v2)) + 1)))) v0 15 ((d_up (d_up M v0 13 v4) v0 14 ((d_up M v0 13 v4) ((d_up M v0 13 v4) v0 9) (w32 ((w32 (3 * v2)) + 1)))) ((d_up (d_up M v0 13 v4) v0 14 ((d_up M v0 13 v4) ((d_up M v0 13 v4) v0 9) (w32 ((w32 (3 * v2)) + 1)))) v0 10) (w32 (3 * v3)))) v0 16 ((d_up (d_up (d_up M v0 13 v4) v0 14 ((d_up M v0 13 v4) ((d_up M v0 13 v4) v0 9) (w32 ((w32 (3 * v2)) + 1)))) v0 15 ((d_up (d_up M v0 13 v4) v0 14 ((d_up M v0 13 v4) ((d_up M v0 13 v4) v0 9) (w32 ((w32 (3 * v2)) + 1)))) ((d_up (d_up M v0 13 v4) v0 14 ((d_up M v0 13 v4) ((d_up M v0 13 v4) v0 9) (w32 ((w32 (3 * v2)) + 1)))) v0 10) (w32 (3 * v3)))) v0 8)) v0 17 ((d_up (d_up (d_up (d_up M v0 13 v4) v0 14 ((d_up M v0 13 v4) ((d_up M v0 13 v4) v0 9) (w32 ((w32 (3 * v2)) + 1)))) v0 15 ((d_up (d_up M v0 13 v4) v0 14 ((d_up M v0 13 v4) ((d_up M v0 13 v4) v0 9) (w32 ((w32 (3 * v2)) + 1)))) ((d_up (d_up M v0 13 v4) v0 14 ((d_up M v0 13 v4) ((d_up M v0 13 v4) v0 9) (w32 ((w32 (3 * v2)) + 1)))) v0 10) (w32 (3 * v3)))) v0 16 ((d_up (d_up (d_up M v0 13 v4) v0 14 ((d_up M v0 13 v4) ((d_up M v0 13 v4) v0 9) (w32 ((w32 (3 * v2)) + 1)))) v0 15 ((d_up (d_up M v0 13 v4) v0 14 ((d_up M v0 13 v4) ((d_up M v0 13 v4) v0 9) (w32 ((w32 (3 * v2)) + 1)))) ((d_up (d_up M v0 13 v4) v0 14 ((d_up M v0 13 v4) ((d_up M v0 13 v4) v0 9) (w32 ((w32 (3 * v2)) + 1)))) v0 10) (w32 (3 * v3)))) v0 8)) ((d_up (d_up (d_up (d_up M v0 13 v4) v0 14 ((d_up M v0 13 v4) ((d_up M v0 13 v4) v0 9) (w32 ((w32 (3 * v2)) + 1)))) v0 15 ((d_up (d_up M v0 13 v4) v0 14 ((d_up M v0 13 v4) ((d_up M v0 13 v4) v0 9) (w32 ((w32 (3 * v2)) + 1)))) ((d_up (d_up M v0 13 v4) v0 14 ((d_up M v0 13 v4) ((d_up M v0 13 v4) v0 9) (w32 ((w32 (3 * v2)) + 1)))) v0 10) (w32 (3 * v3)))) v0 16 ((d_up (d_up (d_up M v0 13 v4) v0 14 ((d_up M v0 13 v4) ((d_up M v0 13 v4) v0 9) (w32 ((w32 (3 * v2)) + 1)))) v0 15 ((d_up (d_up M v0 13 v4) v0 14 ((d_up M v0 13 v4) ((d_up M v0 13 v4) v0 9) (w32 ((w32 (3 * v2)) + 1)))) ((d_up (d_up M v0 13 v4) v0 14 ((d_up M v0 13 v4) ((d_up M v0 13 v4) v0 9) (w32 ((w32 (3 * v2)) + 1)))) v0 10) (w32 (3 * v3)))) v0 8)) v0 9) (w32 (3 * v2)))) v0 7)) v0 4), (0, v1)] (K, d_up (d_up (d_up (d_up (d_up (d_up M v0 13 v4) v0 14 ((d_up M v0 13 v4) ((d_up M v0 13 v4) v0 9) (w32 ((w32 (3 * v2)) + 1)))) v0 15 ((d_up (d_up M v0 13 v4) v0 14 ((d_up M v0 13 v4) ((d_up M v0 13 v4) v0 9) (w32 ((w32 (3 * v2)) + 1)))) ((d_up (d_up M v0 13 v4) v0 14 ((d_up M v0 13 v4) ((d_up M v0 13 v4) v0 9) (w32 ((w32 (3 * v2)) + 1)))) v0 10) (w32 (3 * v3)))) v0 16 ((d_up (d_up (d_up M v0 13 v4) v0 14 ((d_up M v0 13 v4) ((d_up M v0 13 v4) v0 9) (w32 ((w32 (3 * v2)) + 1)))) v0 15 ((d_up (d_up M v0 13 v4) v0 14 ((d_up M v0 13 v4) ((d_up M v0 13 v4) v0 9) (w32 ((w32 (3 * v2)) + 1)))) ((d_up (d_up M v0 13 v4) v0 14 ((d_up M v0 13 v4) ((d_up M v0 13 v4) v0 9) (w32 ((w32 (3 * v2)) + 1)))) v0 10) (w32 (3 * v3)))) v0 8)) v0 17 ((d_up (d_up (d_up (d_up M v0 13 v4) v0 14 ((d_up M v0 13 v4) ((d_up M v0 13 v4) v0 9) (w32 ((w32 (3 * v2)) + 1)))) v0 15 ((d_up (d_up M v0 13 v4) v0 14 ((d_up M v0 13 v4) ((d_up M v0 13 v4) v0 9) (w32 ((w32 (3 * v2)) + 1)))) ((d_up (d_up M v0 13 v4) v0 14 ((d_up M v0 13 v4) ((d_up M v0 13 v4) v0 9) (w32 ((w32 (3 * v2)) + 1)))) v0 10) (w32 (3 * v3)))) v0 16 ((d_up (d_up (d_up M v0 13 v4) v0 14 ((d_up M v0 13 v4) ((d_up M v0 13 v4) v0 9) (w32 ((w32 (3 * v2)) + 1)))) v0 15 ((d_up (d_up M v0 13 v4) v0 14 ((d_up M v0 13 v4) ((d_up M v0 13 v4) v0 9) (w32 ((w32 (3 * v2)) + 1)))) ((d_up (d_up M v0 13 v4) v0 14 ((d_up M v0 13 v4) ((d_up M v0 13 v4) v0 9) (w32 ((w32 (3 * v2)) + 1)))) v0 10) (w32 (3 * v3)))) v0 8)) ((d_up (d_up (d_up (d_up M v0 13 v4) v0 14 ((d_up M v0 13 v4) ((d_up M v0 13 v4) v0 9) (w32 ((w32 (3 * v2)) + 1)))) v0 15 ((d_up (d_up M v0 13 v4) v0 14 ((d_up M v0 13 v4) ((d_up M v0 13 v4) v0 9) (w32 ((w32 (3 * v2)) + 1)))) ((d_up (d_up M v0 13 v4) v0 14 ((d_up M v0 13 v4) ((d_up M v0 13 v4) v0 9) (w32 ((w32 (3 * v2)) + 1)))) v0 10) (w32 (3 * v3)))) v0 16 ((d_up (d_up (d_up M v0 13 v4) v0 14 ((d_up M v0 13 v4) ((d_up M v0 13 v4) v0 9) (w32 ((w32 (3 * v2)) + 1)))) v0 15 ((d_up (d_up M v0 13 v4) v0 14 ((d_up M v0 13 v4) ((d_up M v0 13 v4) v0 9) (w32 ((w32 (3 * v2)) + 1)))) ((d_up (d_up M v0 13 v4) v0 14 ((d_up M v0 13 v4) ((d_up M v0 13 v4) v0 9) (w32 ((w32 (3 * v2)) + 1)))) v0 10) (w32 (3 * v3)))) v0 8)) v0 9) (w32 (3 * v2)))) v0 18 ((d_up (d_up (d_up (d_up (d_up M v0 13 v4) v0 14 ((d_up M v0 13 v4) ((d_up M v0 13 v4) v0 9) (w32 ((w32 (3 * v2)) + 1)))) v0 15 ((d_up (d_up M v0 13 v4) v0 14 ((d_up M v0 13 v4) ((d_up M v0 13 v4) v0 9) (w32 ((w32 (3 * v2)) + 1)))) ((d_up (d_up M v0 13 v4) v0 14 ((d_up M v0 13 v4) ((d_up M v0 13 v4) v0 9) (w32 ((w32 (3 * v2)) + 1)))) v0 10) (w32 (3 * v3)))) v0 16 ((d_up (d_up (d_up M v0 13 v4) v0 14 ((d_up M v0 13 v4) ((d_up M v0 13 v4) v0 9) (w32 ((w32 (3 * v2)) + 1)))) v0 15 ((d_up (d_up M v0 13 v4) v0 14 ((d_up M v0 13 v4) ((d_up M v0 13 v4) v0 9) (w32 ((w32 (3 * v2)) + 1)))) ((d_up (d_up M v0 13 v4) v0 14 ((d_up M v0 13 v4) ((d_up M v0 13 v4) v0 9) (w32 ((w32 (3 * v2)) + 1)))) v0 10) (w32 (3 * v3)))) v0 8)) v0 17 ((d_up (d_up (d_up (d_up M v0 13 v4) v0 14 ((d_up M v0 13 v4) ((d_up M v0 13 v4) v0 9) (w32 ((w32 (3 * v2)) + 1)))) v0 15 ((d_up (d_up M v0 13 v4) v0 14 ((d_up M v0 13 v4) ((d_up M v0 13 v4) v0 9) (w32 ((w32 (3 * v2)) + 1)))) ((d_up (d_up M v0 13 v4) v0 14 ((d_up M v0 13 v4) ((d_up M v0 13 v4) v0 9) (w32 ((w32 (3 * v2)) + 1)))) v0 10) (w32 (3 * v3)))) v0 16 ((d_up (d_up (d_up M v0 13 v4) v0 14 ((d_up M v0 13 v4) ((d_up M v0 13 v4) v0 9) (w32 ((w32 (3 * v2)) + 1)))) v0 15 ((d_up (d_up M v0 13 v4) v0 14 ((d_up M v0 13 v4) ((d_up M v0 13 v4) v0 9) (w32 ((w32 (3 * v2)) + 1)))) ((d_up (d_up M v0 13 v4) v0 14 ((d_up M v0 13 v4) ((d_up M v0 13 v4) v0 9) (w32 ((w32 (3 * v2)) + 1)))) v0 10) (w32 (3 * v3)))) v0 8)) ((d_up (d_up (d_up (d_up M v0 13 v4) v0 14 ((d_up M v0 13 v4) ((d_up M v0 13 v4) v0 9) (w32 ((w32 (3 * v2)) + 1)))) v0 15 ((d_up (d_up M v0 13 v4) v0 14 ((d_up M v0 13 v4) ((d_up M v0 13 v4) v0 9) (w32 ((w32 (3 * v2)) + 1)))) ((d_up (d_up M v0 13 v4) v0 14 ((d_up M v0 13 v4) ((d_up M v0 13 v4) v0 9) (w32 ((w32 (3 * v2)) + 1)))) v0 10) (w32 (3 * v3)))) v0 16 ((d_up (d_up (d_up M v0 13 v4) v0 14 ((d_up M v0 13 v4) ((d_up M v0 13 v4) v0 9) (w32 ((w32 (3 * v2)) + 1)))) v0 15 ((d_up (d_up M v0 13 v4) v0 14 ((d_up M v0 13 v4) ((d_up M v0 13 v4) v0 9) (w32 ((w32 (3 * v2)) + 1)))) ((d_up (d_up M v0 13 v4) v0 14 ((d_up M v0 13 v4) ((d_up M v0 13 v4) v0 9) (w32 ((w32 (3 * v2)) + 1)))) v0 10) (w32 (3 * v3)))) v0 8)) v0 9) (w32 (3 * v2)))) v0 7))).bind (fun r => vr sc d c_X7_says (78, [(2, v0), (0, v1), (0, v2), (0, v3), (0, v4)], r.1 ++ [], r.2)) else none) else none) else none) else none) else none) else none) else none) else none) else none) else none) else none) else none) else none) else none) else none) else none) else (if og K 7 v0 15 = true then (if -2147483648 ≤ 0 ∧ 0 < 2147483648 then (if og K 7 v0 8 = true then (if og K 7 v0 16 = true then (if -2147483648 ≤ ((d_up (d_up (d_up M v0 13 v4) v0 14 ((d_up M v0 13 v4) ((d_up M v0 13 v4) v0 9) (w32 ((w32 (3 * v2)) + 1)))) v0 15 0) v0 8) ∧ ((d_up (d_up (d_up M v0 13 v4) v0 14 ((d_up M v0 13 v4) ((d_up M v0 13 v4) v0 9) (w32 ((w32 (3 * v2)) + 1)))) v0 15 0) v0 8) < 2147483648 then (if og K 7 v0 9 = true then (if ag K 8 ((d_up (d_up (d_up (d_up M v0 13 v4) v0 14 ((d_up M v0 13 v4) ((d_up M v0 13 v4) v0 9) (w32 ((w32 (3 * v2)) + 1)))) v0 15 0) v0 16 ((d_up (d_up (d_up M v0 13 v4) v0 14 ((d_up M v0 13 v4) ((d_up M v0 13 v4) v0 9) (w32 ((w32 (3 * v2)) + 1)))) v0 15 0) v0 8)) v0 9) (w32 (3 * v2)) = true then (if og K 7 v0 17 = true then (if -2147483648 ≤ ((d_up (d_up (d_up (d_up M v0 13 v4) v0 14 ((d_up M v0 13 v4) ((d_up M v0 13 v4) v0 9) (w32 ((w32 (3 * v2)) + 1)))) v0 15 0) v0 16 ((d_up (d_up (d_up M v0 13 v4) v0 14 ((d_up M v0 13 v4) ((d_up M v0 13 v4) v0 9) (w32 ((w32 (3 * v2)) + 1)))) v0 15 0) v0 8)) ((d_up (d_up (d_up (d_up M v0 13 v4) v0 14 ((d_up M v0 13 v4) ((d_up M v0 13 v4) v0 9) (w32 ((w32 (3 * v2)) + 1)))) v0 15 0) v0 16 ((d_up (d_up (d_up M v0 13 v4) v0 14 ((d_up M v0 13 v4) ((d_up M v0 13 v4) v0 9) (w32 ((w32 (3 * v2)) + 1)))) v0 15 0) v0 8)) v0 9) (w32 (3 * v2))) ∧ ((d_up (d_up (d_up (d_up M v0 13 v4) v0 14 ((d_up M v0 13 v4) ((d_up M v0 13 v4) v0 9) (w32 ((w32 (3 * v2)) + 1)))) v0 15 0) v0 16 ((d_up (d_up (d_up M v0 13 v4) v0 14 ((d_up M v0 13 v4) ((d_up M v0 13 v4) v0 9) (w32 ((w32 (3 * v2)) + 1)))) v0 15 0) v0 8)) ((d_up (d_up (d_up (d_up M v0 13 v4) v0 14 ((d_up M v0 13 v4) ((d_up M v0 13 v4) v0 9) (w32 ((w32 (3 * v2)) + 1)))) v0 15 0) v0 16 ((d_up (d_up (d_up M v0 13 v4) v0 14 ((d_up M v0 13 v4) ((d_up M v0 13 v4) v0 9) (w32 ((w32 (3 * v2)) + 1)))) v0 15 0) v0 8)) v0 9) (w32 (3 * v2))) < 2147483648 then (if og K 7 v0 7 = true then (if og K 7 v0 18 = true then (if -2147483648 ≤ ((d_up (d_up (d_up (d_up (d_up M v0 13 v4) v0 14 ((d_up M v0 13 v4) ((d_up M v0 13 v4) v0 9) (w32 ((w32 (3 * v2)) + 1)))) v0 15 0) v0 16 ((d_up (d_up (d_up M v0 13 v4) v0 14 ((d_up M v0 13 v4) ((d_up M v0 13 v4) v0 9) (w32 ((w32 (3 * v2)) + 1)))) v0 15 0) v0 8)) v0 17 ((d_up (d_up (d_up (d_up M v0 13 v4) v0 14 ((d_up M v0 13 v4) ((d_up M v0 13 v4) v0 9) (w32 ((w32 (3 * v2)) + 1)))) v0 15 0) v0 16 ((d_up (d_up (d_up M v0 13 v4) v0 14 ((d_up M v0 13 v4) ((d_up M v0 13 v4) v0 9) (w32 ((w32 (3 * v2)) + 1)))) v0 15 0) v0 8)) ((d_up (d_up (d_up (d_up M v0 13 v4) v0 14 ((d_up M v0 13 v4) ((d_up M v0 13 v4) v0 9) (w32 ((w32 (3 * v2)) + 1)))) v0 15 0) v0 16 ((d_up (d_up (d_up M v0 13 v4) v0 14 ((d_up M v0 13 v4) ((d_up M v0 13 v4) v0 9) (w32 ((w32 (3 * v2)) + 1)))) v0 15 0) v0 8)) v0 9) (w32 (3 * v2)))) v0 7) ∧ ((d_up (d_up (d_up (d_up (d_up M v0 13 v4) v0 14 ((d_up M v0 13 v4) ((d_up M v0 13 v4) v0 9) (w32 ((w32 (3 * v2)) + 1)))) v0 15 0) v0 16 ((d_up (d_up (d_up M v0 13 v4) v0 14 ((d_up M v0 13 v4) ((d_up M v0 13 v4) v0 9) (w32 ((w32 (3 * v2)) + 1)))) v0 15 0) v0 8)) v0 17 ((d_up (d_up (d_up (d_up M v0 13 v4) v0 14 ((d_up M v0 13 v4) ((d_up M v0 13 v4) v0 9) (w32 ((w32 (3 * v2)) + 1)))) v0 15 0) v0 16 ((d_up (d_up (d_up M v0 13 v4) v0 14 ((d_up M v0 13 v4) ((d_up M v0 13 v4) v0 9) (w32 ((w32 (3 * v2)) + 1)))) v0 15 0) v0 8)) ((d_up (d_up (d_up (d_up M v0 13 v4) v0 14 ((d_up M v0 13 v4) ((d_up M v0 13 v4) v0 9) (w32 ((w32 (3 * v2)) + 1)))) v0 15 0) v0 16 ((d_up (d_up (d_up M v0 13 v4) v0 14 ((d_up M v0 13 v4) ((d_up M v0 13 v4) v0 9) (w32 ((w32 (3 * v2)) + 1)))) v0 15 0) v0 8)) v0 9) (w32 (3 * v2)))) v0 7) < 2147483648 then (if og K 7 v0 4 = true then (if rg K 7 v0 = true then (vc sc d 142 [(2, v0), (0, (d_up (d_up (d_up (d_up (d_up (d_up M v0 13 v4) v0 14 ((d_up M v0 13 v4) ((d_up M v0 13 v4) v0 9) (w32 ((w32 (3 * v2)) + 1)))) v0 15 0) v0 16 ((d_up (d_up (d_up M v0 13 v4) v0 14 ((d_up M v0 13 v4) ((d_up M v0 13 v4) v0 9) (w32 ((w32 (3 * v2)) + 1)))) v0 15 0) v0 8)) v0 17 ((d_up (d_up (d_up (d_up M v0 13 v4) v0 14 ((d_up M v0 13 v4) ((d_up M v0 13 v4) v0 9) (w32 ((w32 (3 * v2)) + 1)))) v0 15 0) v0 16 ((d_up (d_up (d_up M v0 13 v4) v0 14 ((d_up M v0 13 v4) ((d_up M v0 13 v4) v0 9) (w32 ((w32 (3 * v2)) + 1)))) v0 15 0) v0 8)) ((d_up (d_up (d_up (d_up M v0 13 v4) v0 14 ((d_up M v0 13 v4) ((d_up M v0 13 v4) v0 9) (w32 ((w32 (3 * v2)) + 1)))) v0 15 0) v0 16 ((d_up (d_up (d_up M v0 13 v4) v0 14 ((d_up M v0 13 v4) ((d_up M v0 13 v4) v0 9) (w32 ((w32 (3 * v2)) + 1)))) v0 15 0) v0 8)) v0 9) (w32 (3 * v2)))) v0 18 ((d_up (d_up (d_up (d_up (d_up M v0 13 v4) v0 14 ((d_up M v0 13 v4) ((d_up M v0 13 v4) v0 9) (w32 ((w32 (3 * v2)) + 1)))) v0 15 0) v0 16 ((d_up (d_up (d_up M v0 13 v4) v0 14 ((d_up M v0 13 v4) ((d_up M v0 13 v4) v0 9) (w32 ((w32 (3 * v2)) + 1)))) v0 15 0) v0 8)) v0 17 ((d_up (d_up (d_up (d_up M v0 13 v4) v0 14 ((d_up M v0 13 v4) ((d_up M v0 13 v4) v0 9) (w32 ((w32 (3 * v2)) + 1)))) v0 15 0) v0 16 ((d_up (d_up (d_up M v0 13 v4) v0 14 ((d_up M v0 13 v4) ((d_up M v0 13 v4) v0 9) (w32 ((w32 (3 * v2)) + 1)))) v0 15 0) v0 8)) ((d_up (d_up (d_up (d_up M v0 13 v4) v0 14 ((d_up M v0 13 v4) ((d_up M v0 13 v4) v0 9) (w32 ((w32 (3 * v2)) + 1)))) v0 15 0) v0 16 ((d_up (d_up (d_up M v0 13 v4) v0 14 ((d_up M v0 13 v4) ((d_up M v0 13 v4) v0 9) (w32 ((w32 (3 * v2)) + 1)))) v0 15 0) v0 8)) v0 9) (w32 (3 * v2)))) v0 7)) v0 4), (0, v1)] (K, d_up (d_up (d_up (d_up (d_up (d_up M v0 13 v4) v0 14 ((d_up M v0 13 v4) ((d_up M v0 13 v4) v0 9) (w32 ((w32 (3 * v2)) + 1)))) v0 15 0) v0 16 ((d_up (d_up (d_up M v0 13 v4) v0 14 ((d_up M v0 13 v4) ((d_up M v0 13 v4) v0 9) (w32 ((w32 (3 * v2)) + 1)))) v0 15 0) v0 8)) v0 17 ((d_up (d_up (d_up (d_up M v0 13 v4) v0 14 ((d_up M v0 13 v4) ((d_up M v0 13 v4) v0 9) (w32 ((w32 (3 * v2)) + 1)))) v0 15 0) v0 16 ((d_up (d_up (d_up M v0 13 v4) v0 14 ((d_up M v0 13 v4) ((d_up M v0 13 v4) v0 9) (w32 ((w32 (3 * v2)) + 1)))) v0 15 0) v0 8)) ((d_up (d_up (d_up (d_up M v0 13 v4) v0 14 ((d_up M v0 13 v4) ((d_up M v0 13 v4) v0 9) (w32 ((w32 (3 * v2)) + 1)))) v0 15 0) v0 16 ((d_up (d_up (d_up M v0 13 v4) v0 14 ((d_up M v0 13 v4) ((d_up M v0 13 v4) v0 9) (w32 ((w32 (3 * v2)) + 1)))) v0 15 0) v0 8)) v0 9) (w32 (3 * v2)))) v0 18 ((d_up (d_up (d_up (d_up (d_up M v0 13 v4) v0 14 ((d_up M v0 13 v4) ((d_up M v0 13 v4) v0 9) (w32 ((w32 (3 * v2)) + 1)))) v0 15 0) v0 16 ((d_up (d_up (d_up M v0 13 v4) v0 14 ((d_up M v0 13 v4) ((d_up M v0 13 v4) v0 9) (w32 ((w32 (3 * v2)) + 1)))) v0 15 0) v0 8)) v0 17 ((d_up (d_up (d_up (d_up M v0 13 v4) v0 14 ((d_up M v0 13 v4) ((d_up M v0 13 v4) v0 9) (w32 ((w32 (3 * v2)) + 1)))) v0 15 0) v0 16 ((d_up (d_up (d_up M v0 13 v4) v0 14 ((d_up M v0 13 v4) ((d_up M v0 13 v4) v0 9) (w32 ((w32 (3 * v2)) + 1)))) v0 15 0) v0 8)) ((d_up (d_up (d_up (d_up M v0 13 v4) v0 14 ((d_up M v0 13 v4) ((d_up M v0 13 v4) v0 9) (w32 ((w32 (3 * v2)) + 1)))) v0 15 0) v0 16 ((d_up (d_up (d_up M v0 13 v4) v0 14 ((d_up M v0 13 v4) ((d_up M v0 13 v4) v0 9) (w32 ((w32 (3 * v2)) + 1)))) v0 15 0) v0 8)) v0 9) (w32 (3 * v2)))) v0 7))).bind (fun r => vr sc d c_X7_says (78, [(2, v0), (0, v1), (0, v2), (0, v3), (0, v4)], r.1 ++ [], r.2)) else none) else none) else none) else none) else none) else none) else none) else none) else none) else none) else none) else none) else none) else none)) else none) else none) else none) else none) else none) else none) := by
  refine (vr_steps 2 (x' := (3, [(2, v0), (0, v1), (0, v2), (0, v3), (0, v4)], [(0, v4), (2, v0)], (K, M))) rfl).trans ?_
  refine (v_putf (a := 7) (b := 13) (t := 0) rfl rfl (by intro q; cases q)).trans ?_
  refine g_congr (fun _ => ?_)
  refine p_congr (fun _ => ?_)
  refine (vr_steps 2 (x' := (8, [(2, v0), (0, v1), (0, v2), (0, v3), (0, v4)], [(2, v0), (2, v0)], (K, d_up M v0 13 v4))) rfl).trans ?_
  refine (v_getf (a := 7) (b := 9) (t := 2) rfl rfl).trans ?_
  refine g_congr (fun _ => ?_)
  refine (vr_steps 5 (x' := (16, [(2, v0), (0, v1), (0, v2), (0, v3), (0, v4)], [(0, w32 ((w32 (3 * v2)) + 1)), (2, (d_up M v0 13 v4) v0 9), (2, v0)], (K, d_up M v0 13 v4))) rfl).trans ?_
  refine (v_ald (a := 8) rfl (by decide)).trans ?_
  refine g_congr (fun _ => ?_)
  refine (v_putf (a := 7) (b := 14) (t := 0) rfl rfl (by intro q; cases q)).trans ?_
  refine g_congr (fun _ => ?_)
  refine p_congr (fun _ => ?_)
  refine (vr_steps 3 (x' := (23, [(2, v0), (0, v1), (0, v2), (0, v3), (0, v4)], [(0, (-1)), (0, v3), (2, v0)], (K, d_up (d_up M v0 13 v4) v0 14 ((d_up M v0 13 v4) ((d_up M v0 13 v4) v0 9) (w32 ((w32 (3 * v2)) + 1)))))) rfl).trans ?_
  refine (v_icmp (k := 1) (b := 30) (c := ¬ v3 = (-1)) rfl rfl).trans ?_
  refine c_congr (fun _ => ?_) (fun _ => ?_)
  · refine (vr_steps 1 (x' := (31, [(2, v0), (0, v1), (0, v2), (0, v3), (0, v4)], [(2, v0), (2, v0)], (K, d_up (d_up M v0 13 v4) v0 14 ((d_up M v0 13 v4) ((d_up M v0 13 v4) v0 9) (w32 ((w32 (3 * v2)) + 1)))))) rfl).trans ?_
    refine (v_getf (a := 7) (b := 10) (t := 2) rfl rfl).trans ?_
    refine g_congr (fun _ => ?_)
    refine (vr_steps 3 (x' := (37, [(2, v0), (0, v1), (0, v2), (0, v3), (0, v4)], [(0, w32 (3 * v3)), (2, (d_up (d_up M v0 13 v4) v0 14 ((d_up M v0 13 v4) ((d_up M v0 13 v4) v0 9) (w32 ((w32 (3 * v2)) + 1)))) v0 10), (2, v0)], (K, d_up (d_up M v0 13 v4) v0 14 ((d_up M v0 13 v4) ((d_up M v0 13 v4) v0 9) (w32 ((w32 (3 * v2)) + 1)))))) rfl).trans ?_
    refine (v_ald (a := 8) rfl (by decide)).trans ?_
    refine g_congr (fun _ => ?_)
    refine (v_putf (a := 7) (b := 15) (t := 0) rfl rfl (by intro q; cases q)).trans ?_
    refine g_congr (fun _ => ?_)
    refine p_congr (fun _ => ?_)
    refine (vr_steps 2 (x' := (43, [(2, v0), (0, v1), (0, v2), (0, v3), (0, v4)], [(2, v0), (2, v0)], (K, d_up (d_up (d_up M v0 13 v4) v0 14 ((d_up M v0 13 v4) ((d_up M v0 13 v4) v0 9) (w32 ((w32 (3 * v2)) + 1)))) v0 15 ((d_up (d_up M v0 13 v4) v0 14 ((d_up M v0 13 v4) ((d_up M v0 13 v4) v0 9) (w32 ((w32 (3 * v2)) + 1)))) ((d_up (d_up M v0 13 v4) v0 14 ((d_up M v0 13 v4) ((d_up M v0 13 v4) v0 9) (w32 ((w32 (3 * v2)) + 1)))) v0 10) (w32 (3 * v3)))))) rfl).trans ?_
    refine (v_getf (a := 7) (b := 8) (t := 0) rfl rfl).trans ?_
    refine g_congr (fun _ => ?_)
    refine (v_putf (a := 7) (b := 16) (t := 0) rfl rfl (by intro q; cases q)).trans ?_
    refine g_congr (fun _ => ?_)
    refine p_congr (fun _ => ?_)
    refine (vr_steps 2 (x' := (51, [(2, v0), (0, v1), (0, v2), (0, v3), (0, v4)], [(2, v0), (2, v0)], (K, d_up (d_up (d_up (d_up M v0 13 v4) v0 14 ((d_up M v0 13 v4) ((d_up M v0 13 v4) v0 9) (w32 ((w32 (3 * v2)) + 1)))) v0 15 ((d_up (d_up M v0 13 v4) v0 14 ((d_up M v0 13 v4) ((d_up M v0 13 v4) v0 9) (w32 ((w32 (3 * v2)) + 1)))) ((d_up (d_up M v0 13 v4) v0 14 ((d_up M v0 13 v4) ((d_up M v0 13 v4) v0 9) (w32 ((w32 (3 * v2)) + 1)))) v0 10) (w32 (3 * v3)))) v0 16 ((d_up (d_up (d_up M v0 13 v4) v0 14 ((d_up M v0 13 v4) ((d_up M v0 13 v4) v0 9) (w32 ((w32 (3 * v2)) + 1)))) v0 15 ((d_up (d_up M v0 13 v4) v0 14 ((d_up M v0 13 v4) ((d_up M v0 13 v4) v0 9) (w32 ((w32 (3 * v2)) + 1)))) ((d_up (d_up M v0 13 v4) v0 14 ((d_up M v0 13 v4) ((d_up M v0 13 v4) v0 9) (w32 ((w32 (3 * v2)) + 1)))) v0 10) (w32 (3 * v3)))) v0 8)))) rfl).trans ?_
    refine (v_getf (a := 7) (b := 9) (t := 2) rfl rfl).trans ?_
    refine g_congr (fun _ => ?_)
    refine (vr_steps 3 (x' := (57, [(2, v0), (0, v1), (0, v2), (0, v3), (0, v4)], [(0, w32 (3 * v2)), (2, (d_up (d_up (d_up (d_up M v0 13 v4) v0 14 ((d_up M v0 13 v4) ((d_up M v0 13 v4) v0 9) (w32 ((w32 (3 * v2)) + 1)))) v0 15 ((d_up (d_up M v0 13 v4) v0 14 ((d_up M v0 13 v4) ((d_up M v0 13 v4) v0 9) (w32 ((w32 (3 * v2)) + 1)))) ((d_up (d_up M v0 13 v4) v0 14 ((d_up M v0 13 v4) ((d_up M v0 13 v4) v0 9) (w32 ((w32 (3 * v2)) + 1)))) v0 10) (w32 (3 * v3)))) v0 16 ((d_up (d_up (d_up M v0 13 v4) v0 14 ((d_up M v0 13 v4) ((d_up M v0 13 v4) v0 9) (w32 ((w32 (3 * v2)) + 1)))) v0 15 ((d_up (d_up M v0 13 v4) v0 14 ((d_up M v0 13 v4) ((d_up M v0 13 v4) v0 9) (w32 ((w32 (3 * v2)) + 1)))) ((d_up (d_up M v0 13 v4) v0 14 ((d_up M v0 13 v4) ((d_up M v0 13 v4) v0 9) (w32 ((w32 (3 * v2)) + 1)))) v0 10) (w32 (3 * v3)))) v0 8)) v0 9), (2, v0)], (K, d_up (d_up (d_up (d_up M v0 13 v4) v0 14 ((d_up M v0 13 v4) ((d_up M v0 13 v4) v0 9) (w32 ((w32 (3 * v2)) + 1)))) v0 15 ((d_up (d_up M v0 13 v4) v0 14 ((d_up M v0 13 v4) ((d_up M v0 13 v4) v0 9) (w32 ((w32 (3 * v2)) + 1)))) ((d_up (d_up M v0 13 v4) v0 14 ((d_up M v0 13 v4) ((d_up M v0 13 v4) v0 9) (w32 ((w32 (3 * v2)) + 1)))) v0 10) (w32 (3 * v3)))) v0 16 ((d_up (d_up (d_up M v0 13 v4) v0 14 ((d_up M v0 13 v4) ((d_up M v0 13 v4) v0 9) (w32 ((w32 (3 * v2)) + 1)))) v0 15 ((d_up (d_up M v0 13 v4) v0 14 ((d_up M v0 13 v4) ((d_up M v0 13 v4) v0 9) (w32 ((w32 (3 * v2)) + 1)))) ((d_up (d_up M v0 13 v4) v0 14 ((d_up M v0 13 v4) ((d_up M v0 13 v4) v0 9) (w32 ((w32 (3 * v2)) + 1)))) v0 10) (w32 (3 * v3)))) v0 8)))) rfl).trans ?_
    refine (v_ald (a := 8) rfl (by decide)).trans ?_
    refine g_congr (fun _ => ?_)
    refine (v_putf (a := 7) (b := 17) (t := 0) rfl rfl (by intro q; cases q)).trans ?_
    refine g_congr (fun _ => ?_)
    refine p_congr (fun _ => ?_)
    refine (vr_steps 2 (x' := (63, [(2, v0), (0, v1), (0, v2), (0, v3), (0, v4)], [(2, v0), (2, v0)], (K, d_up (d_up (d_up (d_up (d_up M v0 13 v4) v0 14 ((d_up M v0 13 v4) ((d_up M v0 13 v4) v0 9) (w32 ((w32 (3 * v2)) + 1)))) v0 15 ((d_up (d_up M v0 13 v4) v0 14 ((d_up M v0 13 v4) ((d_up M v0 13 v4) v0 9) (w32 ((w32 (3 * v2)) + 1)))) ((d_up (d_up M v0 13 v4) v0 14 ((d_up M v0 13 v4) ((d_up M v0 13 v4) v0 9) (w32 ((w32 (3 * v2)) + 1)))) v0 10) (w32 (3 * v3)))) v0 16 ((d_up (d_up (d_up M v0 13 v4) v0 14 ((d_up M v0 13 v4) ((d_up M v0 13 v4) v0 9) (w32 ((w32 (3 * v2)) + 1)))) v0 15 ((d_up (d_up M v0 13 v4) v0 14 ((d_up M v0 13 v4) ((d_up M v0 13 v4) v0 9) (w32 ((w32 (3 * v2)) + 1)))) ((d_up (d_up M v0 13 v4) v0 14 ((d_up M v0 13 v4) ((d_up M v0 13 v4) v0 9) (w32 ((w32 (3 * v2)) + 1)))) v0 10) (w32 (3 * v3)))) v0 8)) v0 17 ((d_up (d_up (d_up (d_up M v0 13 v4) v0 14 ((d_up M v0 13 v4) ((d_up M v0 13 v4) v0 9) (w32 ((w32 (3 * v2)) + 1)))) v0 15 ((d_up (d_up M v0 13 v4) v0 14 ((d_up M v0 13 v4) ((d_up M v0 13 v4) v0 9) (w32 ((w32 (3 * v2)) + 1)))) ((d_up (d_up M v0 13 v4) v0 14 ((d_up M v0 13 v4) ((d_up M v0 13 v4) v0 9) (w32 ((w32 (3 * v2)) + 1)))) v0 10) (w32 (3 * v3)))) v0 16 ((d_up (d_up (d_up M v0 13 v4) v0 14 ((d_up M v0 13 v4) ((d_up M v0 13 v4) v0 9) (w32 ((w32 (3 * v2)) + 1)))) v0 15 ((d_up (d_up M v0 13 v4) v0 14 ((d_up M v0 13 v4) ((d_up M v0 13 v4) v0 9) (w32 ((w32 (3 * v2)) + 1)))) ((d_up (d_up M v0 13 v4) v0 14 ((d_up M v0 13 v4) ((d_up M v0 13 v4) v0 9) (w32 ((w32 (3 * v2)) + 1)))) v0 10) (w32 (3 * v3)))) v0 8)) ((d_up (d_up (d_up (d_up M v0 13 v4) v0 14 ((d_up M v0 13 v4) ((d_up M v0 13 v4) v0 9) (w32 ((w32 (3 * v2)) + 1)))) v0 15 ((d_up (d_up M v0 13 v4) v0 14 ((d_up M v0 13 v4) ((d_up M v0 13 v4) v0 9) (w32 ((w32 (3 * v2)) + 1)))) ((d_up (d_up M v0 13 v4) v0 14 ((d_up M v0 13 v4) ((d_up M v0 13 v4) v0 9) (w32 ((w32 (3 * v2)) + 1)))) v0 10) (w32 (3 * v3)))) v0 16 ((d_up (d_up (d_up M v0 13 v4) v0 14 ((d_up M v0 13 v4) ((d_up M v0 13 v4) v0 9) (w32 ((w32 (3 * v2)) + 1)))) v0 15 ((d_up (d_up M v0 13 v4) v0 14 ((d_up M v0 13 v4) ((d_up M v0 13 v4) v0 9) (w32 ((w32 (3 * v2)) + 1)))) ((d_up (d_up M v0 13 v4) v0 14 ((d_up M v0 13 v4) ((d_up M v0 13 v4) v0 9) (w32 ((w32 (3 * v2)) + 1)))) v0 10) (w32 (3 * v3)))) v0 8)) v0 9) (w32 (3 * v2)))))) rfl).trans ?_
    refine (v_getf (a := 7) (b := 7) (t := 0) rfl rfl).trans ?_
    refine g_congr (fun _ => ?_)
    refine (v_putf (a := 7) (b := 18) (t := 0) rfl rfl (by intro q; cases q)).trans ?_
    refine g_congr (fun _ => ?_)
    refine p_congr (fun _ => ?_)
    refine (vr_steps 2 (x' := (71, [(2, v0), (0, v1), (0, v2), (0, v3), (0, v4)], [(2, v0), (2, v0)], (K, d_up (d_up (d_up (d_up (d_up (d_up M v0 13 v4) v0 14 ((d_up M v0 13 v4) ((d_up M v0 13 v4) v0 9) (w32 ((w32 (3 * v2)) + 1)))) v0 15 ((d_up (d_up M v0 13 v4) v0 14 ((d_up M v0 13 v4) ((d_up M v0 13 v4) v0 9) (w32 ((w32 (3 * v2)) + 1)))) ((d_up (d_up M v0 13 v4) v0 14 ((d_up M v0 13 v4) ((d_up M v0 13 v4) v0 9) (w32 ((w32 (3 * v2)) + 1)))) v0 10) (w32 (3 * v3)))) v0 16 ((d_up (d_up (d_up M v0 13 v4) v0 14 ((d_up M v0 13 v4) ((d_up M v0 13 v4) v0 9) (w32 ((w32 (3 * v2)) + 1)))) v0 15 ((d_up (d_up M v0 13 v4) v0 14 ((d_up M v0 13 v4) ((d_up M v0 13 v4) v0 9) (w32 ((w32 (3 * v2)) + 1)))) ((d_up (d_up M v0 13 v4) v0 14 ((d_up M v0 13 v4) ((d_up M v0 13 v4) v0 9) (w32 ((w32 (3 * v2)) + 1)))) v0 10) (w32 (3 * v3)))) v0 8)) v0 17 ((d_up (d_up (d_up (d_up M v0 13 v4) v0 14 ((d_up M v0 13 v4) ((d_up M v0 13 v4) v0 9) (w32 ((w32 (3 * v2)) + 1)))) v0 15 ((d_up (d_up M v0 13 v4) v0 14 ((d_up M v0 13 v4) ((d_up M v0 13 v4) v0 9) (w32 ((w32 (3 * v2)) + 1)))) ((d_up (d_up M v0 13 v4) v0 14 ((d_up M v0 13 v4) ((d_up M v0 13 v4) v0 9) (w32 ((w32 (3 * v2)) + 1)))) v0 10) (w32 (3 * v3)))) v0 16 ((d_up (d_up (d_up M v0 13 v4) v0 14 ((d_up M v0 13 v4) ((d_up M v0 13 v4) v0 9) (w32 ((w32 (3 * v2)) + 1)))) v0 15 ((d_up (d_up M v0 13 v4) v0 14 ((d_up M v0 13 v4) ((d_up M v0 13 v4) v0 9) (w32 ((w32 (3 * v2)) + 1)))) ((d_up (d_up M v0 13 v4) v0 14 ((d_up M v0 13 v4) ((d_up M v0 13 v4) v0 9) (w32 ((w32 (3 * v2)) + 1)))) v0 10) (w32 (3 * v3)))) v0 8)) ((d_up (d_up (d_up (d_up M v0 13 v4) v0 14 ((d_up M v0 13 v4) ((d_up M v0 13 v4) v0 9) (w32 ((w32 (3 * v2)) + 1)))) v0 15 ((d_up (d_up M v0 13 v4) v0 14 ((d_up M v0 13 v4) ((d_up M v0 13 v4) v0 9) (w32 ((w32 (3 * v2)) + 1)))) ((d_up (d_up M v0 13 v4) v0 14 ((d_up M v0 13 v4) ((d_up M v0 13 v4) v0 9) (w32 ((w32 (3 * v2)) + 1)))) v0 10) (w32 (3 * v3)))) v0 16 ((d_up (d_up (d_up M v0 13 v4) v0 14 ((d_up M v0 13 v4) ((d_up M v0 13 v4) v0 9) (w32 ((w32 (3 * v2)) + 1)))) v0 15 ((d_up (d_up M v0 13 v4) v0 14 ((d_up M v0 13 v4) ((d_up M v0 13 v4) v0 9) (w32 ((w32 (3 * v2)) + 1)))) ((d_up (d_up M v0 13 v4) v0 14 ((d_up M v0 13 v4) ((d_up M v0 13 v4) v0 9) (w32 ((w32 (3 * v2)) + 1)))) v0 10) (w32 (3 * v3)))) v0 8)) v0 9) (w32 (3 * v2)))) v0 18 ((d_up (d_up (d_up (d_up (d_up M v0 13 v4) v0 14 ((d_up M v0 13 v4) ((d_up M v0 13 v4) v0 9) (w32 ((w32 (3 * v2)) + 1)))) v0 15 ((d_up (d_up M v0 13 v4) v0 14 ((d_up M v0 13 v4) ((d_up M v0 13 v4) v0 9) (w32 ((w32 (3 * v2)) + 1)))) ((d_up (d_up M v0 13 v4) v0 14 ((d_up M v0 13 v4) ((d_up M v0 13 v4) v0 9) (w32 ((w32 (3 * v2)) + 1)))) v0 10) (w32 (3 * v3)))) v0 16 ((d_up (d_up (d_up M v0 13 v4) v0 14 ((d_up M v0 13 v4) ((d_up M v0 13 v4) v0 9) (w32 ((w32 (3 * v2)) + 1)))) v0 15 ((d_up (d_up M v0 13 v4) v0 14 ((d_up M v0 13 v4) ((d_up M v0 13 v4) v0 9) (w32 ((w32 (3 * v2)) + 1)))) ((d_up (d_up M v0 13 v4) v0 14 ((d_up M v0 13 v4) ((d_up M v0 13 v4) v0 9) (w32 ((w32 (3 * v2)) + 1)))) v0 10) (w32 (3 * v3)))) v0 8)) v0 17 ((d_up (d_up (d_up (d_up M v0 13 v4) v0 14 ((d_up M v0 13 v4) ((d_up M v0 13 v4) v0 9) (w32 ((w32 (3 * v2)) + 1)))) v0 15 ((d_up (d_up M v0 13 v4) v0 14 ((d_up M v0 13 v4) ((d_up M v0 13 v4) v0 9) (w32 ((w32 (3 * v2)) + 1)))) ((d_up (d_up M v0 13 v4) v0 14 ((d_up M v0 13 v4) ((d_up M v0 13 v4) v0 9) (w32 ((w32 (3 * v2)) + 1)))) v0 10) (w32 (3 * v3)))) v0 16 ((d_up (d_up (d_up M v0 13 v4) v0 14 ((d_up M v0 13 v4) ((d_up M v0 13 v4) v0 9) (w32 ((w32 (3 * v2)) + 1)))) v0 15 ((d_up (d_up M v0 13 v4) v0 14 ((d_up M v0 13 v4) ((d_up M v0 13 v4) v0 9) (w32 ((w32 (3 * v2)) + 1)))) ((d_up (d_up M v0 13 v4) v0 14 ((d_up M v0 13 v4) ((d_up M v0 13 v4) v0 9) (w32 ((w32 (3 * v2)) + 1)))) v0 10) (w32 (3 * v3)))) v0 8)) ((d_up (d_up (d_up (d_up M v0 13 v4) v0 14 ((d_up M v0 13 v4) ((d_up M v0 13 v4) v0 9) (w32 ((w32 (3 * v2)) + 1)))) v0 15 ((d_up (d_up M v0 13 v4) v0 14 ((d_up M v0 13 v4) ((d_up M v0 13 v4) v0 9) (w32 ((w32 (3 * v2)) + 1)))) ((d_up (d_up M v0 13 v4) v0 14 ((d_up M v0 13 v4) ((d_up M v0 13 v4) v0 9) (w32 ((w32 (3 * v2)) + 1)))) v0 10) (w32 (3 * v3)))) v0 16 ((d_up (d_up (d_up M v0 13 v4) v0 14 ((d_up M v0 13 v4) ((d_up M v0 13 v4) v0 9) (w32 ((w32 (3 * v2)) + 1)))) v0 15 ((d_up (d_up M v0 13 v4) v0 14 ((d_up M v0 13 v4) ((d_up M v0 13 v4) v0 9) (w32 ((w32 (3 * v2)) + 1)))) ((d_up (d_up M v0 13 v4) v0 14 ((d_up M v0 13 v4) ((d_up M v0 13 v4) v0 9) (w32 ((w32 (3 * v2)) + 1)))) v0 10) (w32 (3 * v3)))) v0 8)) v0 9) (w32 (3 * v2)))) v0 7)))) rfl).trans ?_
    refine (v_getf (a := 7) (b := 4) (t := 0) rfl rfl).trans ?_
    refine g_congr (fun _ => ?_)
    refine (vr_steps 1 (x' := (75, [(2, v0), (0, v1), (0, v2), (0, v3), (0, v4)], [(0, v1), (0, (d_up (d_up (d_up (d_up (d_up (d_up M v0 13 v4) v0 14 ((d_up M v0 13 v4) ((d_up M v0 13 v4) v0 9) (w32 ((w32 (3 * v2)) + 1)))) v0 15 ((d_up (d_up M v0 13 v4) v0 14 ((d_up M v0 13 v4) ((d_up M v0 13 v4) v0 9) (w32 ((w32 (3 * v2)) + 1)))) ((d_up (d_up M v0 13 v4) v0 14 ((d_up M v0 13 v4) ((d_up M v0 13 v4) v0 9) (w32 ((w32 (3 * v2)) + 1)))) v0 10) (w32 (3 * v3)))) v0 16 ((d_up (d_up (d_up M v0 13 v4) v0 14 ((d_up M v0 13 v4) ((d_up M v0 13 v4) v0 9) (w32 ((w32 (3 * v2)) + 1)))) v0 15 ((d_up (d_up M v0 13 v4) v0 14 ((d_up M v0 13 v4) ((d_up M v0 13 v4) v0 9) (w32 ((w32 (3 * v2)) + 1)))) ((d_up (d_up M v0 13 v4) v0 14 ((d_up M v0 13 v4) ((d_up M v0 13 v4) v0 9) (w32 ((w32 (3 * v2)) + 1)))) v0 10) (w32 (3 * v3)))) v0 8)) v0 17 ((d_up (d_up (d_up (d_up M v0 13 v4) v0 14 ((d_up M v0 13 v4) ((d_up M v0 13 v4) v0 9) (w32 ((w32 (3 * v2)) + 1)))) v0 15 ((d_up (d_up M v0 13 v4) v0 14 ((d_up M v0 13 v4) ((d_up M v0 13 v4) v0 9) (w32 ((w32 (3 * v2)) + 1)))) ((d_up (d_up M v0 13 v4) v0 14 ((d_up M v0 13 v4) ((d_up M v0 13 v4) v0 9) (w32 ((w32 (3 * v2)) + 1)))) v0 10) (w32 (3 * v3)))) v0 16 ((d_up (d_up (d_up M v0 13 v4) v0 14 ((d_up M v0 13 v4) ((d_up M v0 13 v4) v0 9) (w32 ((w32 (3 * v2)) + 1)))) v0 15 ((d_up (d_up M v0 13 v4) v0 14 ((d_up M v0 13 v4) ((d_up M v0 13 v4) v0 9) (w32 ((w32 (3 * v2)) + 1)))) ((d_up (d_up M v0 13 v4) v0 14 ((d_up M v0 13 v4) ((d_up M v0 13 v4) v0 9) (w32 ((w32 (3 * v2)) + 1)))) v0 10) (w32 (3 * v3)))) v0 8)) ((d_up (d_up (d_up (d_up M v0 13 v4) v0 14 ((d_up M v0 13 v4) ((d_up M v0 13 v4) v0 9) (w32 ((w32 (3 * v2)) + 1)))) v0 15 ((d_up (d_up M v0 13 v4) v0 14 ((d_up M v0 13 v4) ((d_up M v0 13 v4) v0 9) (w32 ((w32 (3 * v2)) + 1)))) ((d_up (d_up M v0 13 v4) v0 14 ((d_up M v0 13 v4) ((d_up M v0 13 v4) v0 9) (w32 ((w32 (3 * v2)) + 1)))) v0 10) (w32 (3 * v3)))) v0 16 ((d_up (d_up (d_up M v0 13 v4) v0 14 ((d_up M v0 13 v4) ((d_up M v0 13 v4) v0 9) (w32 ((w32 (3 * v2)) + 1)))) v0 15 ((d_up (d_up M v0 13 v4) v0 14 ((d_up M v0 13 v4) ((d_up M v0 13 v4) v0 9) (w32 ((w32 (3 * v2)) + 1)))) ((d_up (d_up M v0 13 v4) v0 14 ((d_up M v0 13 v4) ((d_up M v0 13 v4) v0 9) (w32 ((w32 (3 * v2)) + 1)))) v0 10) (w32 (3 * v3)))) v0 8)) v0 9) (w32 (3 * v2)))) v0 18 ((d_up (d_up (d_up (d_up (d_up M v0 13 v4) v0 14 ((d_up M v0 13 v4) ((d_up M v0 13 v4) v0 9) (w32 ((w32 (3 * v2)) + 1)))) v0 15 ((d_up (d_up M v0 13 v4) v0 14 ((d_up M v0 13 v4) ((d_up M v0 13 v4) v0 9) (w32 ((w32 (3 * v2)) + 1)))) ((d_up (d_up M v0 13 v4) v0 14 ((d_up M v0 13 v4) ((d_up M v0 13 v4) v0 9) (w32 ((w32 (3 * v2)) + 1)))) v0 10) (w32 (3 * v3)))) v0 16 ((d_up (d_up (d_up M v0 13 v4) v0 14 ((d_up M v0 13 v4) ((d_up M v0 13 v4) v0 9) (w32 ((w32 (3 * v2)) + 1)))) v0 15 ((d_up (d_up M v0 13 v4) v0 14 ((d_up M v0 13 v4) ((d_up M v0 13 v4) v0 9) (w32 ((w32 (3 * v2)) + 1)))) ((d_up (d_up M v0 13 v4) v0 14 ((d_up M v0 13 v4) ((d_up M v0 13 v4) v0 9) (w32 ((w32 (3 * v2)) + 1)))) v0 10) (w32 (3 * v3)))) v0 8)) v0 17 ((d_up (d_up (d_up (d_up M v0 13 v4) v0 14 ((d_up M v0 13 v4) ((d_up M v0 13 v4) v0 9) (w32 ((w32 (3 * v2)) + 1)))) v0 15 ((d_up (d_up M v0 13 v4) v0 14 ((d_up M v0 13 v4) ((d_up M v0 13 v4) v0 9) (w32 ((w32 (3 * v2)) + 1)))) ((d_up (d_up M v0 13 v4) v0 14 ((d_up M v0 13 v4) ((d_up M v0 13 v4) v0 9) (w32 ((w32 (3 * v2)) + 1)))) v0 10) (w32 (3 * v3)))) v0 16 ((d_up (d_up (d_up M v0 13 v4) v0 14 ((d_up M v0 13 v4) ((d_up M v0 13 v4) v0 9) (w32 ((w32 (3 * v2)) + 1)))) v0 15 ((d_up (d_up M v0 13 v4) v0 14 ((d_up M v0 13 v4) ((d_up M v0 13 v4) v0 9) (w32 ((w32 (3 * v2)) + 1)))) ((d_up (d_up M v0 13 v4) v0 14 ((d_up M v0 13 v4) ((d_up M v0 13 v4) v0 9) (w32 ((w32 (3 * v2)) + 1)))) v0 10) (w32 (3 * v3)))) v0 8)) ((d_up (d_up (d_up (d_up M v0 13 v4) v0 14 ((d_up M v0 13 v4) ((d_up M v0 13 v4) v0 9) (w32 ((w32 (3 * v2)) + 1)))) v0 15 ((d_up (d_up M v0 13 v4) v0 14 ((d_up M v0 13 v4) ((d_up M v0 13 v4) v0 9) (w32 ((w32 (3 * v2)) + 1)))) ((d_up (d_up M v0 13 v4) v0 14 ((d_up M v0 13 v4) ((d_up M v0 13 v4) v0 9) (w32 ((w32 (3 * v2)) + 1)))) v0 10) (w32 (3 * v3)))) v0 16 ((d_up (d_up (d_up M v0 13 v4) v0 14 ((d_up M v0 13 v4) ((d_up M v0 13 v4) v0 9) (w32 ((w32 (3 * v2)) + 1)))) v0 15 ((d_up (d_up M v0 13 v4) v0 14 ((d_up M v0 13 v4) ((d_up M v0 13 v4) v0 9) (w32 ((w32 (3 * v2)) + 1)))) ((d_up (d_up M v0 13 v4) v0 14 ((d_up M v0 13 v4) ((d_up M v0 13 v4) v0 9) (w32 ((w32 (3 * v2)) + 1)))) v0 10) (w32 (3 * v3)))) v0 8)) v0 9) (w32 (3 * v2)))) v0 7)) v0 4), (2, v0)], (K, d_up (d_up (d_up (d_up (d_up (d_up M v0 13 v4) v0 14 ((d_up M v0 13 v4) ((d_up M v0 13 v4) v0 9) (w32 ((w32 (3 * v2)) + 1)))) v0 15 ((d_up (d_up M v0 13 v4) v0 14 ((d_up M v0 13 v4) ((d_up M v0 13 v4) v0 9) (w32 ((w32 (3 * v2)) + 1)))) ((d_up (d_up M v0 13 v4) v0 14 ((d_up M v0 13 v4) ((d_up M v0 13 v4) v0 9) (w32 ((w32 (3 * v2)) + 1)))) v0 10) (w32 (3 * v3)))) v0 16 ((d_up (d_up (d_up M v0 13 v4) v0 14 ((d_up M v0 13 v4) ((d_up M v0 13 v4) v0 9) (w32 ((w32 (3 * v2)) + 1)))) v0 15 ((d_up (d_up M v0 13 v4) v0 14 ((d_up M v0 13 v4) ((d_up M v0 13 v4) v0 9) (w32 ((w32 (3 * v2)) + 1)))) ((d_up (d_up M v0 13 v4) v0 14 ((d_up M v0 13 v4) ((d_up M v0 13 v4) v0 9) (w32 ((w32 (3 * v2)) + 1)))) v0 10) (w32 (3 * v3)))) v0 8)) v0 17 ((d_up (d_up (d_up (d_up M v0 13 v4) v0 14 ((d_up M v0 13 v4) ((d_up M v0 13 v4) v0 9) (w32 ((w32 (3 * v2)) + 1)))) v0 15 ((d_up (d_up M v0 13 v4) v0 14 ((d_up M v0 13 v4) ((d_up M v0 13 v4) v0 9) (w32 ((w32 (3 * v2)) + 1)))) ((d_up (d_up M v0 13 v4) v0 14 ((d_up M v0 13 v4) ((d_up M v0 13 v4) v0 9) (w32 ((w32 (3 * v2)) + 1)))) v0 10) (w32 (3 * v3)))) v0 16 ((d_up (d_up (d_up M v0 13 v4) v0 14 ((d_up M v0 13 v4) ((d_up M v0 13 v4) v0 9) (w32 ((w32 (3 * v2)) + 1)))) v0 15 ((d_up (d_up M v0 13 v4) v0 14 ((d_up M v0 13 v4) ((d_up M v0 13 v4) v0 9) (w32 ((w32 (3 * v2)) + 1)))) ((d_up (d_up M v0 13 v4) v0 14 ((d_up M v0 13 v4) ((d_up M v0 13 v4) v0 9) (w32 ((w32 (3 * v2)) + 1)))) v0 10) (w32 (3 * v3)))) v0 8)) ((d_up (d_up (d_up (d_up M v0 13 v4) v0 14 ((d_up M v0 13 v4) ((d_up M v0 13 v4) v0 9) (w32 ((w32 (3 * v2)) + 1)))) v0 15 ((d_up (d_up M v0 13 v4) v0 14 ((d_up M v0 13 v4) ((d_up M v0 13 v4) v0 9) (w32 ((w32 (3 * v2)) + 1)))) ((d_up (d_up M v0 13 v4) v0 14 ((d_up M v0 13 v4) ((d_up M v0 13 v4) v0 9) (w32 ((w32 (3 * v2)) + 1)))) v0 10) (w32 (3 * v3)))) v0 16 ((d_up (d_up (d_up M v0 13 v4) v0 14 ((d_up M v0 13 v4) ((d_up M v0 13 v4) v0 9) (w32 ((w32 (3 * v2)) + 1)))) v0 15 ((d_up (d_up M v0 13 v4) v0 14 ((d_up M v0 13 v4) ((d_up M v0 13 v4) v0 9) (w32 ((w32 (3 * v2)) + 1)))) ((d_up (d_up M v0 13 v4) v0 14 ((d_up M v0 13 v4) ((d_up M v0 13 v4) v0 9) (w32 ((w32 (3 * v2)) + 1)))) v0 10) (w32 (3 * v3)))) v0 8)) v0 9) (w32 (3 * v2)))) v0 18 ((d_up (d_up (d_up (d_up (d_up M v0 13 v4) v0 14 ((d_up M v0 13 v4) ((d_up M v0 13 v4) v0 9) (w32 ((w32 (3 * v2)) + 1)))) v0 15 ((d_up (d_up M v0 13 v4) v0 14 ((d_up M v0 13 v4) ((d_up M v0 13 v4) v0 9) (w32 ((w32 (3 * v2)) + 1)))) ((d_up (d_up M v0 13 v4) v0 14 ((d_up M v0 13 v4) ((d_up M v0 13 v4) v0 9) (w32 ((w32 (3 * v2)) + 1)))) v0 10) (w32 (3 * v3)))) v0 16 ((d_up (d_up (d_up M v0 13 v4) v0 14 ((d_up M v0 13 v4) ((d_up M v0 13 v4) v0 9) (w32 ((w32 (3 * v2)) + 1)))) v0 15 ((d_up (d_up M v0 13 v4) v0 14 ((d_up M v0 13 v4) ((d_up M v0 13 v4) v0 9) (w32 ((w32 (3 * v2)) + 1)))) ((d_up (d_up M v0 13 v4) v0 14 ((d_up M v0 13 v4) ((d_up M v0 13 v4) v0 9) (w32 ((w32 (3 * v2)) + 1)))) v0 10) (w32 (3 * v3)))) v0 8)) v0 17 ((d_up (d_up (d_up (d_up M v0 13 v4) v0 14 ((d_up M v0 13 v4) ((d_up M v0 13 v4) v0 9) (w32 ((w32 (3 * v2)) + 1)))) v0 15 ((d_up (d_up M v0 13 v4) v0 14 ((d_up M v0 13 v4) ((d_up M v0 13 v4) v0 9) (w32 ((w32 (3 * v2)) + 1)))) ((d_up (d_up M v0 13 v4) v0 14 ((d_up M v0 13 v4) ((d_up M v0 13 v4) v0 9) (w32 ((w32 (3 * v2)) + 1)))) v0 10) (w32 (3 * v3)))) v0 16 ((d_up (d_up (d_up M v0 13 v4) v0 14 ((d_up M v0 13 v4) ((d_up M v0 13 v4) v0 9) (w32 ((w32 (3 * v2)) + 1)))) v0 15 ((d_up (d_up M v0 13 v4) v0 14 ((d_up M v0 13 v4) ((d_up M v0 13 v4) v0 9) (w32 ((w32 (3 * v2)) + 1)))) ((d_up (d_up M v0 13 v4) v0 14 ((d_up M v0 13 v4) ((d_up M v0 13 v4) v0 9) (w32 ((w32 (3 * v2)) + 1)))) v0 10) (w32 (3 * v3)))) v0 8)) ((d_up (d_up (d_up (d_up M v0 13 v4) v0 14 ((d_up M v0 13 v4) ((d_up M v0 13 v4) v0 9) (w32 ((w32 (3 * v2)) + 1)))) v0 15 ((d_up (d_up M v0 13 v4) v0 14 ((d_up M v0 13 v4) ((d_up M v0 13 v4) v0 9) (w32 ((w32 (3 * v2)) + 1)))) ((d_up (d_up M v0 13 v4) v0 14 ((d_up M v0 13 v4) ((d_up M v0 13 v4) v0 9) (w32 ((w32 (3 * v2)) + 1)))) v0 10) (w32 (3 * v3)))) v0 16 ((d_up (d_up (d_up M v0 13 v4) v0 14 ((d_up M v0 13 v4) ((d_up M v0 13 v4) v0 9) (w32 ((w32 (3 * v2)) + 1)))) v0 15 ((d_up (d_up M v0 13 v4) v0 14 ((d_up M v0 13 v4) ((d_up M v0 13 v4) v0 9) (w32 ((w32 (3 * v2)) + 1)))) ((d_up (d_up M v0 13 v4) v0 14 ((d_up M v0 13 v4) ((d_up M v0 13 v4) v0 9) (w32 ((w32 (3 * v2)) + 1)))) v0 10) (w32 (3 * v3)))) v0 8)) v0 9) (w32 (3 * v2)))) v0 7)))) rfl).trans ?_
    exact (v_virt (k := 142) (n := 3) (tag := 7) (r := v0) (av := [(0, (d_up (d_up (d_up (d_up (d_up (d_up M v0 13 v4) v0 14 ((d_up M v0 13 v4) ((d_up M v0 13 v4) v0 9) (w32 ((w32 (3 * v2)) + 1)))) v0 15 ((d_up (d_up M v0 13 v4) v0 14 ((d_up M v0 13 v4) ((d_up M v0 13 v4) v0 9) (w32 ((w32 (3 * v2)) + 1)))) ((d_up (d_up M v0 13 v4) v0 14 ((d_up M v0 13 v4) ((d_up M v0 13 v4) v0 9) (w32 ((w32 (3 * v2)) + 1)))) v0 10) (w32 (3 * v3)))) v0 16 ((d_up (d_up (d_up M v0 13 v4) v0 14 ((d_up M v0 13 v4) ((d_up M v0 13 v4) v0 9) (w32 ((w32 (3 * v2)) + 1)))) v0 15 ((d_up (d_up M v0 13 v4) v0 14 ((d_up M v0 13 v4) ((d_up M v0 13 v4) v0 9) (w32 ((w32 (3 * v2)) + 1)))) ((d_up (d_up M v0 13 v4) v0 14 ((d_up M v0 13 v4) ((d_up M v0 13 v4) v0 9) (w32 ((w32 (3 * v2)) + 1)))) v0 10) (w32 (3 * v3)))) v0 8)) v0 17 ((d_up (d_up (d_up (d_up M v0 13 v4) v0 14 ((d_up M v0 13 v4) ((d_up M v0 13 v4) v0 9) (w32 ((w32 (3 * v2)) + 1)))) v0 15 ((d_up (d_up M v0 13 v4) v0 14 ((d_up M v0 13 v4) ((d_up M v0 13 v4) v0 9) (w32 ((w32 (3 * v2)) + 1)))) ((d_up (d_up M v0 13 v4) v0 14 ((d_up M v0 13 v4) ((d_up M v0 13 v4) v0 9) (w32 ((w32 (3 * v2)) + 1)))) v0 10) (w32 (3 * v3)))) v0 16 ((d_up (d_up (d_up M v0 13 v4) v0 14 ((d_up M v0 13 v4) ((d_up M v0 13 v4) v0 9) (w32 ((w32 (3 * v2)) + 1)))) v0 15 ((d_up (d_up M v0 13 v4) v0 14 ((d_up M v0 13 v4) ((d_up M v0 13 v4) v0 9) (w32 ((w32 (3 * v2)) + 1)))) ((d_up (d_up M v0 13 v4) v0 14 ((d_up M v0 13 v4) ((d_up M v0 13 v4) v0 9) (w32 ((w32 (3 * v2)) + 1)))) v0 10) (w32 (3 * v3)))) v0 8)) ((d_up (d_up (d_up (d_up M v0 13 v4) v0 14 ((d_up M v0 13 v4) ((d_up M v0 13 v4) v0 9) (w32 ((w32 (3 * v2)) + 1)))) v0 15 ((d_up (d_up M v0 13 v4) v0 14 ((d_up M v0 13 v4) ((d_up M v0 13 v4) v0 9) (w32 ((w32 (3 * v2)) + 1)))) ((d_up (d_up M v0 13 v4) v0 14 ((d_up M v0 13 v4) ((d_up M v0 13 v4) v0 9) (w32 ((w32 (3 * v2)) + 1)))) v0 10) (w32 (3 * v3)))) v0 16 ((d_up (d_up (d_up M v0 13 v4) v0 14 ((d_up M v0 13 v4) ((d_up M v0 13 v4) v0 9) (w32 ((w32 (3 * v2)) + 1)))) v0 15 ((d_up (d_up M v0 13 v4) v0 14 ((d_up M v0 13 v4) ((d_up M v0 13 v4) v0 9) (w32 ((w32 (3 * v2)) + 1)))) ((d_up (d_up M v0 13 v4) v0 14 ((d_up M v0 13 v4) ((d_up M v0 13 v4) v0 9) (w32 ((w32 (3 * v2)) + 1)))) v0 10) (w32 (3 * v3)))) v0 8)) v0 9) (w32 (3 * v2)))) v0 18 ((d_up (d_up (d_up (d_up (d_up M v0 13 v4) v0 14 ((d_up M v0 13 v4) ((d_up M v0 13 v4) v0 9) (w32 ((w32 (3 * v2)) + 1)))) v0 15 ((d_up (d_up M v0 13 v4) v0 14 ((d_up M v0 13 v4) ((d_up M v0 13 v4) v0 9) (w32 ((w32 (3 * v2)) + 1)))) ((d_up (d_up M v0 13 v4) v0 14 ((d_up M v0 13 v4) ((d_up M v0 13 v4) v0 9) (w32 ((w32 (3 * v2)) + 1)))) v0 10) (w32 (3 * v3)))) v0 16 ((d_up (d_up (d_up M v0 13 v4) v0 14 ((d_up M v0 13 v4) ((d_up M v0 13 v4) v0 9) (w32 ((w32 (3 * v2)) + 1)))) v0 15 ((d_up (d_up M v0 13 v4) v0 14 ((d_up M v0 13 v4) ((d_up M v0 13 v4) v0 9) (w32 ((w32 (3 * v2)) + 1)))) ((d_up (d_up M v0 13 v4) v0 14 ((d_up M v0 13 v4) ((d_up M v0 13 v4) v0 9) (w32 ((w32 (3 * v2)) + 1)))) v0 10) (w32 (3 * v3)))) v0 8)) v0 17 ((d_up (d_up (d_up (d_up M v0 13 v4) v0 14 ((d_up M v0 13 v4) ((d_up M v0 13 v4) v0 9) (w32 ((w32 (3 * v2)) + 1)))) v0 15 ((d_up (d_up M v0 13 v4) v0 14 ((d_up M v0 13 v4) ((d_up M v0 13 v4) v0 9) (w32 ((w32 (3 * v2)) + 1)))) ((d_up (d_up M v0 13 v4) v0 14 ((d_up M v0 13 v4) ((d_up M v0 13 v4) v0 9) (w32 ((w32 (3 * v2)) + 1)))) v0 10) (w32 (3 * v3)))) v0 16 ((d_up (d_up (d_up M v0 13 v4) v0 14 ((d_up M v0 13 v4) ((d_up M v0 13 v4) v0 9) (w32 ((w32 (3 * v2)) + 1)))) v0 15 ((d_up (d_up M v0 13 v4) v0 14 ((d_up M v0 13 v4) ((d_up M v0 13 v4) v0 9) (w32 ((w32 (3 * v2)) + 1)))) ((d_up (d_up M v0 13 v4) v0 14 ((d_up M v0 13 v4) ((d_up M v0 13 v4) v0 9) (w32 ((w32 (3 * v2)) + 1)))) v0 10) (w32 (3 * v3)))) v0 8)) ((d_up (d_up (d_up (d_up M v0 13 v4) v0 14 ((d_up M v0 13 v4) ((d_up M v0 13 v4) v0 9) (w32 ((w32 (3 * v2)) + 1)))) v0 15 ((d_up (d_up M v0 13 v4) v0 14 ((d_up M v0 13 v4) ((d_up M v0 13 v4) v0 9) (w32 ((w32 (3 * v2)) + 1)))) ((d_up (d_up M v0 13 v4) v0 14 ((d_up M v0 13 v4) ((d_up M v0 13 v4) v0 9) (w32 ((w32 (3 * v2)) + 1)))) v0 10) (w32 (3 * v3)))) v0 16 ((d_up (d_up (d_up M v0 13 v4) v0 14 ((d_up M v0 13 v4) ((d_up M v0 13 v4) v0 9) (w32 ((w32 (3 * v2)) + 1)))) v0 15 ((d_up (d_up M v0 13 v4) v0 14 ((d_up M v0 13 v4) ((d_up M v0 13 v4) v0 9) (w32 ((w32 (3 * v2)) + 1)))) ((d_up (d_up M v0 13 v4) v0 14 ((d_up M v0 13 v4) ((d_up M v0 13 v4) v0 9) (w32 ((w32 (3 * v2)) + 1)))) v0 10) (w32 (3 * v3)))) v0 8)) v0 9) (w32 (3 * v2)))) v0 7)) v0 4), (0, v1)]) (code := c_X7_says) (pc := 75) (len := 3) (L := [(2, v0), (0, v1), (0, v2), (0, v3), (0, v4)]) (st := [(0, v1), (0, (d_up (d_up (d_up (d_up (d_up (d_up M v0 13 v4) v0 14 ((d_up M v0 13 v4) ((d_up M v0 13 v4) v0 9) (w32 ((w32 (3 * v2)) + 1)))) v0 15 ((d_up (d_up M v0 13 v4) v0 14 ((d_up M v0 13 v4) ((d_up M v0 13 v4) v0 9) (w32 ((w32 (3 * v2)) + 1)))) ((d_up (d_up M v0 13 v4) v0 14 ((d_up M v0 13 v4) ((d_up M v0 13 v4) v0 9) (w32 ((w32 (3 * v2)) + 1)))) v0 10) (w32 (3 * v3)))) v0 16 ((d_up (d_up (d_up M v0 13 v4) v0 14 ((d_up M v0 13 v4) ((d_up M v0 13 v4) v0 9) (w32 ((w32 (3 * v2)) + 1)))) v0 15 ((d_up (d_up M v0 13 v4) v0 14 ((d_up M v0 13 v4) ((d_up M v0 13 v4) v0 9) (w32 ((w32 (3 * v2)) + 1)))) ((d_up (d_up M v0 13 v4) v0 14 ((d_up M v0 13 v4) ((d_up M v0 13 v4) v0 9) (w32 ((w32 (3 * v2)) + 1)))) v0 10) (w32 (3 * v3)))) v0 8)) v0 17 ((d_up (d_up (d_up (d_up M v0 13 v4) v0 14 ((d_up M v0 13 v4) ((d_up M v0 13 v4) v0 9) (w32 ((w32 (3 * v2)) + 1)))) v0 15 ((d_up (d_up M v0 13 v4) v0 14 ((d_up M v0 13 v4) ((d_up M v0 13 v4) v0 9) (w32 ((w32 (3 * v2)) + 1)))) ((d_up (d_up M v0 13 v4) v0 14 ((d_up M v0 13 v4) ((d_up M v0 13 v4) v0 9) (w32 ((w32 (3 * v2)) + 1)))) v0 10) (w32 (3 * v3)))) v0 16 ((d_up (d_up (d_up M v0 13 v4) v0 14 ((d_up M v0 13 v4) ((d_up M v0 13 v4) v0 9) (w32 ((w32 (3 * v2)) + 1)))) v0 15 ((d_up (d_up M v0 13 v4) v0 14 ((d_up M v0 13 v4) ((d_up M v0 13 v4) v0 9) (w32 ((w32 (3 * v2)) + 1)))) ((d_up (d_up M v0 13 v4) v0 14 ((d_up M v0 13 v4) ((d_up M v0 13 v4) v0 9) (w32 ((w32 (3 * v2)) + 1)))) v0 10) (w32 (3 * v3)))) v0 8)) ((d_up (d_up (d_up (d_up M v0 13 v4) v0 14 ((d_up M v0 13 v4) ((d_up M v0 13 v4) v0 9) (w32 ((w32 (3 * v2)) + 1)))) v0 15 ((d_up (d_up M v0 13 v4) v0 14 ((d_up M v0 13 v4) ((d_up M v0 13 v4) v0 9) (w32 ((w32 (3 * v2)) + 1)))) ((d_up (d_up M v0 13 v4) v0 14 ((d_up M v0 13 v4) ((d_up M v0 13 v4) v0 9) (w32 ((w32 (3 * v2)) + 1)))) v0 10) (w32 (3 * v3)))) v0 16 ((d_up (d_up (d_up M v0 13 v4) v0 14 ((d_up M v0 13 v4) ((d_up M v0 13 v4) v0 9) (w32 ((w32 (3 * v2)) + 1)))) v0 15 ((d_up (d_up M v0 13 v4) v0 14 ((d_up M v0 13 v4) ((d_up M v0 13 v4) v0 9) (w32 ((w32 (3 * v2)) + 1)))) ((d_up (d_up M v0 13 v4) v0 14 ((d_up M v0 13 v4) ((d_up M v0 13 v4) v0 9) (w32 ((w32 (3 * v2)) + 1)))) v0 10) (w32 (3 * v3)))) v0 8)) v0 9) (w32 (3 * v2)))) v0 18 ((d_up (d_up (d_up (d_up (d_up M v0 13 v4) v0 14 ((d_up M v0 13 v4) ((d_up M v0 13 v4) v0 9) (w32 ((w32 (3 * v2)) + 1)))) v0 15 ((d_up (d_up M v0 13 v4) v0 14 ((d_up M v0 13 v4) ((d_up M v0 13 v4) v0 9) (w32 ((w32 (3 * v2)) + 1)))) ((d_up (d_up M v0 13 v4) v0 14 ((d_up M v0 13 v4) ((d_up M v0 13 v4) v0 9) (w32 ((w32 (3 * v2)) + 1)))) v0 10) (w32 (3 * v3)))) v0 16 ((d_up (d_up (d_up M v0 13 v4) v0 14 ((d_up M v0 13 v4) ((d_up M v0 13 v4) v0 9) (w32 ((w32 (3 * v2)) + 1)))) v0 15 ((d_up (d_up M v0 13 v4) v0 14 ((d_up M v0 13 v4) ((d_up M v0 13 v4) v0 9) (w32 ((w32 (3 * v2)) + 1)))) ((d_up (d_up M v0 13 v4) v0 14 ((d_up M v0 13 v4) ((d_up M v0 13 v4) v0 9) (w32 ((w32 (3 * v2)) + 1)))) v0 10) (w32 (3 * v3)))) v0 8)) v0 17 ((d_up (d_up (d_up (d_up M v0 13 v4) v0 14 ((d_up M v0 13 v4) ((d_up M v0 13 v4) v0 9) (w32 ((w32 (3 * v2)) + 1)))) v0 15 ((d_up (d_up M v0 13 v4) v0 14 ((d_up M v0 13 v4) ((d_up M v0 13 v4) v0 9) (w32 ((w32 (3 * v2)) + 1)))) ((d_up (d_up M v0 13 v4) v0 14 ((d_up M v0 13 v4) ((d_up M v0 13 v4) v0 9) (w32 ((w32 (3 * v2)) + 1)))) v0 10) (w32 (3 * v3)))) v0 16 ((d_up (d_up (d_up M v0 13 v4) v0 14 ((d_up M v0 13 v4) ((d_up M v0 13 v4) v0 9) (w32 ((w32 (3 * v2)) + 1)))) v0 15 ((d_up (d_up M v0 13 v4) v0 14 ((d_up M v0 13 v4) ((d_up M v0 13 v4) v0 9) (w32 ((w32 (3 * v2)) + 1)))) ((d_up (d_up M v0 13 v4) v0 14 ((d_up M v0 13 v4) ((d_up M v0 13 v4) v0 9) (w32 ((w32 (3 * v2)) + 1)))) v0 10) (w32 (3 * v3)))) v0 8)) ((d_up (d_up (d_up (d_up M v0 13 v4) v0 14 ((d_up M v0 13 v4) ((d_up M v0 13 v4) v0 9) (w32 ((w32 (3 * v2)) + 1)))) v0 15 ((d_up (d_up M v0 13 v4) v0 14 ((d_up M v0 13 v4) ((d_up M v0 13 v4) v0 9) (w32 ((w32 (3 * v2)) + 1)))) ((d_up (d_up M v0 13 v4) v0 14 ((d_up M v0 13 v4) ((d_up M v0 13 v4) v0 9) (w32 ((w32 (3 * v2)) + 1)))) v0 10) (w32 (3 * v3)))) v0 16 ((d_up (d_up (d_up M v0 13 v4) v0 14 ((d_up M v0 13 v4) ((d_up M v0 13 v4) v0 9) (w32 ((w32 (3 * v2)) + 1)))) v0 15 ((d_up (d_up M v0 13 v4) v0 14 ((d_up M v0 13 v4) ((d_up M v0 13 v4) v0 9) (w32 ((w32 (3 * v2)) + 1)))) ((d_up (d_up M v0 13 v4) v0 14 ((d_up M v0 13 v4) ((d_up M v0 13 v4) v0 9) (w32 ((w32 (3 * v2)) + 1)))) v0 10) (w32 (3 * v3)))) v0 8)) v0 9) (w32 (3 * v2)))) v0 7)) v0 4), (2, v0)]) rfl (Nat.le_of_ble_eq_true rfl) (Nat.le_of_ble_eq_true rfl) rfl).trans rfl
  · refine (vr_steps 2 (x' := (38, [(2, v0), (0, v1), (0, v2), (0, v3), (0, v4)], [(0, 0), (2, v0)], (K, d_up (d_up M v0 13 v4) v0 14 ((d_up M v0 13 v4) ((d_up M v0 13 v4) v0 9) (w32 ((w32 (3 * v2)) + 1)))))) rfl).trans ?_
    refine (v_putf (a := 7) (b := 15) (t := 0) rfl rfl (by intro q; cases q)).trans ?_
    refine g_congr (fun _ => ?_)
    refine p_congr (fun _ => ?_)
    refine (vr_steps 2 (x' := (43, [(2, v0), (0, v1), (0, v2), (0, v3), (0, v4)], [(2, v0), (2, v0)], (K, d_up (d_up (d_up M v0 13 v4) v0 14 ((d_up M v0 13 v4) ((d_up M v0 13 v4) v0 9) (w32 ((w32 (3 * v2)) + 1)))) v0 15 0))) rfl).trans ?_
    refine (v_getf (a := 7) (b := 8) (t := 0) rfl rfl).trans ?_
    refine g_congr (fun _ => ?_)
    refine (v_putf (a := 7) (b := 16) (t := 0) rfl rfl (by intro q; cases q)).trans ?_
    refine g_congr (fun _ => ?_)
    refine p_congr (fun _ => ?_)
    refine (vr_steps 2 (x' := (51, [(2, v0), (0, v1), (0, v2), (0, v3), (0, v4)], [(2, v0), (2, v0)], (K, d_up (d_up (d_up (d_up M v0 13 v4) v0 14 ((d_up M v0 13 v4) ((d_up M v0 13 v4) v0 9) (w32 ((w32 (3 * v2)) + 1)))) v0 15 0) v0 16 ((d_up (d_up (d_up M v0 13 v4) v0 14 ((d_up M v0 13 v4) ((d_up M v0 13 v4) v0 9) (w32 ((w32 (3 * v2)) + 1)))) v0 15 0) v0 8)))) rfl).trans ?_
    refine (v_getf (a := 7) (b := 9) (t := 2) rfl rfl).trans ?_
    refine g_congr (fun _ => ?_)
    refine (vr_steps 3 (x' := (57, [(2, v0), (0, v1), (0, v2), (0, v3), (0, v4)], [(0, w32 (3 * v2)), (2, (d_up (d_up (d_up (d_up M v0 13 v4) v0 14 ((d_up M v0 13 v4) ((d_up M v0 13 v4) v0 9) (w32 ((w32 (3 * v2)) + 1)))) v0 15 0) v0 16 ((d_up (d_up (d_up M v0 13 v4) v0 14 ((d_up M v0 13 v4) ((d_up M v0 13 v4) v0 9) (w32 ((w32 (3 * v2)) + 1)))) v0 15 0) v0 8)) v0 9), (2, v0)], (K, d_up (d_up (d_up (d_up M v0 13 v4) v0 14 ((d_up M v0 13 v4) ((d_up M v0 13 v4) v0 9) (w32 ((w32 (3 * v2)) + 1)))) v0 15 0) v0 16 ((d_up (d_up (d_up M v0 13 v4) v0 14 ((d_up M v0 13 v4) ((d_up M v0 13 v4) v0 9) (w32 ((w32 (3 * v2)) + 1)))) v0 15 0) v0 8)))) rfl).trans ?_
    refine (v_ald (a := 8) rfl (by decide)).trans ?_
    refine g_congr (fun _ => ?_)
    refine (v_putf (a := 7) (b := 17) (t := 0) rfl rfl (by intro q; cases q)).trans ?_
    refine g_congr (fun _ => ?_)
    refine p_congr (fun _ => ?_)
    refine (vr_steps 2 (x' := (63, [(2, v0), (0, v1), (0, v2), (0, v3), (0, v4)], [(2, v0), (2, v0)], (K, d_up (d_up (d_up (d_up (d_up M v0 13 v4) v0 14 ((d_up M v0 13 v4) ((d_up M v0 13 v4) v0 9) (w32 ((w32 (3 * v2)) + 1)))) v0 15 0) v0 16 ((d_up (d_up (d_up M v0 13 v4) v0 14 ((d_up M v0 13 v4) ((d_up M v0 13 v4) v0 9) (w32 ((w32 (3 * v2)) + 1)))) v0 15 0) v0 8)) v0 17 ((d_up (d_up (d_up (d_up M v0 13 v4) v0 14 ((d_up M v0 13 v4) ((d_up M v0 13 v4) v0 9) (w32 ((w32 (3 * v2)) + 1)))) v0 15 0) v0 16 ((d_up (d_up (d_up M v0 13 v4) v0 14 ((d_up M v0 13 v4) ((d_up M v0 13 v4) v0 9) (w32 ((w32 (3 * v2)) + 1)))) v0 15 0) v0 8)) ((d_up (d_up (d_up (d_up M v0 13 v4) v0 14 ((d_up M v0 13 v4) ((d_up M v0 13 v4) v0 9) (w32 ((w32 (3 * v2)) + 1)))) v0 15 0) v0 16 ((d_up (d_up (d_up M v0 13 v4) v0 14 ((d_up M v0 13 v4) ((d_up M v0 13 v4) v0 9) (w32 ((w32 (3 * v2)) + 1)))) v0 15 0) v0 8)) v0 9) (w32 (3 * v2)))))) rfl).trans ?_
    refine (v_getf (a := 7) (b := 7) (t := 0) rfl rfl).trans ?_
    refine g_congr (fun _ => ?_)
    refine (v_putf (a := 7) (b := 18) (t := 0) rfl rfl (by intro q; cases q)).trans ?_
    refine g_congr (fun _ => ?_)
    refine p_congr (fun _ => ?_)
    refine (vr_steps 2 (x' := (71, [(2, v0), (0, v1), (0, v2), (0, v3), (0, v4)], [(2, v0), (2, v0)], (K, d_up (d_up (d_up (d_up (d_up (d_up M v0 13 v4) v0 14 ((d_up M v0 13 v4) ((d_up M v0 13 v4) v0 9) (w32 ((w32 (3 * v2)) + 1)))) v0 15 0) v0 16 ((d_up (d_up (d_up M v0 13 v4) v0 14 ((d_up M v0 13 v4) ((d_up M v0 13 v4) v0 9) (w32 ((w32 (3 * v2)) + 1)))) v0 15 0) v0 8)) v0 17 ((d_up (d_up (d_up (d_up M v0 13 v4) v0 14 ((d_up M v0 13 v4) ((d_up M v0 13 v4) v0 9) (w32 ((w32 (3 * v2)) + 1)))) v0 15 0) v0 16 ((d_up (d_up (d_up M v0 13 v4) v0 14 ((d_up M v0 13 v4) ((d_up M v0 13 v4) v0 9) (w32 ((w32 (3 * v2)) + 1)))) v0 15 0) v0 8)) ((d_up (d_up (d_up (d_up M v0 13 v4) v0 14 ((d_up M v0 13 v4) ((d_up M v0 13 v4) v0 9) (w32 ((w32 (3 * v2)) + 1)))) v0 15 0) v0 16 ((d_up (d_up (d_up M v0 13 v4) v0 14 ((d_up M v0 13 v4) ((d_up M v0 13 v4) v0 9) (w32 ((w32 (3 * v2)) + 1)))) v0 15 0) v0 8)) v0 9) (w32 (3 * v2)))) v0 18 ((d_up (d_up (d_up (d_up (d_up M v0 13 v4) v0 14 ((d_up M v0 13 v4) ((d_up M v0 13 v4) v0 9) (w32 ((w32 (3 * v2)) + 1)))) v0 15 0) v0 16 ((d_up (d_up (d_up M v0 13 v4) v0 14 ((d_up M v0 13 v4) ((d_up M v0 13 v4) v0 9) (w32 ((w32 (3 * v2)) + 1)))) v0 15 0) v0 8)) v0 17 ((d_up (d_up (d_up (d_up M v0 13 v4) v0 14 ((d_up M v0 13 v4) ((d_up M v0 13 v4) v0 9) (w32 ((w32 (3 * v2)) + 1)))) v0 15 0) v0 16 ((d_up (d_up (d_up M v0 13 v4) v0 14 ((d_up M v0 13 v4) ((d_up M v0 13 v4) v0 9) (w32 ((w32 (3 * v2)) + 1)))) v0 15 0) v0 8)) ((d_up (d_up (d_up (d_up M v0 13 v4) v0 14 ((d_up M v0 13 v4) ((d_up M v0 13 v4) v0 9) (w32 ((w32 (3 * v2)) + 1)))) v0 15 0) v0 16 ((d_up (d_up (d_up M v0 13 v4) v0 14 ((d_up M v0 13 v4) ((d_up M v0 13 v4) v0 9) (w32 ((w32 (3 * v2)) + 1)))) v0 15 0) v0 8)) v0 9) (w32 (3 * v2)))) v0 7)))) rfl).trans ?_
    refine (v_getf (a := 7) (b := 4) (t := 0) rfl rfl).trans ?_
    refine g_congr (fun _ => ?_)
    refine (vr_steps 1 (x' := (75, [(2, v0), (0, v1), (0, v2), (0, v3), (0, v4)], [(0, v1), (0, (d_up (d_up (d_up (d_up (d_up (d_up M v0 13 v4) v0 14 ((d_up M v0 13 v4) ((d_up M v0 13 v4) v0 9) (w32 ((w32 (3 * v2)) + 1)))) v0 15 0) v0 16 ((d_up (d_up (d_up M v0 13 v4) v0 14 ((d_up M v0 13 v4) ((d_up M v0 13 v4) v0 9) (w32 ((w32 (3 * v2)) + 1)))) v0 15 0) v0 8)) v0 17 ((d_up (d_up (d_up (d_up M v0 13 v4) v0 14 ((d_up M v0 13 v4) ((d_up M v0 13 v4) v0 9) (w32 ((w32 (3 * v2)) + 1)))) v0 15 0) v0 16 ((d_up (d_up (d_up M v0 13 v4) v0 14 ((d_up M v0 13 v4) ((d_up M v0 13 v4) v0 9) (w32 ((w32 (3 * v2)) + 1)))) v0 15 0) v0 8)) ((d_up (d_up (d_up (d_up M v0 13 v4) v0 14 ((d_up M v0 13 v4) ((d_up M v0 13 v4) v0 9) (w32 ((w32 (3 * v2)) + 1)))) v0 15 0) v0 16 ((d_up (d_up (d_up M v0 13 v4) v0 14 ((d_up M v0 13 v4) ((d_up M v0 13 v4) v0 9) (w32 ((w32 (3 * v2)) + 1)))) v0 15 0) v0 8)) v0 9) (w32 (3 * v2)))) v0 18 ((d_up (d_up (d_up (d_up (d_up M v0 13 v4) v0 14 ((d_up M v0 13 v4) ((d_up M v0 13 v4) v0 9) (w32 ((w32 (3 * v2)) + 1)))) v0 15 0) v0 16 ((d_up (d_up (d_up M v0 13 v4) v0 14 ((d_up M v0 13 v4) ((d_up M v0 13 v4) v0 9) (w32 ((w32 (3 * v2)) + 1)))) v0 15 0) v0 8)) v0 17 ((d_up (d_up (d_up (d_up M v0 13 v4) v0 14 ((d_up M v0 13 v4) ((d_up M v0 13 v4) v0 9) (w32 ((w32 (3 * v2)) + 1)))) v0 15 0) v0 16 ((d_up (d_up (d_up M v0 13 v4) v0 14 ((d_up M v0 13 v4) ((d_up M v0 13 v4) v0 9) (w32 ((w32 (3 * v2)) + 1)))) v0 15 0) v0 8)) ((d_up (d_up (d_up (d_up M v0 13 v4) v0 14 ((d_up M v0 13 v4) ((d_up M v0 13 v4) v0 9) (w32 ((w32 (3 * v2)) + 1)))) v0 15 0) v0 16 ((d_up (d_up (d_up M v0 13 v4) v0 14 ((d_up M v0 13 v4) ((d_up M v0 13 v4) v0 9) (w32 ((w32 (3 * v2)) + 1)))) v0 15 0) v0 8)) v0 9) (w32 (3 * v2)))) v0 7)) v0 4), (2, v0)], (K, d_up (d_up (d_up (d_up (d_up (d_up M v0 13 v4) v0 14 ((d_up M v0 13 v4) ((d_up M v0 13 v4) v0 9) (w32 ((w32 (3 * v2)) + 1)))) v0 15 0) v0 16 ((d_up (d_up (d_up M v0 13 v4) v0 14 ((d_up M v0 13 v4) ((d_up M v0 13 v4) v0 9) (w32 ((w32 (3 * v2)) + 1)))) v0 15 0) v0 8)) v0 17 ((d_up (d_up (d_up (d_up M v0 13 v4) v0 14 ((d_up M v0 13 v4) ((d_up M v0 13 v4) v0 9) (w32 ((w32 (3 * v2)) + 1)))) v0 15 0) v0 16 ((d_up (d_up (d_up M v0 13 v4) v0 14 ((d_up M v0 13 v4) ((d_up M v0 13 v4) v0 9) (w32 ((w32 (3 * v2)) + 1)))) v0 15 0) v0 8)) ((d_up (d_up (d_up (d_up M v0 13 v4) v0 14 ((d_up M v0 13 v4) ((d_up M v0 13 v4) v0 9) (w32 ((w32 (3 * v2)) + 1)))) v0 15 0) v0 16 ((d_up (d_up (d_up M v0 13 v4) v0 14 ((d_up M v0 13 v4) ((d_up M v0 13 v4) v0 9) (w32 ((w32 (3 * v2)) + 1)))) v0 15 0) v0 8)) v0 9) (w32 (3 * v2)))) v0 18 ((d_up (d_up (d_up (d_up (d_up M v0 13 v4) v0 14 ((d_up M v0 13 v4) ((d_up M v0 13 v4) v0 9) (w32 ((w32 (3 * v2)) + 1)))) v0 15 0) v0 16 ((d_up (d_up (d_up M v0 13 v4) v0 14 ((d_up M v0 13 v4) ((d_up M v0 13 v4) v0 9) (w32 ((w32 (3 * v2)) + 1)))) v0 15 0) v0 8)) v0 17 ((d_up (d_up (d_up (d_up M v0 13 v4) v0 14 ((d_up M v0 13 v4) ((d_up M v0 13 v4) v0 9) (w32 ((w32 (3 * v2)) + 1)))) v0 15 0) v0 16 ((d_up (d_up (d_up M v0 13 v4) v0 14 ((d_up M v0 13 v4) ((d_up M v0 13 v4) v0 9) (w32 ((w32 (3 * v2)) + 1)))) v0 15 0) v0 8)) ((d_up (d_up (d_up (d_up M v0 13 v4) v0 14 ((d_up M v0 13 v4) ((d_up M v0 13 v4) v0 9) (w32 ((w32 (3 * v2)) + 1)))) v0 15 0) v0 16 ((d_up (d_up (d_up M v0 13 v4) v0 14 ((d_up M v0 13 v4) ((d_up M v0 13 v4) v0 9) (w32 ((w32 (3 * v2)) + 1)))) v0 15 0) v0 8)) v0 9) (w32 (3 * v2)))) v0 7)))) rfl).trans ?_
    exact (v_virt (k := 142) (n := 3) (tag := 7) (r := v0) (av := [(0, (d_up (d_up (d_up (d_up (d_up (d_up M v0 13 v4) v0 14 ((d_up M v0 13 v4) ((d_up M v0 13 v4) v0 9) (w32 ((w32 (3 * v2)) + 1)))) v0 15 0) v0 16 ((d_up (d_up (d_up M v0 13 v4) v0 14 ((d_up M v0 13 v4) ((d_up M v0 13 v4) v0 9) (w32 ((w32 (3 * v2)) + 1)))) v0 15 0) v0 8)) v0 17 ((d_up (d_up (d_up (d_up M v0 13 v4) v0 14 ((d_up M v0 13 v4) ((d_up M v0 13 v4) v0 9) (w32 ((w32 (3 * v2)) + 1)))) v0 15 0) v0 16 ((d_up (d_up (d_up M v0 13 v4) v0 14 ((d_up M v0 13 v4) ((d_up M v0 13 v4) v0 9) (w32 ((w32 (3 * v2)) + 1)))) v0 15 0) v0 8)) ((d_up (d_up (d_up (d_up M v0 13 v4) v0 14 ((d_up M v0 13 v4) ((d_up M v0 13 v4) v0 9) (w32 ((w32 (3 * v2)) + 1)))) v0 15 0) v0 16 ((d_up (d_up (d_up M v0 13 v4) v0 14 ((d_up M v0 13 v4) ((d_up M v0 13 v4) v0 9) (w32 ((w32 (3 * v2)) + 1)))) v0 15 0) v0 8)) v0 9) (w32 (3 * v2)))) v0 18 ((d_up (d_up (d_up (d_up (d_up M v0 13 v4) v0 14 ((d_up M v0 13 v4) ((d_up M v0 13 v4) v0 9) (w32 ((w32 (3 * v2)) + 1)))) v0 15 0) v0 16 ((d_up (d_up (d_up M v0 13 v4) v0 14 ((d_up M v0 13 v4) ((d_up M v0 13 v4) v0 9) (w32 ((w32 (3 * v2)) + 1)))) v0 15 0) v0 8)) v0 17 ((d_up (d_up (d_up (d_up M v0 13 v4) v0 14 ((d_up M v0 13 v4) ((d_up M v0 13 v4) v0 9) (w32 ((w32 (3 * v2)) + 1)))) v0 15 0) v0 16 ((d_up (d_up (d_up M v0 13 v4) v0 14 ((d_up M v0 13 v4) ((d_up M v0 13 v4) v0 9) (w32 ((w32 (3 * v2)) + 1)))) v0 15 0) v0 8)) ((d_up (d_up (d_up (d_up M v0 13 v4) v0 14 ((d_up M v0 13 v4) ((d_up M v0 13 v4) v0 9) (w32 ((w32 (3 * v2)) + 1)))) v0 15 0) v0 16 ((d_up (d_up (d_up M v0 13 v4) v0 14 ((d_up M v0 13 v4) ((d_up M v0 13 v4) v0 9) (w32 ((w32 (3 * v2)) + 1)))) v0 15 0) v0 8)) v0 9) (w32 (3 * v2)))) v0 7)) v0 4), (0, v1)]) (code := c_X7_says) (pc := 75) (len := 3) (L := [(2, v0), (0, v1), (0, v2), (0, v3), (0, v4)]) (st := [(0, v1), (0, (d_up (d_up (d_up (d_up (d_up (d_up M v0 13 v4) v0 14 ((d_up M v0 13 v4) ((d_up M v0 13 v4) v0 9) (w32 ((w32 (3 * v2)) + 1)))) v0 15 0) v0 16 ((d_up (d_up (d_up M v0 13 v4) v0 14 ((d_up M v0 13 v4) ((d_up M v0 13 v4) v0 9) (w32 ((w32 (3 * v2)) + 1)))) v0 15 0) v0 8)) v0 17 ((d_up (d_up (d_up (d_up M v0 13 v4) v0 14 ((d_up M v0 13 v4) ((d_up M v0 13 v4) v0 9) (w32 ((w32 (3 * v2)) + 1)))) v0 15 0) v0 16 ((d_up (d_up (d_up M v0 13 v4) v0 14 ((d_up M v0 13 v4) ((d_up M v0 13 v4) v0 9) (w32 ((w32 (3 * v2)) + 1)))) v0 15 0) v0 8)) ((d_up (d_up (d_up (d_up M v0 13 v4) v0 14 ((d_up M v0 13 v4) ((d_up M v0 13 v4) v0 9) (w32 ((w32 (3 * v2)) + 1)))) v0 15 0) v0 16 ((d_up (d_up (d_up M v0 13 v4) v0 14 ((d_up M v0 13 v4) ((d_up M v0 13 v4) v0 9) (w32 ((w32 (3 * v2)) + 1)))) v0 15 0) v0 8)) v0 9) (w32 (3 * v2)))) v0 18 ((d_up (d_up (d_up (d_up (d_up M v0 13 v4) v0 14 ((d_up M v0 13 v4) ((d_up M v0 13 v4) v0 9) (w32 ((w32 (3 * v2)) + 1)))) v0 15 0) v0 16 ((d_up (d_up (d_up M v0 13 v4) v0 14 ((d_up M v0 13 v4) ((d_up M v0 13 v4) v0 9) (w32 ((w32 (3 * v2)) + 1)))) v0 15 0) v0 8)) v0 17 ((d_up (d_up (d_up (d_up M v0 13 v4) v0 14 ((d_up M v0 13 v4) ((d_up M v0 13 v4) v0 9) (w32 ((w32 (3 * v2)) + 1)))) v0 15 0) v0 16 ((d_up (d_up (d_up M v0 13 v4) v0 14 ((d_up M v0 13 v4) ((d_up M v0 13 v4) v0 9) (w32 ((w32 (3 * v2)) + 1)))) v0 15 0) v0 8)) ((d_up (d_up (d_up (d_up M v0 13 v4) v0 14 ((d_up M v0 13 v4) ((d_up M v0 13 v4) v0 9) (w32 ((w32 (3 * v2)) + 1)))) v0 15 0) v0 16 ((d_up (d_up (d_up M v0 13 v4) v0 14 ((d_up M v0 13 v4) ((d_up M v0 13 v4) v0 9) (w32 ((w32 (3 * v2)) + 1)))) v0 15 0) v0 8)) v0 9) (w32 (3 * v2)))) v0 7)) v0 4), (2, v0)]) rfl (Nat.le_of_ble_eq_true rfl) (Nat.le_of_ble_eq_true rfl) rfl).trans rfl
set_option maxRecDepth 100000 in
theorem e_X7_says_78 {sc : dS} {d : Nat} {K : List (Nat × Nat)} {M : dM} {v0 v1 v2 v3 v4 s0 : Int} : vr sc d c_X7_says (78, [(2, v0), (0, v1), (0, v2), (0, v3), (0, v4)], [(0, s0)], (K, M)) = (if ¬ v1 = 0 then (vc sc d 115 [(0, s0), (0, (-99)), (0, 99)] (K, M)).bind (fun r => vr sc d c_X7_says (93, [(2, v0), (0, v1), (0, v2), (0, v3), (0, v4)], r.1 ++ [], r.2)) else (vc sc d 115 [(0, s0), (0, 0), (0, 99)] (K, M)).bind (fun r => vr sc d c_X7_says (93, [(2, v0), (0, v1), (0, v2), (0, v3), (0, v4)], r.1 ++ [], r.2))) := by
  refine (vr_steps 1 (x' := (79, [(2, v0), (0, v1), (0, v2), (0, v3), (0, v4)], [(0, v1), (0, s0)], (K, M))) rfl).trans ?_
  refine (v_if (k := 1) (b := 86) (c := ¬ v1 = 0) rfl rfl).trans ?_
  refine c_congr (fun _ => ?_) (fun _ => ?_)
  · refine (vr_steps 2 (x' := (90, [(2, v0), (0, v1), (0, v2), (0, v3), (0, v4)], [(0, 99), (0, (-99)), (0, s0)], (K, M))) rfl).trans ?_
    exact (v_stat (k := 115) (n := 3) (code := c_X7_says) (pc := 90) (len := 3) (L := [(2, v0), (0, v1), (0, v2), (0, v3), (0, v4)]) (st := [(0, 99), (0, (-99)), (0, s0)]) rfl (Nat.le_of_ble_eq_true rfl) (Nat.le_of_ble_eq_true rfl)).trans rfl
  · refine (vr_steps 3 (x' := (90, [(2, v0), (0, v1), (0, v2), (0, v3), (0, v4)], [(0, 99), (0, 0), (0, s0)], (K, M))) rfl).trans ?_
    exact (v_stat (k := 115) (n := 3) (code := c_X7_says) (pc := 90) (len := 3) (L := [(2, v0), (0, v1), (0, v2), (0, v3), (0, v4)]) (st := [(0, 99), (0, 0), (0, s0)]) rfl (Nat.le_of_ble_eq_true rfl) (Nat.le_of_ble_eq_true rfl)).trans rfl
set_option maxRecDepth 100000 in
theorem e_X7_says_93 {sc : dS} {d : Nat} {K : List (Nat × Nat)} {M : dM} {v0 v1 v2 v3 v4 s0 : Int} : vr sc d c_X7_says (93, [(2, v0), (0, v1), (0, v2), (0, v3), (0, v4)], [(0, s0)], (K, M)) = (some ([(0, s0)], (K, M))) := by
  exact vr_ret (ai := (35, 1, 1, 0, [])) rfl rfl

noncomputable def c_X7_read : Nat → Option dI := d_mcode m_X7_read
set_option maxRecDepth 100000 in
theorem e_X7_read_0 {sc : dS} {d : Nat} {K : List (Nat × Nat)} {M : dM} {v0 v1 : Int} : vr sc d c_X7_read (0, [(2, v0), (0, v1)], [], (K, M)) = (if rg K 7 v0 = true then (vc sc d 118 [(2, v0), (0, v1)] (K, M)).bind (fun r => vr sc d c_X7_read (5, [(2, v0), (0, v1)], r.1 ++ [], r.2)) else none) := by
  refine (vr_steps 2 (x' := (2, [(2, v0), (0, v1)], [(0, v1), (2, v0)], (K, M))) rfl).trans ?_
  exact (v_virt (k := 118) (n := 2) (tag := 7) (r := v0) (av := [(0, v1)]) (code := c_X7_read) (pc := 2) (len := 3) (L := [(2, v0), (0, v1)]) (st := [(0, v1), (2, v0)]) rfl (Nat.le_of_ble_eq_true rfl) (Nat.le_of_ble_eq_true rfl) rfl).trans rfl
set_option maxRecDepth 100000 in
theorem e_X7_read_5 {sc : dS} {d : Nat} {K : List (Nat × Nat)} {M : dM} {v0 v1 s0 : Int} : vr sc d c_X7_read (5, [(2, v0), (0, v1)], [(0, s0)], (K, M)) = (if s0 = 0 then some ([(0, (-1000))], (K, M)) else (if rg K 7 v0 = true then (vc sc d 145 [(2, v0), (0, 2), (0, v1), (0, (-1)), (0, 0)] (K, M)).bind (fun r => vr sc d c_X7_read (16, [(2, v0), (0, v1)], r.1 ++ [], r.2)) else none)) := by
  refine (v_if (k := 0) (b := 19) (c := s0 = 0) rfl rfl).trans ?_
  refine c_congr (fun _ => ?_) (fun _ => ?_)
  · refine (vr_steps 1 (x' := (22, [(2, v0), (0, v1)], [(0, (-1000))], (K, M))) rfl).trans ?_
    exact vr_ret (ai := (35, 1, 1, 0, [])) rfl rfl
  · refine (vr_steps 5 (x' := (13, [(2, v0), (0, v1)], [(0, 0), (0, (-1)), (0, v1), (0, 2), (2, v0)], (K, M))) rfl).trans ?_
    exact (v_virt (k := 145) (n := 5) (tag := 7) (r := v0) (av := [(0, 2), (0, v1), (0, (-1)), (0, 0)]) (code := c_X7_read) (pc := 13) (len := 3) (L := [(2, v0), (0, v1)]) (st := [(0, 0), (0, (-1)), (0, v1), (0, 2), (2, v0)]) rfl (Nat.le_of_ble_eq_true rfl) (Nat.le_of_ble_eq_true rfl) rfl).trans rfl
set_option maxRecDepth 100000 in
theorem e_X7_read_16 {sc : dS} {d : Nat} {K : List (Nat × Nat)} {M : dM} {v0 v1 s0 : Int} : vr sc d c_X7_read (16, [(2, v0), (0, v1)], [(0, s0)], (K, M)) = (some ([(0, s0)], (K, M))) := by
  refine (vr_steps 1 (x' := (22, [(2, v0), (0, v1)], [(0, s0)], (K, M))) rfl).trans ?_
  exact vr_ret (ai := (35, 1, 1, 0, [])) rfl rfl

noncomputable def c_X7_takesFoot : Nat → Option dI := d_mcode m_X7_takesFoot
set_option maxRecDepth 100000 in
theorem e_X7_takesFoot_0 {sc : dS} {d : Nat} {K : List (Nat × Nat)} {M : dM} {v0 v1 : Int} {q2 : dV} : vr sc d c_X7_takesFoot (0, [(2, v0), (0, v1), q2], [], (K, M)) = (if og K 7 v0 10 = true then (if ag K 8 (M v0 10) (w32 ((w32 (3 * v1)) + 2)) = true then (if og K 7 v0 29 = true then (if -2147483648 ≤ (M (M v0 10) (w32 ((w32 (3 * v1)) + 2))) ∧ (M (M v0 10) (w32 ((w32 (3 * v1)) + 2))) < 2147483648 then vr sc d c_X7_takesFoot (16, [(2, v0), (0, v1), (0, 0)], [], (K, d_up M v0 29 (M (M v0 10) (w32 ((w32 (3 * v1)) + 2))))) else none) else none) else none) else none) := by
  refine (vr_steps 2 (x' := (2, [(2, v0), (0, v1), q2], [(2, v0), (2, v0)], (K, M))) rfl).trans ?_
  refine (v_getf (a := 7) (b := 10) (t := 2) rfl rfl).trans ?_
  refine g_congr (fun _ => ?_)
  refine (vr_steps 5 (x' := (10, [(2, v0), (0, v1), q2], [(0, w32 ((w32 (3 * v1)) + 2)), (2, M v0 10), (2, v0)], (K, M))) rfl).trans ?_
  refine (v_ald (a := 8) rfl (by decide)).trans ?_
  refine g_congr (fun _ => ?_)
  refine (v_putf (a := 7) (b := 29) (t := 0) rfl rfl (by intro q; cases q)).trans ?_
  refine g_congr (fun _ => ?_)
  refine p_congr (fun _ => ?_)
  exact vr_steps 2 rfl
set_option maxRecDepth 100000 in
theorem e_X7_takesFoot_16 {sc : dS} {d : Nat} {K : List (Nat × Nat)} {M : dM} {v0 v1 v2 : Int} : vr sc d c_X7_takesFoot (16, [(2, v0), (0, v1), (0, v2)], [], (K, M)) = (if og K 7 v0 29 = true then (if (M v0 29) ≤ v2 then some ([], (K, M)) else (if og K 7 v0 28 = true then (if og K 7 v0 11 = true then (if ag K 8 (M v0 11) (w32 ((w32 (12 * v1)) + v2)) = true then (if ag K 8 (M v0 28) v2 = true then vr sc d c_X7_takesFoot (16, [(2, v0), (0, v1), (0, w32 (v2 + 1))], [], (K, d_up M (M v0 28) v2 (M (M v0 11) (w32 ((w32 (12 * v1)) + v2))))) else none) else none) else none) else none)) else none) := by
  refine (vr_steps 2 (x' := (18, [(2, v0), (0, v1), (0, v2)], [(2, v0), (0, v2)], (K, M))) rfl).trans ?_
  refine (v_getf (a := 7) (b := 29) (t := 0) rfl rfl).trans ?_
  refine g_congr (fun _ => ?_)
  refine (v_icmp (k := 3) (b := 47) (c := (M v0 29) ≤ v2) rfl rfl).trans ?_
  refine c_congr (fun _ => ?_) (fun _ => ?_)
  · exact vr_ret (ai := (35, 1, 0, 0, [])) rfl rfl
  · refine (vr_steps 1 (x' := (25, [(2, v0), (0, v1), (0, v2)], [(2, v0)], (K, M))) rfl).trans ?_
    refine (v_getf (a := 7) (b := 28) (t := 2) rfl rfl).trans ?_
    refine g_congr (fun _ => ?_)
    refine (vr_steps 2 (x' := (30, [(2, v0), (0, v1), (0, v2)], [(2, v0), (0, v2), (2, M v0 28)], (K, M))) rfl).trans ?_
    refine (v_getf (a := 7) (b := 11) (t := 2) rfl rfl).trans ?_
    refine g_congr (fun _ => ?_)
    refine (vr_steps 5 (x' := (39, [(2, v0), (0, v1), (0, v2)], [(0, w32 ((w32 (12 * v1)) + v2)), (2, M v0 11), (0, v2), (2, M v0 28)], (K, M))) rfl).trans ?_
    refine (v_ald (a := 8) rfl (by decide)).trans ?_
    refine g_congr (fun _ => ?_)
    refine (v_ast rfl).trans ?_
    refine g_congr (fun _ => ?_)
    exact vr_steps 2 rfl

noncomputable def c_X7_takesSheet : Nat → Option dI := d_mcode m_X7_takesSheet
set_option maxRecDepth 100000 in
theorem e_X7_takesSheet_0 {sc : dS} {d : Nat} {K : List (Nat × Nat)} {M : dM} {v0 v1 : Int} {q2 : dV} : vr sc d c_X7_takesSheet (0, [(2, v0), (0, v1), q2], [], (K, M)) = (if og K 7 v0 44 = true then (if ag K 8 (M v0 44) v1 = true then (if og K 7 v0 29 = true then (if -2147483648 ≤ (M (M v0 44) v1) ∧ (M (M v0 44) v1) < 2147483648 then vr sc d c_X7_takesSheet (12, [(2, v0), (0, v1), (0, 0)], [], (K, d_up M v0 29 (M (M v0 44) v1))) else none) else none) else none) else none) := by
  refine (vr_steps 2 (x' := (2, [(2, v0), (0, v1), q2], [(2, v0), (2, v0)], (K, M))) rfl).trans ?_
  refine (v_getf (a := 7) (b := 44) (t := 2) rfl rfl).trans ?_
  refine g_congr (fun _ => ?_)
  refine (vr_steps 1 (x' := (6, [(2, v0), (0, v1), q2], [(0, v1), (2, M v0 44), (2, v0)], (K, M))) rfl).trans ?_
  refine (v_ald (a := 8) rfl (by decide)).trans ?_
  refine g_congr (fun _ => ?_)
  refine (v_putf (a := 7) (b := 29) (t := 0) rfl rfl (by intro q; cases q)).trans ?_
  refine g_congr (fun _ => ?_)
  refine p_congr (fun _ => ?_)
  exact vr_steps 2 rfl
set_option maxRecDepth 100000 in
theorem e_X7_takesSheet_12 {sc : dS} {d : Nat} {K : List (Nat × Nat)} {M : dM} {v0 v1 v2 : Int} : vr sc d c_X7_takesSheet (12, [(2, v0), (0, v1), (0, v2)], [], (K, M)) = (if og K 7 v0 29 = true then (if (M v0 29) ≤ v2 then some ([], (K, M)) else (if og K 7 v0 28 = true then (if og K 7 v0 45 = true then (if ag K 8 (M v0 45) (w32 ((w32 (40 * v1)) + v2)) = true then (if ag K 8 (M v0 28) v2 = true then vr sc d c_X7_takesSheet (12, [(2, v0), (0, v1), (0, w32 (v2 + 1))], [], (K, d_up M (M v0 28) v2 (M (M v0 45) (w32 ((w32 (40 * v1)) + v2))))) else none) else none) else none) else none)) else none) := by
  refine (vr_steps 2 (x' := (14, [(2, v0), (0, v1), (0, v2)], [(2, v0), (0, v2)], (K, M))) rfl).trans ?_
  refine (v_getf (a := 7) (b := 29) (t := 0) rfl rfl).trans ?_
  refine g_congr (fun _ => ?_)
  refine (v_icmp (k := 3) (b := 43) (c := (M v0 29) ≤ v2) rfl rfl).trans ?_
  refine c_congr (fun _ => ?_) (fun _ => ?_)
  · exact vr_ret (ai := (35, 1, 0, 0, [])) rfl rfl
  · refine (vr_steps 1 (x' := (21, [(2, v0), (0, v1), (0, v2)], [(2, v0)], (K, M))) rfl).trans ?_
    refine (v_getf (a := 7) (b := 28) (t := 2) rfl rfl).trans ?_
    refine g_congr (fun _ => ?_)
    refine (vr_steps 2 (x' := (26, [(2, v0), (0, v1), (0, v2)], [(2, v0), (0, v2), (2, M v0 28)], (K, M))) rfl).trans ?_
    refine (v_getf (a := 7) (b := 45) (t := 2) rfl rfl).trans ?_
    refine g_congr (fun _ => ?_)
    refine (vr_steps 5 (x' := (35, [(2, v0), (0, v1), (0, v2)], [(0, w32 ((w32 (40 * v1)) + v2)), (2, M v0 45), (0, v2), (2, M v0 28)], (K, M))) rfl).trans ?_
    refine (v_ald (a := 8) rfl (by decide)).trans ?_
    refine g_congr (fun _ => ?_)
    refine (v_ast rfl).trans ?_
    refine g_congr (fun _ => ?_)
    exact vr_steps 2 rfl

noncomputable def c_X7_wordNumber : Nat → Option dI := d_mcode m_X7_wordNumber
set_option maxRecDepth 100000 in
theorem e_X7_wordNumber_0 {sc : dS} {d : Nat} {K : List (Nat × Nat)} {M : dM} {v0 : Int} {q1 q2 : dV} : vr sc d c_X7_wordNumber (0, [(2, v0), q1, q2], [], (K, M)) = (vr sc d c_X7_wordNumber (4, [(2, v0), (0, 0), (0, 0)], [], (K, M))) := by
  exact vr_steps 4 rfl
set_option maxRecDepth 100000 in
theorem e_X7_wordNumber_4 {sc : dS} {d : Nat} {K : List (Nat × Nat)} {M : dM} {v0 v1 v2 : Int} : vr sc d c_X7_wordNumber (4, [(2, v0), (0, v1), (0, v2)], [], (K, M)) = (if og K 7 v0 29 = true then (if (M v0 29) ≤ v2 then some ([(0, v1)], (K, M)) else (if og K 7 v0 28 = true then (if ag K 8 (M v0 28) v2 = true then vr sc d c_X7_wordNumber (4, [(2, v0), (0, w32 ((w32 ((w32 (5 * v1)) + (M (M v0 28) v2))) + 1)), (0, w32 (v2 + 1))], [], (K, M)) else none) else none)) else none) := by
  refine (vr_steps 2 (x' := (6, [(2, v0), (0, v1), (0, v2)], [(2, v0), (0, v2)], (K, M))) rfl).trans ?_
  refine (v_getf (a := 7) (b := 29) (t := 0) rfl rfl).trans ?_
  refine g_congr (fun _ => ?_)
  refine (v_icmp (k := 3) (b := 31) (c := (M v0 29) ≤ v2) rfl rfl).trans ?_
  refine c_congr (fun _ => ?_) (fun _ => ?_)
  · refine (vr_steps 1 (x' := (32, [(2, v0), (0, v1), (0, v2)], [(0, v1)], (K, M))) rfl).trans ?_
    exact vr_ret (ai := (35, 1, 1, 0, [])) rfl rfl
  · refine (vr_steps 4 (x' := (16, [(2, v0), (0, v1), (0, v2)], [(2, v0), (0, w32 (5 * v1))], (K, M))) rfl).trans ?_
    refine (v_getf (a := 7) (b := 28) (t := 2) rfl rfl).trans ?_
    refine g_congr (fun _ => ?_)
    refine (vr_steps 1 (x' := (20, [(2, v0), (0, v1), (0, v2)], [(0, v2), (2, M v0 28), (0, w32 (5 * v1))], (K, M))) rfl).trans ?_
    refine (v_ald (a := 8) rfl (by decide)).trans ?_
    refine g_congr (fun _ => ?_)
    exact vr_steps 6 rfl

noncomputable def c_X7_undo : Nat → Option dI := d_mcode m_X7_undo
set_option maxRecDepth 100000 in
theorem e_X7_undo_0 {sc : dS} {d : Nat} {K : List (Nat × Nat)} {M : dM} {v0 v1 : Int} : vr sc d c_X7_undo (0, [(0, v0), (0, v1)], [], (K, M)) = (if ¬ (i_xor v0 v1) = 2 then some ([(0, 0)], (K, M)) else some ([(0, 1)], (K, M))) := by
  refine (vr_steps 4 (x' := (4, [(0, v0), (0, v1)], [(0, 2), (0, i_xor v0 v1)], (K, M))) rfl).trans ?_
  refine (v_icmp (k := 1) (b := 11) (c := ¬ (i_xor v0 v1) = 2) rfl rfl).trans ?_
  refine c_congr (fun _ => ?_) (fun _ => ?_)
  · refine (vr_steps 1 (x' := (12, [(0, v0), (0, v1)], [(0, 0)], (K, M))) rfl).trans ?_
    exact vr_ret (ai := (35, 1, 3, 0, [])) rfl rfl
  · refine (vr_steps 2 (x' := (12, [(0, v0), (0, v1)], [(0, 1)], (K, M))) rfl).trans ?_
    exact vr_ret (ai := (35, 1, 3, 0, [])) rfl rfl

noncomputable def c_X7_reduces : Nat → Option dI := d_mcode m_X7_reduces
set_option maxRecDepth 100000 in
theorem e_X7_reduces_0 {sc : dS} {d : Nat} {K : List (Nat × Nat)} {M : dM} {v0 : Int} {q1 q2 : dV} : vr sc d c_X7_reduces (0, [(2, v0), q1, q2], [], (K, M)) = (vr sc d c_X7_reduces (4, [(2, v0), (0, 0), (0, 0)], [], (K, M))) := by
  exact vr_steps 4 rfl
set_option maxRecDepth 100000 in
theorem e_X7_reduces_4 {sc : dS} {d : Nat} {K : List (Nat × Nat)} {M : dM} {v0 v1 v2 : Int} : vr sc d c_X7_reduces (4, [(2, v0), (0, v1), (0, v2)], [], (K, M)) = (if og K 7 v0 29 = true then (if (M v0 29) ≤ v2 then (if og K 7 v0 29 = true then (if -2147483648 ≤ v1 ∧ v1 < 2147483648 then some ([], (K, d_up M v0 29 v1)) else none) else none) else (if v1 ≤ 0 then (if og K 7 v0 28 = true then (if og K 7 v0 28 = true then (if ag K 8 (M v0 28) v2 = true then (if ag K 8 (M v0 28) v1 = true then vr sc d c_X7_reduces (4, [(2, v0), (0, w32 (v1 + 1)), (0, w32 (v2 + 1))], [], (K, d_up M (M v0 28) v1 (M (M v0 28) v2))) else none) else none) else none) else none) else (if og K 7 v0 28 = true then (if ag K 8 (M v0 28) (w32 (v1 - 1)) = true then (if og K 7 v0 28 = true then (if ag K 8 (M v0 28) v2 = true then (vc sc d 150 [(0, M (M v0 28) (w32 (v1 - 1))), (0, M (M v0 28) v2)] (K, M)).bind (fun r => vr sc d c_X7_reduces (33, [(2, v0), (0, v1), (0, v2)], r.1 ++ [], r.2)) else none) else none) else none) else none))) else none) := by
  refine (vr_steps 2 (x' := (6, [(2, v0), (0, v1), (0, v2)], [(2, v0), (0, v2)], (K, M))) rfl).trans ?_
  refine (v_getf (a := 7) (b := 29) (t := 0) rfl rfl).trans ?_
  refine g_congr (fun _ => ?_)
  refine (v_icmp (k := 3) (b := 63) (c := (M v0 29) ≤ v2) rfl rfl).trans ?_
  refine c_congr (fun _ => ?_) (fun _ => ?_)
  · refine (vr_steps 2 (x' := (65, [(2, v0), (0, v1), (0, v2)], [(0, v1), (2, v0)], (K, M))) rfl).trans ?_
    refine (v_putf (a := 7) (b := 29) (t := 0) rfl rfl (by intro q; cases q)).trans ?_
    refine g_congr (fun _ => ?_)
    refine p_congr (fun _ => ?_)
    exact vr_ret (ai := (35, 1, 0, 0, [])) rfl rfl
  · refine (vr_steps 1 (x' := (13, [(2, v0), (0, v1), (0, v2)], [(0, v1)], (K, M))) rfl).trans ?_
    refine (v_if (k := 5) (b := 42) (c := v1 ≤ 0) rfl rfl).trans ?_
    refine c_congr (fun _ => ?_) (fun _ => ?_)
    · refine (vr_steps 1 (x' := (43, [(2, v0), (0, v1), (0, v2)], [(2, v0)], (K, M))) rfl).trans ?_
      refine (v_getf (a := 7) (b := 28) (t := 2) rfl rfl).trans ?_
      refine g_congr (fun _ => ?_)
      refine (vr_steps 2 (x' := (48, [(2, v0), (0, v1), (0, v2)], [(2, v0), (0, v1), (2, M v0 28)], (K, M))) rfl).trans ?_
      refine (v_getf (a := 7) (b := 28) (t := 2) rfl rfl).trans ?_
      refine g_congr (fun _ => ?_)
      refine (vr_steps 1 (x' := (52, [(2, v0), (0, v1), (0, v2)], [(0, v2), (2, M v0 28), (0, v1), (2, M v0 28)], (K, M))) rfl).trans ?_
      refine (v_ald (a := 8) rfl (by decide)).trans ?_
      refine g_congr (fun _ => ?_)
      refine (v_ast rfl).trans ?_
      refine g_congr (fun _ => ?_)
      exact vr_steps 3 rfl
    · refine (vr_steps 1 (x' := (17, [(2, v0), (0, v1), (0, v2)], [(2, v0)], (K, M))) rfl).trans ?_
      refine (v_getf (a := 7) (b := 28) (t := 2) rfl rfl).trans ?_
      refine g_congr (fun _ => ?_)
      refine (vr_steps 3 (x' := (23, [(2, v0), (0, v1), (0, v2)], [(0, w32 (v1 - 1)), (2, M v0 28)], (K, M))) rfl).trans ?_
      refine (v_ald (a := 8) rfl (by decide)).trans ?_
      refine g_congr (fun _ => ?_)
      refine (vr_steps 1 (x' := (25, [(2, v0), (0, v1), (0, v2)], [(2, v0), (0, M (M v0 28) (w32 (v1 - 1)))], (K, M))) rfl).trans ?_
      refine (v_getf (a := 7) (b := 28) (t := 2) rfl rfl).trans ?_
      refine g_congr (fun _ => ?_)
      refine (vr_steps 1 (x' := (29, [(2, v0), (0, v1), (0, v2)], [(0, v2), (2, M v0 28), (0, M (M v0 28) (w32 (v1 - 1)))], (K, M))) rfl).trans ?_
      refine (v_ald (a := 8) rfl (by decide)).trans ?_
      refine g_congr (fun _ => ?_)
      exact (v_stat (k := 150) (n := 2) (code := c_X7_reduces) (pc := 30) (len := 3) (L := [(2, v0), (0, v1), (0, v2)]) (st := [(0, M (M v0 28) v2), (0, M (M v0 28) (w32 (v1 - 1)))]) rfl (Nat.le_of_ble_eq_true rfl) (Nat.le_of_ble_eq_true rfl)).trans rfl
set_option maxRecDepth 100000 in
theorem e_X7_reduces_33 {sc : dS} {d : Nat} {K : List (Nat × Nat)} {M : dM} {v0 v1 v2 s0 : Int} : vr sc d c_X7_reduces (33, [(2, v0), (0, v1), (0, v2)], [(0, s0)], (K, M)) = (if s0 = 0 then (if og K 7 v0 28 = true then (if og K 7 v0 28 = true then (if ag K 8 (M v0 28) v2 = true then (if ag K 8 (M v0 28) v1 = true then vr sc d c_X7_reduces (4, [(2, v0), (0, w32 (v1 + 1)), (0, w32 (v2 + 1))], [], (K, d_up M (M v0 28) v1 (M (M v0 28) v2))) else none) else none) else none) else none) else vr sc d c_X7_reduces (4, [(2, v0), (0, w32 (v1 + (-1))), (0, w32 (v2 + 1))], [], (K, M))) := by
  refine (v_if (k := 0) (b := 42) (c := s0 = 0) rfl rfl).trans ?_
  refine c_congr (fun _ => ?_) (fun _ => ?_)
  · refine (vr_steps 1 (x' := (43, [(2, v0), (0, v1), (0, v2)], [(2, v0)], (K, M))) rfl).trans ?_
    refine (v_getf (a := 7) (b := 28) (t := 2) rfl rfl).trans ?_
    refine g_congr (fun _ => ?_)
    refine (vr_steps 2 (x' := (48, [(2, v0), (0, v1), (0, v2)], [(2, v0), (0, v1), (2, M v0 28)], (K, M))) rfl).trans ?_
    refine (v_getf (a := 7) (b := 28) (t := 2) rfl rfl).trans ?_
    refine g_congr (fun _ => ?_)
    refine (vr_steps 1 (x' := (52, [(2, v0), (0, v1), (0, v2)], [(0, v2), (2, M v0 28), (0, v1), (2, M v0 28)], (K, M))) rfl).trans ?_
    refine (v_ald (a := 8) rfl (by decide)).trans ?_
    refine g_congr (fun _ => ?_)
    refine (v_ast rfl).trans ?_
    refine g_congr (fun _ => ?_)
    exact vr_steps 3 rfl
  · exact vr_steps 4 rfl

noncomputable def c_X7_pulls : Nat → Option dI := d_mcode m_X7_pulls
set_option maxRecDepth 100000 in
theorem e_X7_pulls_0 {sc : dS} {d : Nat} {K : List (Nat × Nat)} {M : dM} {v0 : Int} : vr sc d c_X7_pulls (0, [(2, v0)], [], (K, M)) = (if rg K 7 v0 = true then (vc sc d 151 [(2, v0)] (K, M)).bind (fun r => vr sc d c_X7_pulls (4, [(2, v0)], r.1 ++ [], r.2)) else none) := by
  refine (vr_steps 1 (x' := (1, [(2, v0)], [(2, v0)], (K, M))) rfl).trans ?_
  exact (v_virt (k := 151) (n := 1) (tag := 7) (r := v0) (av := []) (code := c_X7_pulls) (pc := 1) (len := 3) (L := [(2, v0)]) (st := [(2, v0)]) rfl (Nat.le_of_ble_eq_true rfl) (Nat.le_of_ble_eq_true rfl) rfl).trans rfl
set_option maxRecDepth 100000 in
theorem e_X7_pulls_4 {sc : dS} {d : Nat} {K : List (Nat × Nat)} {M : dM} {v0 : Int} : vr sc d c_X7_pulls (4, [(2, v0)], [], (K, M)) = (if og K 7 v0 29 = true then (if (M v0 29) ≤ 1 then some ([], (K, M)) else (if og K 7 v0 28 = true then (if ag K 8 (M v0 28) 0 = true then (if og K 7 v0 28 = true then (if og K 7 v0 29 = true then (if ag K 8 (M v0 28) (w32 ((M v0 29) - 1)) = true then (vc sc d 150 [(0, M (M v0 28) 0), (0, M (M v0 28) (w32 ((M v0 29) - 1)))] (K, M)).bind (fun r => vr sc d c_X7_pulls (32, [(2, v0)], r.1 ++ [], r.2)) else none) else none) else none) else none) else none)) else none) := by
  refine (vr_steps 1 (x' := (5, [(2, v0)], [(2, v0)], (K, M))) rfl).trans ?_
  refine (v_getf (a := 7) (b := 29) (t := 0) rfl rfl).trans ?_
  refine g_congr (fun _ => ?_)
  refine (vr_steps 1 (x' := (9, [(2, v0)], [(0, 1), (0, M v0 29)], (K, M))) rfl).trans ?_
  refine (v_icmp (k := 5) (b := 49) (c := (M v0 29) ≤ 1) rfl rfl).trans ?_
  refine c_congr (fun _ => ?_) (fun _ => ?_)
  · exact vr_ret (ai := (35, 1, 0, 0, [])) rfl rfl
  · refine (vr_steps 1 (x' := (13, [(2, v0)], [(2, v0)], (K, M))) rfl).trans ?_
    refine (v_getf (a := 7) (b := 28) (t := 2) rfl rfl).trans ?_
    refine g_congr (fun _ => ?_)
    refine (vr_steps 1 (x' := (17, [(2, v0)], [(0, 0), (2, M v0 28)], (K, M))) rfl).trans ?_
    refine (v_ald (a := 8) rfl (by decide)).trans ?_
    refine g_congr (fun _ => ?_)
    refine (vr_steps 1 (x' := (19, [(2, v0)], [(2, v0), (0, M (M v0 28) 0)], (K, M))) rfl).trans ?_
    refine (v_getf (a := 7) (b := 28) (t := 2) rfl rfl).trans ?_
    refine g_congr (fun _ => ?_)
    refine (vr_steps 1 (x' := (23, [(2, v0)], [(2, v0), (2, M v0 28), (0, M (M v0 28) 0)], (K, M))) rfl).trans ?_
    refine (v_getf (a := 7) (b := 29) (t := 0) rfl rfl).trans ?_
    refine g_congr (fun _ => ?_)
    refine (vr_steps 2 (x' := (28, [(2, v0)], [(0, w32 ((M v0 29) - 1)), (2, M v0 28), (0, M (M v0 28) 0)], (K, M))) rfl).trans ?_
    refine (v_ald (a := 8) rfl (by decide)).trans ?_
    refine g_congr (fun _ => ?_)
    exact (v_stat (k := 150) (n := 2) (code := c_X7_pulls) (pc := 29) (len := 3) (L := [(2, v0)]) (st := [(0, M (M v0 28) (w32 ((M v0 29) - 1))), (0, M (M v0 28) 0)]) rfl (Nat.le_of_ble_eq_true rfl) (Nat.le_of_ble_eq_true rfl)).trans rfl
set_option maxRecDepth 100000 in
theorem e_X7_pulls_32 {sc : dS} {d : Nat} {K : List (Nat × Nat)} {M : dM} {v0 s0 : Int} : vr sc d c_X7_pulls (32, [(2, v0)], [(0, s0)], (K, M)) = (if s0 = 0 then some ([], (K, M)) else (if og K 7 v0 29 = true then (if rg K 7 v0 = true then (vc sc d 153 [(2, v0), (0, 1), (0, w32 ((M v0 29) - 2))] (K, M)).bind (fun r => vr sc d c_X7_pulls (46, [(2, v0)], r.1 ++ [], r.2)) else none) else none)) := by
  refine (v_if (k := 0) (b := 49) (c := s0 = 0) rfl rfl).trans ?_
  refine c_congr (fun _ => ?_) (fun _ => ?_)
  · exact vr_ret (ai := (35, 1, 0, 0, [])) rfl rfl
  · refine (vr_steps 3 (x' := (38, [(2, v0)], [(2, v0), (0, 1), (2, v0)], (K, M))) rfl).trans ?_
    refine (v_getf (a := 7) (b := 29) (t := 0) rfl rfl).trans ?_
    refine g_congr (fun _ => ?_)
    refine (vr_steps 2 (x' := (43, [(2, v0)], [(0, w32 ((M v0 29) - 2)), (0, 1), (2, v0)], (K, M))) rfl).trans ?_
    exact (v_virt (k := 153) (n := 3) (tag := 7) (r := v0) (av := [(0, 1), (0, w32 ((M v0 29) - 2))]) (code := c_X7_pulls) (pc := 43) (len := 3) (L := [(2, v0)]) (st := [(0, w32 ((M v0 29) - 2)), (0, 1), (2, v0)]) rfl (Nat.le_of_ble_eq_true rfl) (Nat.le_of_ble_eq_true rfl) rfl).trans rfl
set_option maxRecDepth 100000 in
theorem e_X7_pulls_46 {sc : dS} {d : Nat} {K : List (Nat × Nat)} {M : dM} {v0 : Int} : vr sc d c_X7_pulls (46, [(2, v0)], [], (K, M)) = (vr sc d c_X7_pulls (4, [(2, v0)], [], (K, M))) := by
  exact vr_steps 1 rfl

noncomputable def c_X7_cuts : Nat → Option dI := d_mcode m_X7_cuts
set_option maxRecDepth 100000 in
theorem e_X7_cuts_0 {sc : dS} {d : Nat} {K : List (Nat × Nat)} {M : dM} {v0 v1 v2 : Int} {q3 : dV} : vr sc d c_X7_cuts (0, [(2, v0), (0, v1), (0, v2), q3], [], (K, M)) = (vr sc d c_X7_cuts (2, [(2, v0), (0, v1), (0, v2), (0, 0)], [], (K, M))) := by
  exact vr_steps 2 rfl
set_option maxRecDepth 100000 in
theorem e_X7_cuts_2 {sc : dS} {d : Nat} {K : List (Nat × Nat)} {M : dM} {v0 v1 v2 v3 : Int} : vr sc d c_X7_cuts (2, [(2, v0), (0, v1), (0, v2), (0, v3)], [], (K, M)) = (if v2 ≤ v3 then (if og K 7 v0 29 = true then (if -2147483648 ≤ v2 ∧ v2 < 2147483648 then some ([], (K, d_up M v0 29 v2)) else none) else none) else (if og K 7 v0 28 = true then (if og K 7 v0 28 = true then (if ag K 8 (M v0 28) (w32 (v1 + v3)) = true then (if ag K 8 (M v0 28) v3 = true then vr sc d c_X7_cuts (2, [(2, v0), (0, v1), (0, v2), (0, w32 (v3 + 1))], [], (K, d_up M (M v0 28) v3 (M (M v0 28) (w32 (v1 + v3))))) else none) else none) else none) else none)) := by
  refine (vr_steps 2 (x' := (4, [(2, v0), (0, v1), (0, v2), (0, v3)], [(0, v2), (0, v3)], (K, M))) rfl).trans ?_
  refine (v_icmp (k := 3) (b := 27) (c := v2 ≤ v3) rfl rfl).trans ?_
  refine c_congr (fun _ => ?_) (fun _ => ?_)
  · refine (vr_steps 2 (x' := (29, [(2, v0), (0, v1), (0, v2), (0, v3)], [(0, v2), (2, v0)], (K, M))) rfl).trans ?_
    refine (v_putf (a := 7) (b := 29) (t := 0) rfl rfl (by intro q; cases q)).trans ?_
    refine g_congr (fun _ => ?_)
    refine p_congr (fun _ => ?_)
    exact vr_ret (ai := (35, 1, 0, 0, [])) rfl rfl
  · refine (vr_steps 1 (x' := (8, [(2, v0), (0, v1), (0, v2), (0, v3)], [(2, v0)], (K, M))) rfl).trans ?_
    refine (v_getf (a := 7) (b := 28) (t := 2) rfl rfl).trans ?_
    refine g_congr (fun _ => ?_)
    refine (vr_steps 2 (x' := (13, [(2, v0), (0, v1), (0, v2), (0, v3)], [(2, v0), (0, v3), (2, M v0 28)], (K, M))) rfl).trans ?_
    refine (v_getf (a := 7) (b := 28) (t := 2) rfl rfl).trans ?_
    refine g_congr (fun _ => ?_)
    refine (vr_steps 3 (x' := (19, [(2, v0), (0, v1), (0, v2), (0, v3)], [(0, w32 (v1 + v3)), (2, M v0 28), (0, v3), (2, M v0 28)], (K, M))) rfl).trans ?_
    refine (v_ald (a := 8) rfl (by decide)).trans ?_
    refine g_congr (fun _ => ?_)
    refine (v_ast rfl).trans ?_
    refine g_congr (fun _ => ?_)
    exact vr_steps 2 rfl

noncomputable def c_X7_pulledSize : Nat → Option dI := d_mcode m_X7_pulledSize
set_option maxRecDepth 100000 in
theorem e_X7_pulledSize_0 {sc : dS} {d : Nat} {K : List (Nat × Nat)} {M : dM} {v0 : Int} : vr sc d c_X7_pulledSize (0, [(2, v0)], [], (K, M)) = (if rg K 7 v0 = true then (vc sc d 152 [(2, v0)] (K, M)).bind (fun r => vr sc d c_X7_pulledSize (4, [(2, v0)], r.1 ++ [], r.2)) else none) := by
  refine (vr_steps 1 (x' := (1, [(2, v0)], [(2, v0)], (K, M))) rfl).trans ?_
  exact (v_virt (k := 152) (n := 1) (tag := 7) (r := v0) (av := []) (code := c_X7_pulledSize) (pc := 1) (len := 3) (L := [(2, v0)]) (st := [(2, v0)]) rfl (Nat.le_of_ble_eq_true rfl) (Nat.le_of_ble_eq_true rfl) rfl).trans rfl
set_option maxRecDepth 100000 in
theorem e_X7_pulledSize_4 {sc : dS} {d : Nat} {K : List (Nat × Nat)} {M : dM} {v0 : Int} : vr sc d c_X7_pulledSize (4, [(2, v0)], [], (K, M)) = (if og K 7 v0 29 = true then some ([(0, M v0 29)], (K, M)) else none) := by
  refine (vr_steps 1 (x' := (5, [(2, v0)], [(2, v0)], (K, M))) rfl).trans ?_
  refine (v_getf (a := 7) (b := 29) (t := 0) rfl rfl).trans ?_
  refine g_congr (fun _ => ?_)
  exact vr_ret (ai := (35, 1, 1, 0, [])) rfl rfl

