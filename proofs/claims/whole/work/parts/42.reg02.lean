noncomputable def c_X6_lasts : Nat → Option dI := d_mcode m_X6_lasts
set_option maxRecDepth 100000 in
theorem e_X6_lasts_0 {sc : dS} {d : Nat} {K : List (Nat × Nat)} {M : dM} {v0 v1 : Int} {q2 : dV} : vr sc d c_X6_lasts (0, [(2, v0), (0, v1), q2], [], (K, M)) = ((vc sc d 109 [(0, v1)] (K, M)).bind (fun r => vr sc d c_X6_lasts (4, [(2, v0), (0, v1), q2], r.1 ++ [], r.2))) := by
  refine (vr_steps 1 (x' := (1, [(2, v0), (0, v1), q2], [(0, v1)], (K, M))) rfl).trans ?_
  exact (v_stat (k := 109) (n := 1) (code := c_X6_lasts) (pc := 1) (len := 3) (L := [(2, v0), (0, v1), q2]) (st := [(0, v1)]) rfl (Nat.le_of_ble_eq_true rfl) (Nat.le_of_ble_eq_true rfl)).trans rfl
set_option maxRecDepth 100000 in
theorem e_X6_lasts_4 {sc : dS} {d : Nat} {K : List (Nat × Nat)} {M : dM} {v0 v1 s0 : Int} {q2 : dV} : vr sc d c_X6_lasts (4, [(2, v0), (0, v1), q2], [(0, s0)], (K, M)) = (if ¬ s0 = 0 then (if og K 6 v0 0 = true then (if rg K 5 (M v0 0) = true then (vc sc d 55 [(2, M v0 0), (0, v1)] (K, M)).bind (fun r => vr sc d c_X6_lasts (18, [(2, v0), (0, v1), q2], r.1 ++ [], r.2)) else none) else none) else some ([(0, (-2))], (K, M))) := by
  refine (v_if (k := 1) (b := 10) (c := ¬ s0 = 0) rfl rfl).trans ?_
  refine c_congr (fun _ => ?_) (fun _ => ?_)
  · refine (vr_steps 1 (x' := (11, [(2, v0), (0, v1), q2], [(2, v0)], (K, M))) rfl).trans ?_
    refine (v_getf (a := 6) (b := 0) (t := 2) rfl rfl).trans ?_
    refine g_congr (fun _ => ?_)
    refine (vr_steps 1 (x' := (15, [(2, v0), (0, v1), q2], [(0, v1), (2, M v0 0)], (K, M))) rfl).trans ?_
    exact (v_virt (k := 55) (n := 2) (tag := 5) (r := M v0 0) (av := [(0, v1)]) (code := c_X6_lasts) (pc := 15) (len := 3) (L := [(2, v0), (0, v1), q2]) (st := [(0, v1), (2, M v0 0)]) rfl (Nat.le_of_ble_eq_true rfl) (Nat.le_of_ble_eq_true rfl) rfl).trans rfl
  · refine (vr_steps 1 (x' := (9, [(2, v0), (0, v1), q2], [(0, (-2))], (K, M))) rfl).trans ?_
    exact vr_ret (ai := (35, 1, 1, 0, [])) rfl rfl
set_option maxRecDepth 100000 in
theorem e_X6_lasts_18 {sc : dS} {d : Nat} {K : List (Nat × Nat)} {M : dM} {v0 v1 s0 : Int} {q2 : dV} : vr sc d c_X6_lasts (18, [(2, v0), (0, v1), q2], [(0, s0)], (K, M)) = (if ¬ s0 = 0 then (if og K 6 v0 1 = true then (if og K 6 v0 0 = true then (if rg K 5 (M v0 1) = true then (vc sc d 52 [(2, M v0 1), (2, M v0 0)] (K, M)).bind (fun r => vr sc d c_X6_lasts (35, [(2, v0), (0, v1), q2], r.1 ++ [], r.2)) else none) else none) else none) else some ([(0, (-3))], (K, M))) := by
  refine (v_if (k := 1) (b := 24) (c := ¬ s0 = 0) rfl rfl).trans ?_
  refine c_congr (fun _ => ?_) (fun _ => ?_)
  · refine (vr_steps 1 (x' := (25, [(2, v0), (0, v1), q2], [(2, v0)], (K, M))) rfl).trans ?_
    refine (v_getf (a := 6) (b := 1) (t := 2) rfl rfl).trans ?_
    refine g_congr (fun _ => ?_)
    refine (vr_steps 1 (x' := (29, [(2, v0), (0, v1), q2], [(2, v0), (2, M v0 1)], (K, M))) rfl).trans ?_
    refine (v_getf (a := 6) (b := 0) (t := 2) rfl rfl).trans ?_
    refine g_congr (fun _ => ?_)
    exact (v_virt (k := 52) (n := 2) (tag := 5) (r := M v0 1) (av := [(2, M v0 0)]) (code := c_X6_lasts) (pc := 32) (len := 3) (L := [(2, v0), (0, v1), q2]) (st := [(2, M v0 0), (2, M v0 1)]) rfl (Nat.le_of_ble_eq_true rfl) (Nat.le_of_ble_eq_true rfl) rfl).trans rfl
  · refine (vr_steps 1 (x' := (23, [(2, v0), (0, v1), q2], [(0, (-3))], (K, M))) rfl).trans ?_
    exact vr_ret (ai := (35, 1, 1, 0, [])) rfl rfl
set_option maxRecDepth 100000 in
theorem e_X6_lasts_35 {sc : dS} {d : Nat} {K : List (Nat × Nat)} {M : dM} {v0 v1 : Int} {q2 : dV} : vr sc d c_X6_lasts (35, [(2, v0), (0, v1), q2], [], (K, M)) = (vr sc d c_X6_lasts (37, [(2, v0), (0, v1), (0, 1)], [], (K, M))) := by
  exact vr_steps 2 rfl
set_option maxRecDepth 100000 in
theorem e_X6_lasts_37 {sc : dS} {d : Nat} {K : List (Nat × Nat)} {M : dM} {v0 v1 v2 : Int} : vr sc d c_X6_lasts (37, [(2, v0), (0, v1), (0, v2)], [], (K, M)) = (if 40 < v2 then some ([(0, (-1))], (K, M)) else (if og K 6 v0 4 = true then (if og K 6 v0 1 = true then (if rg K 2 (M v0 4) = true then (vc sc d 42 [(2, M v0 4), (2, M v0 1)] (K, M)).bind (fun r => vr sc d c_X6_lasts (54, [(2, v0), (0, v1), (0, v2)], r.1 ++ [], r.2)) else none) else none) else none)) := by
  refine (vr_steps 2 (x' := (40, [(2, v0), (0, v1), (0, v2)], [(0, 40), (0, v2)], (K, M))) rfl).trans ?_
  refine (v_icmp (k := 4) (b := 74) (c := 40 < v2) rfl rfl).trans ?_
  refine c_congr (fun _ => ?_) (fun _ => ?_)
  · refine (vr_steps 1 (x' := (75, [(2, v0), (0, v1), (0, v2)], [(0, (-1))], (K, M))) rfl).trans ?_
    exact vr_ret (ai := (35, 1, 1, 0, [])) rfl rfl
  · refine (vr_steps 1 (x' := (44, [(2, v0), (0, v1), (0, v2)], [(2, v0)], (K, M))) rfl).trans ?_
    refine (v_getf (a := 6) (b := 4) (t := 2) rfl rfl).trans ?_
    refine g_congr (fun _ => ?_)
    refine (vr_steps 1 (x' := (48, [(2, v0), (0, v1), (0, v2)], [(2, v0), (2, M v0 4)], (K, M))) rfl).trans ?_
    refine (v_getf (a := 6) (b := 1) (t := 2) rfl rfl).trans ?_
    refine g_congr (fun _ => ?_)
    exact (v_virt (k := 42) (n := 2) (tag := 2) (r := M v0 4) (av := [(2, M v0 1)]) (code := c_X6_lasts) (pc := 51) (len := 3) (L := [(2, v0), (0, v1), (0, v2)]) (st := [(2, M v0 1), (2, M v0 4)]) rfl (Nat.le_of_ble_eq_true rfl) (Nat.le_of_ble_eq_true rfl) rfl).trans rfl
set_option maxRecDepth 100000 in
theorem e_X6_lasts_54 {sc : dS} {d : Nat} {K : List (Nat × Nat)} {M : dM} {v0 v1 v2 s0 : Int} : vr sc d c_X6_lasts (54, [(2, v0), (0, v1), (0, v2)], [(0, s0)], (K, M)) = (if og K 6 v0 1 = true then (if rg K 5 (M v0 1) = true then (vc sc d 55 [(2, M v0 1), (0, v1)] (K, M)).bind (fun r => vr sc d c_X6_lasts (63, [(2, v0), (0, v1), (0, v2)], r.1 ++ [], r.2)) else none) else none) := by
  refine (vr_steps 2 (x' := (56, [(2, v0), (0, v1), (0, v2)], [(2, v0)], (K, M))) rfl).trans ?_
  refine (v_getf (a := 6) (b := 1) (t := 2) rfl rfl).trans ?_
  refine g_congr (fun _ => ?_)
  refine (vr_steps 1 (x' := (60, [(2, v0), (0, v1), (0, v2)], [(0, v1), (2, M v0 1)], (K, M))) rfl).trans ?_
  exact (v_virt (k := 55) (n := 2) (tag := 5) (r := M v0 1) (av := [(0, v1)]) (code := c_X6_lasts) (pc := 60) (len := 3) (L := [(2, v0), (0, v1), (0, v2)]) (st := [(0, v1), (2, M v0 1)]) rfl (Nat.le_of_ble_eq_true rfl) (Nat.le_of_ble_eq_true rfl) rfl).trans rfl
set_option maxRecDepth 100000 in
theorem e_X6_lasts_63 {sc : dS} {d : Nat} {K : List (Nat × Nat)} {M : dM} {v0 v1 v2 s0 : Int} : vr sc d c_X6_lasts (63, [(2, v0), (0, v1), (0, v2)], [(0, s0)], (K, M)) = (if ¬ s0 = 0 then vr sc d c_X6_lasts (37, [(2, v0), (0, v1), (0, w32 (v2 + 1))], [], (K, M)) else some ([(0, v2)], (K, M))) := by
  refine (v_if (k := 1) (b := 68) (c := ¬ s0 = 0) rfl rfl).trans ?_
  refine c_congr (fun _ => ?_) (fun _ => ?_)
  · exact vr_steps 2 rfl
  · refine (vr_steps 1 (x' := (67, [(2, v0), (0, v1), (0, v2)], [(0, v2)], (K, M))) rfl).trans ?_
    exact vr_ret (ai := (35, 1, 1, 0, [])) rfl rfl

noncomputable def c_X6_best : Nat → Option dI := d_mcode m_X6_best
set_option maxRecDepth 100000 in
theorem e_X6_best_0 {sc : dS} {d : Nat} {K : List (Nat × Nat)} {M : dM} {v0 v1 v2 : Int} {q3 q4 q5 : dV} : vr sc d c_X6_best (0, [(2, v0), (0, v1), (0, v2), q3, q4, q5], [], (K, M)) = ((vc sc d 111 [(0, v1)] (K, M)).bind (fun r => vr sc d c_X6_best (4, [(2, v0), (0, v1), (0, v2), q3, q4, q5], r.1 ++ [], r.2))) := by
  refine (vr_steps 1 (x' := (1, [(2, v0), (0, v1), (0, v2), q3, q4, q5], [(0, v1)], (K, M))) rfl).trans ?_
  exact (v_stat (k := 111) (n := 1) (code := c_X6_best) (pc := 1) (len := 3) (L := [(2, v0), (0, v1), (0, v2), q3, q4, q5]) (st := [(0, v1)]) rfl (Nat.le_of_ble_eq_true rfl) (Nat.le_of_ble_eq_true rfl)).trans rfl
set_option maxRecDepth 100000 in
theorem e_X6_best_4 {sc : dS} {d : Nat} {K : List (Nat × Nat)} {M : dM} {v0 v1 v2 s0 : Int} {q3 q4 q5 : dV} : vr sc d c_X6_best (4, [(2, v0), (0, v1), (0, v2), q3, q4, q5], [(0, s0)], (K, M)) = (if s0 = 0 then some ([(0, (-2))], (K, M)) else (vc sc d 107 [(0, v2), (0, 1)] (K, M)).bind (fun r => vr sc d c_X6_best (12, [(2, v0), (0, v1), (0, v2), q3, q4, q5], r.1 ++ [], r.2))) := by
  refine (v_if (k := 0) (b := 15) (c := s0 = 0) rfl rfl).trans ?_
  refine c_congr (fun _ => ?_) (fun _ => ?_)
  · refine (vr_steps 1 (x' := (17, [(2, v0), (0, v1), (0, v2), q3, q4, q5], [(0, (-2))], (K, M))) rfl).trans ?_
    exact vr_ret (ai := (35, 1, 1, 0, [])) rfl rfl
  · refine (vr_steps 2 (x' := (9, [(2, v0), (0, v1), (0, v2), q3, q4, q5], [(0, 1), (0, v2)], (K, M))) rfl).trans ?_
    exact (v_stat (k := 107) (n := 2) (code := c_X6_best) (pc := 9) (len := 3) (L := [(2, v0), (0, v1), (0, v2), q3, q4, q5]) (st := [(0, 1), (0, v2)]) rfl (Nat.le_of_ble_eq_true rfl) (Nat.le_of_ble_eq_true rfl)).trans rfl
set_option maxRecDepth 100000 in
theorem e_X6_best_12 {sc : dS} {d : Nat} {K : List (Nat × Nat)} {M : dM} {v0 v1 v2 s0 : Int} {q3 q4 q5 : dV} : vr sc d c_X6_best (12, [(2, v0), (0, v1), (0, v2), q3, q4, q5], [(0, s0)], (K, M)) = (if ¬ s0 = 0 then (if rg K 6 v0 = true then (vc sc d 74 [(2, v0), (0, v1)] (K, M)).bind (fun r => vr sc d c_X6_best (23, [(2, v0), (0, v1), (0, v2), q3, q4, q5], r.1 ++ [], r.2)) else none) else some ([(0, (-2))], (K, M))) := by
  refine (v_if (k := 1) (b := 18) (c := ¬ s0 = 0) rfl rfl).trans ?_
  refine c_congr (fun _ => ?_) (fun _ => ?_)
  · refine (vr_steps 2 (x' := (20, [(2, v0), (0, v1), (0, v2), q3, q4, q5], [(0, v1), (2, v0)], (K, M))) rfl).trans ?_
    exact (v_virt (k := 74) (n := 2) (tag := 6) (r := v0) (av := [(0, v1)]) (code := c_X6_best) (pc := 20) (len := 3) (L := [(2, v0), (0, v1), (0, v2), q3, q4, q5]) (st := [(0, v1), (2, v0)]) rfl (Nat.le_of_ble_eq_true rfl) (Nat.le_of_ble_eq_true rfl) rfl).trans rfl
  · refine (vr_steps 1 (x' := (17, [(2, v0), (0, v1), (0, v2), q3, q4, q5], [(0, (-2))], (K, M))) rfl).trans ?_
    exact vr_ret (ai := (35, 1, 1, 0, [])) rfl rfl
set_option maxRecDepth 100000 in
theorem e_X6_best_23 {sc : dS} {d : Nat} {K : List (Nat × Nat)} {M : dM} {v0 v1 v2 s0 : Int} {q3 q4 q5 : dV} : vr sc d c_X6_best (23, [(2, v0), (0, v1), (0, v2), q3, q4, q5], [(0, s0)], (K, M)) = (if s0 = 0 then (if rg K 6 v0 = true then (vc sc d 79 [(2, v0)] (K, M)).bind (fun r => vr sc d c_X6_best (34, [(2, v0), (0, v1), (0, v2), (0, s0), q4, q5], r.1 ++ [], r.2)) else none) else some ([(0, s0)], (K, M))) := by
  refine (vr_steps 2 (x' := (25, [(2, v0), (0, v1), (0, v2), (0, s0), q4, q5], [(0, s0)], (K, M))) rfl).trans ?_
  refine (v_if (k := 0) (b := 30) (c := s0 = 0) rfl rfl).trans ?_
  refine c_congr (fun _ => ?_) (fun _ => ?_)
  · refine (vr_steps 1 (x' := (31, [(2, v0), (0, v1), (0, v2), (0, s0), q4, q5], [(2, v0)], (K, M))) rfl).trans ?_
    exact (v_virt (k := 79) (n := 1) (tag := 6) (r := v0) (av := []) (code := c_X6_best) (pc := 31) (len := 3) (L := [(2, v0), (0, v1), (0, v2), (0, s0), q4, q5]) (st := [(2, v0)]) rfl (Nat.le_of_ble_eq_true rfl) (Nat.le_of_ble_eq_true rfl) rfl).trans rfl
  · refine (vr_steps 1 (x' := (29, [(2, v0), (0, v1), (0, v2), (0, s0), q4, q5], [(0, s0)], (K, M))) rfl).trans ?_
    exact vr_ret (ai := (35, 1, 1, 0, [])) rfl rfl
set_option maxRecDepth 100000 in
theorem e_X6_best_34 {sc : dS} {d : Nat} {K : List (Nat × Nat)} {M : dM} {v0 v1 v2 v3 : Int} {q4 q5 : dV} : vr sc d c_X6_best (34, [(2, v0), (0, v1), (0, v2), (0, v3), q4, q5], [], (K, M)) = (if og K 6 v0 11 = true then (if lg_ K (M v0 11) = true then vr sc d c_X6_best (43, [(2, v0), (0, v1), (0, v2), (0, v3), (0, w32 ((kn K (M v0 11)) - 1)), q5], [], (K, M)) else none) else none) := by
  refine (vr_steps 1 (x' := (35, [(2, v0), (0, v1), (0, v2), (0, v3), q4, q5], [(2, v0)], (K, M))) rfl).trans ?_
  refine (v_getf (a := 6) (b := 11) (t := 2) rfl rfl).trans ?_
  refine g_congr (fun _ => ?_)
  refine (v_alen rfl).trans ?_
  refine g_congr (fun _ => ?_)
  exact vr_steps 3 rfl
set_option maxRecDepth 100000 in
theorem e_X6_best_43 {sc : dS} {d : Nat} {K : List (Nat × Nat)} {M : dM} {v0 v1 v2 v3 v4 : Int} {q5 : dV} : vr sc d c_X6_best (43, [(2, v0), (0, v1), (0, v2), (0, v3), (0, v4), q5], [], (K, M)) = (if v4 < 0 then (if ¬ v2 = 0 then (if og K 6 v0 11 = true then (if ag K 8 (M v0 11) 0 = true then some ([(0, M (M v0 11) 0)], (K, M)) else none) else none) else (if rg K 6 v0 = true then (vc sc d 82 [(2, v0)] (K, M)).bind (fun r => vr sc d c_X6_best (95, [(2, v0), (0, v1), (0, v2), (0, v3), (0, v4), q5], r.1 ++ [], r.2)) else none)) else (if rg K 6 v0 = true then (vc sc d 80 [(2, v0), (0, v4)] (K, M)).bind (fun r => vr sc d c_X6_best (54, [(2, v0), (0, v1), (0, v2), (0, v3), (0, v4), q5], r.1 ++ [], r.2)) else none)) := by
  refine (vr_steps 1 (x' := (45, [(2, v0), (0, v1), (0, v2), (0, v3), (0, v4), q5], [(0, v4)], (K, M))) rfl).trans ?_
  refine (v_if (k := 2) (b := 87) (c := v4 < 0) rfl rfl).trans ?_
  refine c_congr (fun _ => ?_) (fun _ => ?_)
  · refine (vr_steps 1 (x' := (88, [(2, v0), (0, v1), (0, v2), (0, v3), (0, v4), q5], [(0, v2)], (K, M))) rfl).trans ?_
    refine (v_if (k := 1) (b := 98) (c := ¬ v2 = 0) rfl rfl).trans ?_
    refine c_congr (fun _ => ?_) (fun _ => ?_)
    · refine (vr_steps 1 (x' := (99, [(2, v0), (0, v1), (0, v2), (0, v3), (0, v4), q5], [(2, v0)], (K, M))) rfl).trans ?_
      refine (v_getf (a := 6) (b := 11) (t := 2) rfl rfl).trans ?_
      refine g_congr (fun _ => ?_)
      refine (vr_steps 1 (x' := (103, [(2, v0), (0, v1), (0, v2), (0, v3), (0, v4), q5], [(0, 0), (2, M v0 11)], (K, M))) rfl).trans ?_
      refine (v_ald (a := 8) rfl (by decide)).trans ?_
      refine g_congr (fun _ => ?_)
      exact vr_ret (ai := (35, 1, 1, 0, [])) rfl rfl
    · refine (vr_steps 1 (x' := (92, [(2, v0), (0, v1), (0, v2), (0, v3), (0, v4), q5], [(2, v0)], (K, M))) rfl).trans ?_
      exact (v_virt (k := 82) (n := 1) (tag := 6) (r := v0) (av := []) (code := c_X6_best) (pc := 92) (len := 3) (L := [(2, v0), (0, v1), (0, v2), (0, v3), (0, v4), q5]) (st := [(2, v0)]) rfl (Nat.le_of_ble_eq_true rfl) (Nat.le_of_ble_eq_true rfl) rfl).trans rfl
  · refine (vr_steps 2 (x' := (51, [(2, v0), (0, v1), (0, v2), (0, v3), (0, v4), q5], [(0, v4), (2, v0)], (K, M))) rfl).trans ?_
    exact (v_virt (k := 80) (n := 2) (tag := 6) (r := v0) (av := [(0, v4)]) (code := c_X6_best) (pc := 51) (len := 3) (L := [(2, v0), (0, v1), (0, v2), (0, v3), (0, v4), q5]) (st := [(0, v4), (2, v0)]) rfl (Nat.le_of_ble_eq_true rfl) (Nat.le_of_ble_eq_true rfl) rfl).trans rfl
set_option maxRecDepth 100000 in
theorem e_X6_best_54 {sc : dS} {d : Nat} {K : List (Nat × Nat)} {M : dM} {v0 v1 v2 v3 v4 s0 : Int} {q5 : dV} : vr sc d c_X6_best (54, [(2, v0), (0, v1), (0, v2), (0, v3), (0, v4), q5], [(0, s0)], (K, M)) = (if og K 6 v0 11 = true then (if ¬ s0 = (-1) then (if rg K 6 v0 = true then (vc sc d 81 [(2, v0), (0, v4), (0, s0)] (K, M)).bind (fun r => vr sc d c_X6_best (80, [(2, v0), (0, v1), (0, v2), (0, v3), (0, v4), (0, s0)], r.1 ++ [(0, v4), (2, M v0 11)], r.2)) else none) else vr sc d c_X6_best (80, [(2, v0), (0, v1), (0, v2), (0, v3), (0, v4), (0, s0)], [(0, 0), (0, v4), (2, M v0 11)], (K, M))) else none) := by
  refine (vr_steps 2 (x' := (57, [(2, v0), (0, v1), (0, v2), (0, v3), (0, v4), (0, s0)], [(2, v0)], (K, M))) rfl).trans ?_
  refine (v_getf (a := 6) (b := 11) (t := 2) rfl rfl).trans ?_
  refine g_congr (fun _ => ?_)
  refine (vr_steps 3 (x' := (65, [(2, v0), (0, v1), (0, v2), (0, v3), (0, v4), (0, s0)], [(0, (-1)), (0, s0), (0, v4), (2, M v0 11)], (K, M))) rfl).trans ?_
  refine (v_icmp (k := 1) (b := 72) (c := ¬ s0 = (-1)) rfl rfl).trans ?_
  refine c_congr (fun _ => ?_) (fun _ => ?_)
  · refine (vr_steps 3 (x' := (77, [(2, v0), (0, v1), (0, v2), (0, v3), (0, v4), (0, s0)], [(0, s0), (0, v4), (2, v0), (0, v4), (2, M v0 11)], (K, M))) rfl).trans ?_
    exact (v_virt (k := 81) (n := 3) (tag := 6) (r := v0) (av := [(0, v4), (0, s0)]) (code := c_X6_best) (pc := 77) (len := 3) (L := [(2, v0), (0, v1), (0, v2), (0, v3), (0, v4), (0, s0)]) (st := [(0, s0), (0, v4), (2, v0), (0, v4), (2, M v0 11)]) rfl (Nat.le_of_ble_eq_true rfl) (Nat.le_of_ble_eq_true rfl) rfl).trans rfl
  · exact vr_steps 2 rfl
set_option maxRecDepth 100000 in
theorem e_X6_best_80 {sc : dS} {d : Nat} {K : List (Nat × Nat)} {M : dM} {v0 v1 v2 v3 v4 v5 s0 s1 s2 : Int} : vr sc d c_X6_best (80, [(2, v0), (0, v1), (0, v2), (0, v3), (0, v4), (0, v5)], [(0, s2), (0, s1), (2, s0)], (K, M)) = (if ag K 8 s0 s1 = true then vr sc d c_X6_best (43, [(2, v0), (0, v1), (0, v2), (0, v3), (0, w32 (v4 + (-1))), (0, v5)], [], (K, d_up M s0 s1 s2)) else none) := by
  refine (v_ast rfl).trans ?_
  refine g_congr (fun _ => ?_)
  exact vr_steps 2 rfl
set_option maxRecDepth 100000 in
theorem e_X6_best_95 {sc : dS} {d : Nat} {K : List (Nat × Nat)} {M : dM} {v0 v1 v2 v3 v4 s0 : Int} {q5 : dV} : vr sc d c_X6_best (95, [(2, v0), (0, v1), (0, v2), (0, v3), (0, v4), q5], [(0, s0)], (K, M)) = (some ([(0, s0)], (K, M))) := by
  refine (vr_steps 1 (x' := (104, [(2, v0), (0, v1), (0, v2), (0, v3), (0, v4), q5], [(0, s0)], (K, M))) rfl).trans ?_
  exact vr_ret (ai := (35, 1, 1, 0, [])) rfl rfl

noncomputable def c_X6_findGoodFeet : Nat → Option dI := d_mcode m_X6_findGoodFeet
set_option maxRecDepth 100000 in
theorem e_X6_findGoodFeet_0 {sc : dS} {d : Nat} {K : List (Nat × Nat)} {M : dM} {v0 : Int} {q1 q2 q3 : dV} : vr sc d c_X6_findGoodFeet (0, [(2, v0), q1, q2, q3], [], (K, M)) = (vr sc d c_X6_findGoodFeet (2, [(2, v0), (0, 0), q2, q3], [], (K, M))) := by
  exact vr_steps 2 rfl
set_option maxRecDepth 100000 in
theorem e_X6_findGoodFeet_2 {sc : dS} {d : Nat} {K : List (Nat × Nat)} {M : dM} {v0 v1 : Int} {q2 q3 : dV} : vr sc d c_X6_findGoodFeet (2, [(2, v0), (0, v1), q2, q3], [], (K, M)) = (if og K 6 v0 0 = true then (if og K 5 (M v0 0) 3 = true then (if (M (M v0 0) 3) ≤ v1 then some ([], (K, M)) else (if og K 6 v0 8 = true then (if og K 6 v0 0 = true then (if og K 5 (M v0 0) 4 = true then (if ag K 8 (M (M v0 0) 4) v1 = true then (if og K 6 v0 7 = true then (if rg K 0 (M v0 8) = true then (vc sc d 5 [(2, M v0 8), (0, M (M (M v0 0) 4) v1), (2, M v0 7)] (K, M)).bind (fun r => vr sc d c_X6_findGoodFeet (33, [(2, v0), (0, v1), q2, q3], r.1 ++ [], r.2)) else none) else none) else none) else none) else none) else none)) else none) else none) := by
  refine (vr_steps 2 (x' := (4, [(2, v0), (0, v1), q2, q3], [(2, v0), (0, v1)], (K, M))) rfl).trans ?_
  refine (v_getf (a := 6) (b := 0) (t := 2) rfl rfl).trans ?_
  refine g_congr (fun _ => ?_)
  refine (v_getf (a := 5) (b := 3) (t := 0) rfl rfl).trans ?_
  refine g_congr (fun _ => ?_)
  refine (v_icmp (k := 3) (b := 110) (c := (M (M v0 0) 3) ≤ v1) rfl rfl).trans ?_
  refine c_congr (fun _ => ?_) (fun _ => ?_)
  · exact vr_ret (ai := (35, 1, 0, 0, [])) rfl rfl
  · refine (vr_steps 1 (x' := (14, [(2, v0), (0, v1), q2, q3], [(2, v0)], (K, M))) rfl).trans ?_
    refine (v_getf (a := 6) (b := 8) (t := 2) rfl rfl).trans ?_
    refine g_congr (fun _ => ?_)
    refine (vr_steps 1 (x' := (18, [(2, v0), (0, v1), q2, q3], [(2, v0), (2, M v0 8)], (K, M))) rfl).trans ?_
    refine (v_getf (a := 6) (b := 0) (t := 2) rfl rfl).trans ?_
    refine g_congr (fun _ => ?_)
    refine (v_getf (a := 5) (b := 4) (t := 2) rfl rfl).trans ?_
    refine g_congr (fun _ => ?_)
    refine (vr_steps 1 (x' := (25, [(2, v0), (0, v1), q2, q3], [(0, v1), (2, M (M v0 0) 4), (2, M v0 8)], (K, M))) rfl).trans ?_
    refine (v_ald (a := 8) rfl (by decide)).trans ?_
    refine g_congr (fun _ => ?_)
    refine (vr_steps 1 (x' := (27, [(2, v0), (0, v1), q2, q3], [(2, v0), (0, M (M (M v0 0) 4) v1), (2, M v0 8)], (K, M))) rfl).trans ?_
    refine (v_getf (a := 6) (b := 7) (t := 2) rfl rfl).trans ?_
    refine g_congr (fun _ => ?_)
    exact (v_virt (k := 5) (n := 3) (tag := 0) (r := M v0 8) (av := [(0, M (M (M v0 0) 4) v1), (2, M v0 7)]) (code := c_X6_findGoodFeet) (pc := 30) (len := 3) (L := [(2, v0), (0, v1), q2, q3]) (st := [(2, M v0 7), (0, M (M (M v0 0) 4) v1), (2, M v0 8)]) rfl (Nat.le_of_ble_eq_true rfl) (Nat.le_of_ble_eq_true rfl) rfl).trans rfl
set_option maxRecDepth 100000 in
theorem e_X6_findGoodFeet_33 {sc : dS} {d : Nat} {K : List (Nat × Nat)} {M : dM} {v0 v1 : Int} {q2 q3 : dV} : vr sc d c_X6_findGoodFeet (33, [(2, v0), (0, v1), q2, q3], [], (K, M)) = (if og K 6 v0 4 = true then (if og K 6 v0 8 = true then (if rg K 2 (M v0 4) = true then (vc sc d 33 [(2, M v0 4), (2, M v0 8)] (K, M)).bind (fun r => vr sc d c_X6_findGoodFeet (44, [(2, v0), (0, v1), q2, q3], r.1 ++ [], r.2)) else none) else none) else none) := by
  refine (vr_steps 1 (x' := (34, [(2, v0), (0, v1), q2, q3], [(2, v0)], (K, M))) rfl).trans ?_
  refine (v_getf (a := 6) (b := 4) (t := 2) rfl rfl).trans ?_
  refine g_congr (fun _ => ?_)
  refine (vr_steps 1 (x' := (38, [(2, v0), (0, v1), q2, q3], [(2, v0), (2, M v0 4)], (K, M))) rfl).trans ?_
  refine (v_getf (a := 6) (b := 8) (t := 2) rfl rfl).trans ?_
  refine g_congr (fun _ => ?_)
  exact (v_virt (k := 33) (n := 2) (tag := 2) (r := M v0 4) (av := [(2, M v0 8)]) (code := c_X6_findGoodFeet) (pc := 41) (len := 3) (L := [(2, v0), (0, v1), q2, q3]) (st := [(2, M v0 8), (2, M v0 4)]) rfl (Nat.le_of_ble_eq_true rfl) (Nat.le_of_ble_eq_true rfl) rfl).trans rfl
set_option maxRecDepth 100000 in
theorem e_X6_findGoodFeet_44 {sc : dS} {d : Nat} {K : List (Nat × Nat)} {M : dM} {v0 v1 s0 : Int} {q2 q3 : dV} : vr sc d c_X6_findGoodFeet (44, [(2, v0), (0, v1), q2, q3], [(0, s0)], (K, M)) = (if og K 6 v0 10 = true then (if ag K 8 (M v0 10) v1 = true then vr sc d c_X6_findGoodFeet (54, [(2, v0), (0, v1), (0, s0), (0, 0)], [], (K, d_up M (M v0 10) v1 0)) else none) else none) := by
  refine (vr_steps 2 (x' := (46, [(2, v0), (0, v1), (0, s0), q3], [(2, v0)], (K, M))) rfl).trans ?_
  refine (v_getf (a := 6) (b := 10) (t := 2) rfl rfl).trans ?_
  refine g_congr (fun _ => ?_)
  refine (vr_steps 2 (x' := (51, [(2, v0), (0, v1), (0, s0), q3], [(0, 0), (0, v1), (2, M v0 10)], (K, M))) rfl).trans ?_
  refine (v_ast rfl).trans ?_
  refine g_congr (fun _ => ?_)
  exact vr_steps 2 rfl
set_option maxRecDepth 100000 in
theorem e_X6_findGoodFeet_54 {sc : dS} {d : Nat} {K : List (Nat × Nat)} {M : dM} {v0 v1 v2 v3 : Int} : vr sc d c_X6_findGoodFeet (54, [(2, v0), (0, v1), (0, v2), (0, v3)], [], (K, M)) = (if 6 ≤ v3 then vr sc d c_X6_findGoodFeet (2, [(2, v0), (0, w32 (v1 + 1)), (0, v2), (0, v3)], [], (K, M)) else (if og K 6 v0 4 = true then (if og K 6 v0 0 = true then (if rg K 2 (M v0 4) = true then (vc sc d 39 [(2, M v0 4), (2, M v0 0), (0, v1), (0, v3), (0, v2)] (K, M)).bind (fun r => vr sc d c_X6_findGoodFeet (74, [(2, v0), (0, v1), (0, v2), (0, v3)], r.1 ++ [], r.2)) else none) else none) else none)) := by
  refine (vr_steps 2 (x' := (57, [(2, v0), (0, v1), (0, v2), (0, v3)], [(0, 6), (0, v3)], (K, M))) rfl).trans ?_
  refine (v_icmp (k := 3) (b := 104) (c := 6 ≤ v3) rfl rfl).trans ?_
  refine c_congr (fun _ => ?_) (fun _ => ?_)
  · exact vr_steps 2 rfl
  · refine (vr_steps 1 (x' := (61, [(2, v0), (0, v1), (0, v2), (0, v3)], [(2, v0)], (K, M))) rfl).trans ?_
    refine (v_getf (a := 6) (b := 4) (t := 2) rfl rfl).trans ?_
    refine g_congr (fun _ => ?_)
    refine (vr_steps 1 (x' := (65, [(2, v0), (0, v1), (0, v2), (0, v3)], [(2, v0), (2, M v0 4)], (K, M))) rfl).trans ?_
    refine (v_getf (a := 6) (b := 0) (t := 2) rfl rfl).trans ?_
    refine g_congr (fun _ => ?_)
    refine (vr_steps 3 (x' := (71, [(2, v0), (0, v1), (0, v2), (0, v3)], [(0, v2), (0, v3), (0, v1), (2, M v0 0), (2, M v0 4)], (K, M))) rfl).trans ?_
    exact (v_virt (k := 39) (n := 5) (tag := 2) (r := M v0 4) (av := [(2, M v0 0), (0, v1), (0, v3), (0, v2)]) (code := c_X6_findGoodFeet) (pc := 71) (len := 3) (L := [(2, v0), (0, v1), (0, v2), (0, v3)]) (st := [(0, v2), (0, v3), (0, v1), (2, M v0 0), (2, M v0 4)]) rfl (Nat.le_of_ble_eq_true rfl) (Nat.le_of_ble_eq_true rfl) rfl).trans rfl
set_option maxRecDepth 100000 in
theorem e_X6_findGoodFeet_74 {sc : dS} {d : Nat} {K : List (Nat × Nat)} {M : dM} {v0 v1 v2 v3 s0 : Int} : vr sc d c_X6_findGoodFeet (74, [(2, v0), (0, v1), (0, v2), (0, v3)], [(0, s0)], (K, M)) = (if og K 6 v0 0 = true then (if og K 5 (M v0 0) 7 = true then (if ag K 8 (M (M v0 0) 7) v3 = true then (if s0 < (M (M (M v0 0) 7) v3) then vr sc d c_X6_findGoodFeet (54, [(2, v0), (0, v1), (0, v2), (0, w32 (v3 + 1))], [], (K, M)) else (if og K 6 v0 10 = true then (if ag K 8 (M v0 10) v1 = true then (if ag K 8 (M v0 10) v1 = true then vr sc d c_X6_findGoodFeet (54, [(2, v0), (0, v1), (0, v2), (0, w32 (v3 + 1))], [], (K, d_up M (M v0 10) v1 (i_or (M (M v0 10) v1) (i_shl 1 v3)))) else none) else none) else none)) else none) else none) else none) := by
  refine (vr_steps 1 (x' := (75, [(2, v0), (0, v1), (0, v2), (0, v3)], [(2, v0), (0, s0)], (K, M))) rfl).trans ?_
  refine (v_getf (a := 6) (b := 0) (t := 2) rfl rfl).trans ?_
  refine g_congr (fun _ => ?_)
  refine (v_getf (a := 5) (b := 7) (t := 2) rfl rfl).trans ?_
  refine g_congr (fun _ => ?_)
  refine (vr_steps 1 (x' := (82, [(2, v0), (0, v1), (0, v2), (0, v3)], [(0, v3), (2, M (M v0 0) 7), (0, s0)], (K, M))) rfl).trans ?_
  refine (v_ald (a := 8) rfl (by decide)).trans ?_
  refine g_congr (fun _ => ?_)
  refine (v_icmp (k := 2) (b := 98) (c := s0 < (M (M (M v0 0) 7) v3)) rfl rfl).trans ?_
  refine c_congr (fun _ => ?_) (fun _ => ?_)
  · exact vr_steps 2 rfl
  · refine (vr_steps 1 (x' := (87, [(2, v0), (0, v1), (0, v2), (0, v3)], [(2, v0)], (K, M))) rfl).trans ?_
    refine (v_getf (a := 6) (b := 10) (t := 2) rfl rfl).trans ?_
    refine g_congr (fun _ => ?_)
    refine (vr_steps 2 (x' := (92, [(2, v0), (0, v1), (0, v2), (0, v3)], [(0, v1), (2, M v0 10), (0, v1), (2, M v0 10)], (K, M))) rfl).trans ?_
    refine (v_ald (a := 8) rfl (by decide)).trans ?_
    refine g_congr (fun _ => ?_)
    refine (vr_steps 4 (x' := (97, [(2, v0), (0, v1), (0, v2), (0, v3)], [(0, i_or (M (M v0 10) v1) (i_shl 1 v3)), (0, v1), (2, M v0 10)], (K, M))) rfl).trans ?_
    refine (v_ast rfl).trans ?_
    refine g_congr (fun _ => ?_)
    exact vr_steps 2 rfl

noncomputable def c_X6_firstBestFoot : Nat → Option dI := d_mcode m_X6_firstBestFoot
set_option maxRecDepth 100000 in
theorem e_X6_firstBestFoot_0 {sc : dS} {d : Nat} {K : List (Nat × Nat)} {M : dM} {v0 v1 : Int} {q2 q3 q4 : dV} : vr sc d c_X6_firstBestFoot (0, [(2, v0), (0, v1), q2, q3, q4], [], (K, M)) = ((vc sc d 203 [(0, v1)] (K, M)).bind (fun r => vr sc d c_X6_firstBestFoot (4, [(2, v0), (0, v1), q2, q3, q4], r.1 ++ [], r.2))) := by
  refine (vr_steps 1 (x' := (1, [(2, v0), (0, v1), q2, q3, q4], [(0, v1)], (K, M))) rfl).trans ?_
  exact (v_stat (k := 203) (n := 1) (code := c_X6_firstBestFoot) (pc := 1) (len := 3) (L := [(2, v0), (0, v1), q2, q3, q4]) (st := [(0, v1)]) rfl (Nat.le_of_ble_eq_true rfl) (Nat.le_of_ble_eq_true rfl)).trans rfl
set_option maxRecDepth 100000 in
theorem e_X6_firstBestFoot_4 {sc : dS} {d : Nat} {K : List (Nat × Nat)} {M : dM} {v0 v1 s0 : Int} {q2 q3 q4 : dV} : vr sc d c_X6_firstBestFoot (4, [(2, v0), (0, v1), q2, q3, q4], [(0, s0)], (K, M)) = (if og K 6 v0 0 = true then (if og K 5 (M v0 0) 3 = true then (if s0 < (M (M v0 0) 3) then vr sc d c_X6_firstBestFoot (20, [(2, v0), (0, v1), (0, (-1)), (0, 0), q4], [], (K, M)) else some ([(0, (-1))], (K, M))) else none) else none) := by
  refine (vr_steps 1 (x' := (5, [(2, v0), (0, v1), q2, q3, q4], [(2, v0), (0, s0)], (K, M))) rfl).trans ?_
  refine (v_getf (a := 6) (b := 0) (t := 2) rfl rfl).trans ?_
  refine g_congr (fun _ => ?_)
  refine (v_getf (a := 5) (b := 3) (t := 0) rfl rfl).trans ?_
  refine g_congr (fun _ => ?_)
  refine (v_icmp (k := 2) (b := 16) (c := s0 < (M (M v0 0) 3)) rfl rfl).trans ?_
  refine c_congr (fun _ => ?_) (fun _ => ?_)
  · exact vr_steps 4 rfl
  · refine (vr_steps 1 (x' := (15, [(2, v0), (0, v1), q2, q3, q4], [(0, (-1))], (K, M))) rfl).trans ?_
    exact vr_ret (ai := (35, 1, 1, 0, [])) rfl rfl
set_option maxRecDepth 100000 in
theorem e_X6_firstBestFoot_20 {sc : dS} {d : Nat} {K : List (Nat × Nat)} {M : dM} {v0 v1 v2 v3 : Int} {q4 : dV} : vr sc d c_X6_firstBestFoot (20, [(2, v0), (0, v1), (0, v2), (0, v3), q4], [], (K, M)) = (if 6 ≤ v3 then some ([(0, v2)], (K, M)) else (if ¬ (i_and v1 (i_shl 1 v3)) = 0 then vr sc d c_X6_firstBestFoot (20, [(2, v0), (0, v1), (0, v2), (0, w32 (v3 + 1)), (0, 0)], [], (K, M)) else (if v2 = (-1) then vr sc d c_X6_firstBestFoot (20, [(2, v0), (0, v1), (0, v3), (0, w32 (v3 + 1)), (0, 1)], [], (K, M)) else (if rg K 6 v0 = true then (vc sc d 81 [(2, v0), (0, v1), (0, v3)] (K, M)).bind (fun r => vr sc d c_X6_firstBestFoot (57, [(2, v0), (0, v1), (0, v2), (0, v3), (0, 1)], r.1 ++ [], r.2)) else none)))) := by
  refine (vr_steps 2 (x' := (23, [(2, v0), (0, v1), (0, v2), (0, v3), q4], [(0, 6), (0, v3)], (K, M))) rfl).trans ?_
  refine (v_icmp (k := 3) (b := 74) (c := 6 ≤ v3) rfl rfl).trans ?_
  refine c_congr (fun _ => ?_) (fun _ => ?_)
  · refine (vr_steps 1 (x' := (75, [(2, v0), (0, v1), (0, v2), (0, v3), q4], [(0, v2)], (K, M))) rfl).trans ?_
    exact vr_ret (ai := (35, 1, 1, 0, [])) rfl rfl
  · refine (vr_steps 5 (x' := (31, [(2, v0), (0, v1), (0, v2), (0, v3), q4], [(0, i_and v1 (i_shl 1 v3))], (K, M))) rfl).trans ?_
    refine (v_if (k := 1) (b := 38) (c := ¬ (i_and v1 (i_shl 1 v3)) = 0) rfl rfl).trans ?_
    refine c_congr (fun _ => ?_) (fun _ => ?_)
    · exact vr_steps 6 rfl
    · refine (vr_steps 7 (x' := (48, [(2, v0), (0, v1), (0, v2), (0, v3), (0, 1)], [(0, (-1)), (0, v2)], (K, M))) rfl).trans ?_
      refine (v_icmp (k := 0) (b := 66) (c := v2 = (-1)) rfl rfl).trans ?_
      refine c_congr (fun _ => ?_) (fun _ => ?_)
      · exact vr_steps 4 rfl
      · refine (vr_steps 3 (x' := (54, [(2, v0), (0, v1), (0, v2), (0, v3), (0, 1)], [(0, v3), (0, v1), (2, v0)], (K, M))) rfl).trans ?_
        exact (v_virt (k := 81) (n := 3) (tag := 6) (r := v0) (av := [(0, v1), (0, v3)]) (code := c_X6_firstBestFoot) (pc := 54) (len := 3) (L := [(2, v0), (0, v1), (0, v2), (0, v3), (0, 1)]) (st := [(0, v3), (0, v1), (2, v0)]) rfl (Nat.le_of_ble_eq_true rfl) (Nat.le_of_ble_eq_true rfl) rfl).trans rfl
set_option maxRecDepth 100000 in
theorem e_X6_firstBestFoot_57 {sc : dS} {d : Nat} {K : List (Nat × Nat)} {M : dM} {v0 v1 v2 v3 v4 s0 : Int} : vr sc d c_X6_firstBestFoot (57, [(2, v0), (0, v1), (0, v2), (0, v3), (0, v4)], [(0, s0)], (K, M)) = (if rg K 6 v0 = true then (vc sc d 81 [(2, v0), (0, v1), (0, v2)] (K, M)).bind (fun r => vr sc d c_X6_firstBestFoot (63, [(2, v0), (0, v1), (0, v2), (0, v3), (0, v4)], r.1 ++ [(0, s0)], r.2)) else none) := by
  refine (vr_steps 3 (x' := (60, [(2, v0), (0, v1), (0, v2), (0, v3), (0, v4)], [(0, v2), (0, v1), (2, v0), (0, s0)], (K, M))) rfl).trans ?_
  exact (v_virt (k := 81) (n := 3) (tag := 6) (r := v0) (av := [(0, v1), (0, v2)]) (code := c_X6_firstBestFoot) (pc := 60) (len := 3) (L := [(2, v0), (0, v1), (0, v2), (0, v3), (0, v4)]) (st := [(0, v2), (0, v1), (2, v0), (0, s0)]) rfl (Nat.le_of_ble_eq_true rfl) (Nat.le_of_ble_eq_true rfl) rfl).trans rfl
set_option maxRecDepth 100000 in
theorem e_X6_firstBestFoot_63 {sc : dS} {d : Nat} {K : List (Nat × Nat)} {M : dM} {v0 v1 v2 v3 v4 s0 s1 : Int} : vr sc d c_X6_firstBestFoot (63, [(2, v0), (0, v1), (0, v2), (0, v3), (0, v4)], [(0, s1), (0, s0)], (K, M)) = (if s0 ≤ s1 then vr sc d c_X6_firstBestFoot (20, [(2, v0), (0, v1), (0, v2), (0, w32 (v3 + 1)), (0, v4)], [], (K, M)) else vr sc d c_X6_firstBestFoot (20, [(2, v0), (0, v1), (0, v3), (0, w32 (v3 + 1)), (0, v4)], [], (K, M))) := by
  refine (v_icmp (k := 5) (b := 68) (c := s0 ≤ s1) rfl rfl).trans ?_
  refine c_congr (fun _ => ?_) (fun _ => ?_)
  · exact vr_steps 2 rfl
  · exact vr_steps 4 rfl

noncomputable def c_X6_passWith : Nat → Option dI := d_mcode m_X6_passWith
set_option maxRecDepth 100000 in
theorem e_X6_passWith_0 {sc : dS} {d : Nat} {K : List (Nat × Nat)} {M : dM} {v0 v1 v2 : Int} {q3 q4 : dV} : vr sc d c_X6_passWith (0, [(2, v0), (0, v1), (0, v2), q3, q4], [], (K, M)) = ((vc sc d 203 [(0, v1)] (K, M)).bind (fun r => vr sc d c_X6_passWith (4, [(2, v0), (0, v1), (0, v2), q3, q4], r.1 ++ [], r.2))) := by
  refine (vr_steps 1 (x' := (1, [(2, v0), (0, v1), (0, v2), q3, q4], [(0, v1)], (K, M))) rfl).trans ?_
  exact (v_stat (k := 203) (n := 1) (code := c_X6_passWith) (pc := 1) (len := 3) (L := [(2, v0), (0, v1), (0, v2), q3, q4]) (st := [(0, v1)]) rfl (Nat.le_of_ble_eq_true rfl) (Nat.le_of_ble_eq_true rfl)).trans rfl
set_option maxRecDepth 100000 in
theorem e_X6_passWith_4 {sc : dS} {d : Nat} {K : List (Nat × Nat)} {M : dM} {v0 v1 v2 s0 : Int} {q3 q4 : dV} : vr sc d c_X6_passWith (4, [(2, v0), (0, v1), (0, v2), q3, q4], [(0, s0)], (K, M)) = (if 5 ≤ s0 then some ([(0, 0)], (K, M)) else (if (i_or v1 (i_shl 1 v2)) < 0 then some ([(0, 0)], (K, M)) else (if og K 6 v0 11 = true then (if lg_ K (M v0 11) = true then (if (i_or v1 (i_shl 1 v2)) < (kn K (M v0 11)) then (if og K 6 v0 10 = true then (if ag K 8 (M v0 10) s0 = true then (if og K 6 v0 11 = true then (if ag K 8 (M v0 11) (i_or v1 (i_shl 1 v2)) = true then some ([(0, w32 ((i_and (i_shr (M (M v0 10) s0) v2) 1) + (M (M v0 11) (i_or v1 (i_shl 1 v2)))))], (K, M)) else none) else none) else none) else none) else some ([(0, 0)], (K, M))) else none) else none))) := by
  refine (vr_steps 9 (x' := (14, [(2, v0), (0, v1), (0, v2), (0, s0), (0, i_or v1 (i_shl 1 v2))], [(0, 5), (0, s0)], (K, M))) rfl).trans ?_
  refine (v_icmp (k := 3) (b := 32) (c := 5 ≤ s0) rfl rfl).trans ?_
  refine c_congr (fun _ => ?_) (fun _ => ?_)
  · refine (vr_steps 1 (x' := (33, [(2, v0), (0, v1), (0, v2), (0, s0), (0, i_or v1 (i_shl 1 v2))], [(0, 0)], (K, M))) rfl).trans ?_
    exact vr_ret (ai := (35, 1, 1, 0, [])) rfl rfl
  · refine (vr_steps 1 (x' := (19, [(2, v0), (0, v1), (0, v2), (0, s0), (0, i_or v1 (i_shl 1 v2))], [(0, i_or v1 (i_shl 1 v2))], (K, M))) rfl).trans ?_
    refine (v_if (k := 2) (b := 32) (c := (i_or v1 (i_shl 1 v2)) < 0) rfl rfl).trans ?_
    refine c_congr (fun _ => ?_) (fun _ => ?_)
    · refine (vr_steps 1 (x' := (33, [(2, v0), (0, v1), (0, v2), (0, s0), (0, i_or v1 (i_shl 1 v2))], [(0, 0)], (K, M))) rfl).trans ?_
      exact vr_ret (ai := (35, 1, 1, 0, [])) rfl rfl
    · refine (vr_steps 2 (x' := (25, [(2, v0), (0, v1), (0, v2), (0, s0), (0, i_or v1 (i_shl 1 v2))], [(2, v0), (0, i_or v1 (i_shl 1 v2))], (K, M))) rfl).trans ?_
      refine (v_getf (a := 6) (b := 11) (t := 2) rfl rfl).trans ?_
      refine g_congr (fun _ => ?_)
      refine (v_alen rfl).trans ?_
      refine g_congr (fun _ => ?_)
      refine (v_icmp (k := 2) (b := 34) (c := (i_or v1 (i_shl 1 v2)) < (kn K (M v0 11))) rfl rfl).trans ?_
      refine c_congr (fun _ => ?_) (fun _ => ?_)
      · refine (vr_steps 1 (x' := (35, [(2, v0), (0, v1), (0, v2), (0, s0), (0, i_or v1 (i_shl 1 v2))], [(2, v0)], (K, M))) rfl).trans ?_
        refine (v_getf (a := 6) (b := 10) (t := 2) rfl rfl).trans ?_
        refine g_congr (fun _ => ?_)
        refine (vr_steps 1 (x' := (39, [(2, v0), (0, v1), (0, v2), (0, s0), (0, i_or v1 (i_shl 1 v2))], [(0, s0), (2, M v0 10)], (K, M))) rfl).trans ?_
        refine (v_ald (a := 8) rfl (by decide)).trans ?_
        refine g_congr (fun _ => ?_)
        refine (vr_steps 5 (x' := (45, [(2, v0), (0, v1), (0, v2), (0, s0), (0, i_or v1 (i_shl 1 v2))], [(2, v0), (0, i_and (i_shr (M (M v0 10) s0) v2) 1)], (K, M))) rfl).trans ?_
        refine (v_getf (a := 6) (b := 11) (t := 2) rfl rfl).trans ?_
        refine g_congr (fun _ => ?_)
        refine (vr_steps 1 (x' := (50, [(2, v0), (0, v1), (0, v2), (0, s0), (0, i_or v1 (i_shl 1 v2))], [(0, i_or v1 (i_shl 1 v2)), (2, M v0 11), (0, i_and (i_shr (M (M v0 10) s0) v2) 1)], (K, M))) rfl).trans ?_
        refine (v_ald (a := 8) rfl (by decide)).trans ?_
        refine g_congr (fun _ => ?_)
        refine (vr_steps 1 (x' := (52, [(2, v0), (0, v1), (0, v2), (0, s0), (0, i_or v1 (i_shl 1 v2))], [(0, w32 ((i_and (i_shr (M (M v0 10) s0) v2) 1) + (M (M v0 11) (i_or v1 (i_shl 1 v2)))))], (K, M))) rfl).trans ?_
        exact vr_ret (ai := (35, 1, 1, 0, [])) rfl rfl
      · refine (vr_steps 1 (x' := (33, [(2, v0), (0, v1), (0, v2), (0, s0), (0, i_or v1 (i_shl 1 v2))], [(0, 0)], (K, M))) rfl).trans ?_
        exact vr_ret (ai := (35, 1, 1, 0, [])) rfl rfl

noncomputable def c_X6_bestDigits : Nat → Option dI := d_mcode m_X6_bestDigits
set_option maxRecDepth 100000 in
theorem e_X6_bestDigits_0 {sc : dS} {d : Nat} {K : List (Nat × Nat)} {M : dM} {v0 : Int} {q1 q2 q3 q4 : dV} : vr sc d c_X6_bestDigits (0, [(2, v0), q1, q2, q3, q4], [], (K, M)) = (vr sc d c_X6_bestDigits (6, [(2, v0), (0, 0), (0, 0), (0, 0), q4], [], (K, M))) := by
  exact vr_steps 6 rfl
set_option maxRecDepth 100000 in
theorem e_X6_bestDigits_6 {sc : dS} {d : Nat} {K : List (Nat × Nat)} {M : dM} {v0 v1 v2 v3 : Int} {q4 : dV} : vr sc d c_X6_bestDigits (6, [(2, v0), (0, v1), (0, v2), (0, v3), q4], [], (K, M)) = (if og K 6 v0 0 = true then (if og K 5 (M v0 0) 3 = true then (if (M (M v0 0) 3) ≤ v3 then some ([(0, v1)], (K, M)) else (if rg K 6 v0 = true then (vc sc d 80 [(2, v0), (0, v2)] (K, M)).bind (fun r => vr sc d c_X6_bestDigits (22, [(2, v0), (0, v1), (0, v2), (0, v3), q4], r.1 ++ [], r.2)) else none)) else none) else none) := by
  refine (vr_steps 2 (x' := (8, [(2, v0), (0, v1), (0, v2), (0, v3), q4], [(2, v0), (0, v3)], (K, M))) rfl).trans ?_
  refine (v_getf (a := 6) (b := 0) (t := 2) rfl rfl).trans ?_
  refine g_congr (fun _ => ?_)
  refine (v_getf (a := 5) (b := 3) (t := 0) rfl rfl).trans ?_
  refine g_congr (fun _ => ?_)
  refine (v_icmp (k := 3) (b := 47) (c := (M (M v0 0) 3) ≤ v3) rfl rfl).trans ?_
  refine c_congr (fun _ => ?_) (fun _ => ?_)
  · refine (vr_steps 1 (x' := (48, [(2, v0), (0, v1), (0, v2), (0, v3), q4], [(0, v1)], (K, M))) rfl).trans ?_
    exact vr_ret (ai := (35, 1, 1, 0, [])) rfl rfl
  · refine (vr_steps 2 (x' := (19, [(2, v0), (0, v1), (0, v2), (0, v3), q4], [(0, v2), (2, v0)], (K, M))) rfl).trans ?_
    exact (v_virt (k := 80) (n := 2) (tag := 6) (r := v0) (av := [(0, v2)]) (code := c_X6_bestDigits) (pc := 19) (len := 3) (L := [(2, v0), (0, v1), (0, v2), (0, v3), q4]) (st := [(0, v2), (2, v0)]) rfl (Nat.le_of_ble_eq_true rfl) (Nat.le_of_ble_eq_true rfl) rfl).trans rfl
set_option maxRecDepth 100000 in
theorem e_X6_bestDigits_22 {sc : dS} {d : Nat} {K : List (Nat × Nat)} {M : dM} {v0 v1 v2 v3 s0 : Int} {q4 : dV} : vr sc d c_X6_bestDigits (22, [(2, v0), (0, v1), (0, v2), (0, v3), q4], [(0, s0)], (K, M)) = (vr sc d c_X6_bestDigits (6, [(2, v0), (0, w32 ((w32 ((w32 (10 * v1)) + s0)) + 1)), (0, i_or v2 (i_shl 1 s0)), (0, w32 (v3 + 1)), (0, s0)], [], (K, M))) := by
  exact vr_steps 17 rfl

noncomputable def c_X6_shortest : Nat → Option dI := d_mcode m_X6_shortest
set_option maxRecDepth 100000 in
theorem e_X6_shortest_0 {sc : dS} {d : Nat} {K : List (Nat × Nat)} {M : dM} {v0 v1 v2 v3 : Int} {q4 q5 : dV} : vr sc d c_X6_shortest (0, [(2, v0), (0, v1), (0, v2), (0, v3), q4, q5], [], (K, M)) = (if og K 6 v0 0 = true then (if rg K 5 (M v0 0) = true then (vc sc d 53 [(2, M v0 0), (0, v1)] (K, M)).bind (fun r => vr sc d c_X6_shortest (8, [(2, v0), (0, v1), (0, v2), (0, v3), q4, q5], r.1 ++ [], r.2)) else none) else none) := by
  refine (vr_steps 1 (x' := (1, [(2, v0), (0, v1), (0, v2), (0, v3), q4, q5], [(2, v0)], (K, M))) rfl).trans ?_
  refine (v_getf (a := 6) (b := 0) (t := 2) rfl rfl).trans ?_
  refine g_congr (fun _ => ?_)
  refine (vr_steps 1 (x' := (5, [(2, v0), (0, v1), (0, v2), (0, v3), q4, q5], [(0, v1), (2, M v0 0)], (K, M))) rfl).trans ?_
  exact (v_virt (k := 53) (n := 2) (tag := 5) (r := M v0 0) (av := [(0, v1)]) (code := c_X6_shortest) (pc := 5) (len := 3) (L := [(2, v0), (0, v1), (0, v2), (0, v3), q4, q5]) (st := [(0, v1), (2, M v0 0)]) rfl (Nat.le_of_ble_eq_true rfl) (Nat.le_of_ble_eq_true rfl) rfl).trans rfl
set_option maxRecDepth 100000 in
theorem e_X6_shortest_8 {sc : dS} {d : Nat} {K : List (Nat × Nat)} {M : dM} {v0 v1 v2 v3 s0 : Int} {q4 q5 : dV} : vr sc d c_X6_shortest (8, [(2, v0), (0, v1), (0, v2), (0, v3), q4, q5], [(0, s0)], (K, M)) = (if s0 = 0 then some ([(0, (-2))], (K, M)) else (vc sc d 107 [(0, v2), (0, 99)] (K, M)).bind (fun r => vr sc d c_X6_shortest (17, [(2, v0), (0, v1), (0, v2), (0, v3), q4, q5], r.1 ++ [], r.2))) := by
  refine (v_if (k := 0) (b := 27) (c := s0 = 0) rfl rfl).trans ?_
  refine c_congr (fun _ => ?_) (fun _ => ?_)
  · refine (vr_steps 1 (x' := (29, [(2, v0), (0, v1), (0, v2), (0, v3), q4, q5], [(0, (-2))], (K, M))) rfl).trans ?_
    exact vr_ret (ai := (35, 1, 1, 0, [])) rfl rfl
  · refine (vr_steps 2 (x' := (14, [(2, v0), (0, v1), (0, v2), (0, v3), q4, q5], [(0, 99), (0, v2)], (K, M))) rfl).trans ?_
    exact (v_stat (k := 107) (n := 2) (code := c_X6_shortest) (pc := 14) (len := 3) (L := [(2, v0), (0, v1), (0, v2), (0, v3), q4, q5]) (st := [(0, 99), (0, v2)]) rfl (Nat.le_of_ble_eq_true rfl) (Nat.le_of_ble_eq_true rfl)).trans rfl
set_option maxRecDepth 100000 in
theorem e_X6_shortest_17 {sc : dS} {d : Nat} {K : List (Nat × Nat)} {M : dM} {v0 v1 v2 v3 s0 : Int} {q4 q5 : dV} : vr sc d c_X6_shortest (17, [(2, v0), (0, v1), (0, v2), (0, v3), q4, q5], [(0, s0)], (K, M)) = (if s0 = 0 then some ([(0, (-2))], (K, M)) else (vc sc d 110 [(0, v3)] (K, M)).bind (fun r => vr sc d c_X6_shortest (24, [(2, v0), (0, v1), (0, v2), (0, v3), q4, q5], r.1 ++ [], r.2))) := by
  refine (v_if (k := 0) (b := 27) (c := s0 = 0) rfl rfl).trans ?_
  refine c_congr (fun _ => ?_) (fun _ => ?_)
  · refine (vr_steps 1 (x' := (29, [(2, v0), (0, v1), (0, v2), (0, v3), q4, q5], [(0, (-2))], (K, M))) rfl).trans ?_
    exact vr_ret (ai := (35, 1, 1, 0, [])) rfl rfl
  · refine (vr_steps 1 (x' := (21, [(2, v0), (0, v1), (0, v2), (0, v3), q4, q5], [(0, v3)], (K, M))) rfl).trans ?_
    exact (v_stat (k := 110) (n := 1) (code := c_X6_shortest) (pc := 21) (len := 3) (L := [(2, v0), (0, v1), (0, v2), (0, v3), q4, q5]) (st := [(0, v3)]) rfl (Nat.le_of_ble_eq_true rfl) (Nat.le_of_ble_eq_true rfl)).trans rfl
set_option maxRecDepth 100000 in
theorem e_X6_shortest_24 {sc : dS} {d : Nat} {K : List (Nat × Nat)} {M : dM} {v0 v1 v2 v3 s0 : Int} {q4 q5 : dV} : vr sc d c_X6_shortest (24, [(2, v0), (0, v1), (0, v2), (0, v3), q4, q5], [(0, s0)], (K, M)) = (if ¬ s0 = 0 then vr sc d c_X6_shortest (33, [(2, v0), (0, v1), (0, v2), (0, v3), (0, 0), q5], [], (K, M)) else some ([(0, (-2))], (K, M))) := by
  refine (v_if (k := 1) (b := 30) (c := ¬ s0 = 0) rfl rfl).trans ?_
  refine c_congr (fun _ => ?_) (fun _ => ?_)
  · exact vr_steps 2 rfl
  · refine (vr_steps 1 (x' := (29, [(2, v0), (0, v1), (0, v2), (0, v3), q4, q5], [(0, (-2))], (K, M))) rfl).trans ?_
    exact vr_ret (ai := (35, 1, 1, 0, [])) rfl rfl
set_option maxRecDepth 100000 in
theorem e_X6_shortest_33 {sc : dS} {d : Nat} {K : List (Nat × Nat)} {M : dM} {v0 v1 v2 v3 v4 : Int} {q5 : dV} : vr sc d c_X6_shortest (33, [(2, v0), (0, v1), (0, v2), (0, v3), (0, v4), q5], [], (K, M)) = (if 4 < v4 then some ([(0, (-1))], (K, M)) else vr sc d c_X6_shortest (42, [(2, v0), (0, v1), (0, v2), (0, v3), (0, v4), (0, 0)], [], (K, M))) := by
  refine (vr_steps 2 (x' := (36, [(2, v0), (0, v1), (0, v2), (0, v3), (0, v4), q5], [(0, 4), (0, v4)], (K, M))) rfl).trans ?_
  refine (v_icmp (k := 4) (b := 94) (c := 4 < v4) rfl rfl).trans ?_
  refine c_congr (fun _ => ?_) (fun _ => ?_)
  · refine (vr_steps 1 (x' := (95, [(2, v0), (0, v1), (0, v2), (0, v3), (0, v4), q5], [(0, (-1))], (K, M))) rfl).trans ?_
    exact vr_ret (ai := (35, 1, 1, 0, [])) rfl rfl
  · exact vr_steps 2 rfl
set_option maxRecDepth 100000 in
theorem e_X6_shortest_42 {sc : dS} {d : Nat} {K : List (Nat × Nat)} {M : dM} {v0 v1 v2 v3 v4 v5 : Int} : vr sc d c_X6_shortest (42, [(2, v0), (0, v1), (0, v2), (0, v3), (0, v4), (0, v5)], [], (K, M)) = (if (i_shl 1 (w32 (2 * v4))) ≤ v5 then vr sc d c_X6_shortest (33, [(2, v0), (0, v1), (0, v2), (0, v3), (0, w32 (v4 + 1)), (0, v5)], [], (K, M)) else (if og K 6 v0 7 = true then (if rg K 0 (M v0 7) = true then (vc sc d 3 [(2, M v0 7), (0, v5), (0, v4)] (K, M)).bind (fun r => vr sc d c_X6_shortest (64, [(2, v0), (0, v1), (0, v2), (0, v3), (0, v4), (0, v5)], r.1 ++ [], r.2)) else none) else none)) := by
  refine (vr_steps 6 (x' := (50, [(2, v0), (0, v1), (0, v2), (0, v3), (0, v4), (0, v5)], [(0, i_shl 1 (w32 (2 * v4))), (0, v5)], (K, M))) rfl).trans ?_
  refine (v_icmp (k := 3) (b := 88) (c := (i_shl 1 (w32 (2 * v4))) ≤ v5) rfl rfl).trans ?_
  refine c_congr (fun _ => ?_) (fun _ => ?_)
  · exact vr_steps 2 rfl
  · refine (vr_steps 1 (x' := (54, [(2, v0), (0, v1), (0, v2), (0, v3), (0, v4), (0, v5)], [(2, v0)], (K, M))) rfl).trans ?_
    refine (v_getf (a := 6) (b := 7) (t := 2) rfl rfl).trans ?_
    refine g_congr (fun _ => ?_)
    refine (vr_steps 2 (x' := (61, [(2, v0), (0, v1), (0, v2), (0, v3), (0, v4), (0, v5)], [(0, v4), (0, v5), (2, M v0 7)], (K, M))) rfl).trans ?_
    exact (v_virt (k := 3) (n := 3) (tag := 0) (r := M v0 7) (av := [(0, v5), (0, v4)]) (code := c_X6_shortest) (pc := 61) (len := 3) (L := [(2, v0), (0, v1), (0, v2), (0, v3), (0, v4), (0, v5)]) (st := [(0, v4), (0, v5), (2, M v0 7)]) rfl (Nat.le_of_ble_eq_true rfl) (Nat.le_of_ble_eq_true rfl) rfl).trans rfl
set_option maxRecDepth 100000 in
theorem e_X6_shortest_64 {sc : dS} {d : Nat} {K : List (Nat × Nat)} {M : dM} {v0 v1 v2 v3 v4 v5 : Int} : vr sc d c_X6_shortest (64, [(2, v0), (0, v1), (0, v2), (0, v3), (0, v4), (0, v5)], [], (K, M)) = (if rg K 6 v0 = true then (vc sc d 84 [(2, v0), (0, v1), (0, v2), (0, v3)] (K, M)).bind (fun r => vr sc d c_X6_shortest (71, [(2, v0), (0, v1), (0, v2), (0, v3), (0, v4), (0, v5)], r.1 ++ [], r.2)) else none) := by
  refine (vr_steps 4 (x' := (68, [(2, v0), (0, v1), (0, v2), (0, v3), (0, v4), (0, v5)], [(0, v3), (0, v2), (0, v1), (2, v0)], (K, M))) rfl).trans ?_
  exact (v_virt (k := 84) (n := 4) (tag := 6) (r := v0) (av := [(0, v1), (0, v2), (0, v3)]) (code := c_X6_shortest) (pc := 68) (len := 3) (L := [(2, v0), (0, v1), (0, v2), (0, v3), (0, v4), (0, v5)]) (st := [(0, v3), (0, v2), (0, v1), (2, v0)]) rfl (Nat.le_of_ble_eq_true rfl) (Nat.le_of_ble_eq_true rfl) rfl).trans rfl
set_option maxRecDepth 100000 in
theorem e_X6_shortest_71 {sc : dS} {d : Nat} {K : List (Nat × Nat)} {M : dM} {v0 v1 v2 v3 v4 v5 s0 : Int} : vr sc d c_X6_shortest (71, [(2, v0), (0, v1), (0, v2), (0, v3), (0, v4), (0, v5)], [(0, s0)], (K, M)) = (if s0 = 0 then vr sc d c_X6_shortest (42, [(2, v0), (0, v1), (0, v2), (0, v3), (0, v4), (0, w32 (v5 + 1))], [], (K, M)) else (if og K 6 v0 7 = true then (if rg K 0 (M v0 7) = true then (vc sc d 4 [(2, M v0 7)] (K, M)).bind (fun r => vr sc d c_X6_shortest (81, [(2, v0), (0, v1), (0, v2), (0, v3), (0, v4), (0, v5)], r.1 ++ [], r.2)) else none) else none)) := by
  refine (v_if (k := 0) (b := 82) (c := s0 = 0) rfl rfl).trans ?_
  refine c_congr (fun _ => ?_) (fun _ => ?_)
  · exact vr_steps 2 rfl
  · refine (vr_steps 1 (x' := (75, [(2, v0), (0, v1), (0, v2), (0, v3), (0, v4), (0, v5)], [(2, v0)], (K, M))) rfl).trans ?_
    refine (v_getf (a := 6) (b := 7) (t := 2) rfl rfl).trans ?_
    refine g_congr (fun _ => ?_)
    exact (v_virt (k := 4) (n := 1) (tag := 0) (r := M v0 7) (av := []) (code := c_X6_shortest) (pc := 78) (len := 3) (L := [(2, v0), (0, v1), (0, v2), (0, v3), (0, v4), (0, v5)]) (st := [(2, M v0 7)]) rfl (Nat.le_of_ble_eq_true rfl) (Nat.le_of_ble_eq_true rfl) rfl).trans rfl
set_option maxRecDepth 100000 in
theorem e_X6_shortest_81 {sc : dS} {d : Nat} {K : List (Nat × Nat)} {M : dM} {v0 v1 v2 v3 v4 v5 s0 : Int} : vr sc d c_X6_shortest (81, [(2, v0), (0, v1), (0, v2), (0, v3), (0, v4), (0, v5)], [(0, s0)], (K, M)) = (some ([(0, s0)], (K, M))) := by
  exact vr_ret (ai := (35, 1, 1, 0, [])) rfl rfl

noncomputable def c_X6_serves : Nat → Option dI := d_mcode m_X6_serves
set_option maxRecDepth 100000 in
theorem e_X6_serves_0 {sc : dS} {d : Nat} {K : List (Nat × Nat)} {M : dM} {v0 v1 v2 v3 : Int} : vr sc d c_X6_serves (0, [(2, v0), (0, v1), (0, v2), (0, v3)], [], (K, M)) = (if og K 6 v0 8 = true then (if og K 6 v0 0 = true then (if og K 5 (M v0 0) 4 = true then (if ag K 8 (M (M v0 0) 4) v1 = true then (if og K 6 v0 7 = true then (if rg K 0 (M v0 8) = true then (vc sc d 5 [(2, M v0 8), (0, M (M (M v0 0) 4) v1), (2, M v0 7)] (K, M)).bind (fun r => vr sc d c_X6_serves (20, [(2, v0), (0, v1), (0, v2), (0, v3)], r.1 ++ [], r.2)) else none) else none) else none) else none) else none) else none) := by
  refine (vr_steps 1 (x' := (1, [(2, v0), (0, v1), (0, v2), (0, v3)], [(2, v0)], (K, M))) rfl).trans ?_
  refine (v_getf (a := 6) (b := 8) (t := 2) rfl rfl).trans ?_
  refine g_congr (fun _ => ?_)
  refine (vr_steps 1 (x' := (5, [(2, v0), (0, v1), (0, v2), (0, v3)], [(2, v0), (2, M v0 8)], (K, M))) rfl).trans ?_
  refine (v_getf (a := 6) (b := 0) (t := 2) rfl rfl).trans ?_
  refine g_congr (fun _ => ?_)
  refine (v_getf (a := 5) (b := 4) (t := 2) rfl rfl).trans ?_
  refine g_congr (fun _ => ?_)
  refine (vr_steps 1 (x' := (12, [(2, v0), (0, v1), (0, v2), (0, v3)], [(0, v1), (2, M (M v0 0) 4), (2, M v0 8)], (K, M))) rfl).trans ?_
  refine (v_ald (a := 8) rfl (by decide)).trans ?_
  refine g_congr (fun _ => ?_)
  refine (vr_steps 1 (x' := (14, [(2, v0), (0, v1), (0, v2), (0, v3)], [(2, v0), (0, M (M (M v0 0) 4) v1), (2, M v0 8)], (K, M))) rfl).trans ?_
  refine (v_getf (a := 6) (b := 7) (t := 2) rfl rfl).trans ?_
  refine g_congr (fun _ => ?_)
  exact (v_virt (k := 5) (n := 3) (tag := 0) (r := M v0 8) (av := [(0, M (M (M v0 0) 4) v1), (2, M v0 7)]) (code := c_X6_serves) (pc := 17) (len := 3) (L := [(2, v0), (0, v1), (0, v2), (0, v3)]) (st := [(2, M v0 7), (0, M (M (M v0 0) 4) v1), (2, M v0 8)]) rfl (Nat.le_of_ble_eq_true rfl) (Nat.le_of_ble_eq_true rfl) rfl).trans rfl
set_option maxRecDepth 100000 in
theorem e_X6_serves_20 {sc : dS} {d : Nat} {K : List (Nat × Nat)} {M : dM} {v0 v1 v2 v3 : Int} : vr sc d c_X6_serves (20, [(2, v0), (0, v1), (0, v2), (0, v3)], [], (K, M)) = (if og K 6 v0 8 = true then (if og K 6 v0 9 = true then (if rg K 0 (M v0 8) = true then (vc sc d 13 [(2, M v0 8), (0, v3), (2, M v0 9)] (K, M)).bind (fun r => vr sc d c_X6_serves (32, [(2, v0), (0, v1), (0, v2), (0, v3)], r.1 ++ [], r.2)) else none) else none) else none) := by
  refine (vr_steps 1 (x' := (21, [(2, v0), (0, v1), (0, v2), (0, v3)], [(2, v0)], (K, M))) rfl).trans ?_
  refine (v_getf (a := 6) (b := 8) (t := 2) rfl rfl).trans ?_
  refine g_congr (fun _ => ?_)
  refine (vr_steps 2 (x' := (26, [(2, v0), (0, v1), (0, v2), (0, v3)], [(2, v0), (0, v3), (2, M v0 8)], (K, M))) rfl).trans ?_
  refine (v_getf (a := 6) (b := 9) (t := 2) rfl rfl).trans ?_
  refine g_congr (fun _ => ?_)
  exact (v_virt (k := 13) (n := 3) (tag := 0) (r := M v0 8) (av := [(0, v3), (2, M v0 9)]) (code := c_X6_serves) (pc := 29) (len := 3) (L := [(2, v0), (0, v1), (0, v2), (0, v3)]) (st := [(2, M v0 9), (0, v3), (2, M v0 8)]) rfl (Nat.le_of_ble_eq_true rfl) (Nat.le_of_ble_eq_true rfl) rfl).trans rfl
set_option maxRecDepth 100000 in
theorem e_X6_serves_32 {sc : dS} {d : Nat} {K : List (Nat × Nat)} {M : dM} {v0 v1 v2 v3 s0 : Int} : vr sc d c_X6_serves (32, [(2, v0), (0, v1), (0, v2), (0, v3)], [(0, s0)], (K, M)) = (if s0 = 0 then some ([(0, 0)], (K, M)) else (if og K 6 v0 4 = true then (if og K 6 v0 0 = true then (if og K 6 v0 4 = true then (if og K 6 v0 8 = true then (if rg K 2 (M v0 4) = true then (vc sc d 33 [(2, M v0 4), (2, M v0 8)] (K, M)).bind (fun r => vr sc d c_X6_serves (56, [(2, v0), (0, v1), (0, v2), (0, v3)], r.1 ++ [(0, 0), (0, v1), (2, M v0 0), (2, M v0 4)], r.2)) else none) else none) else none) else none) else none)) := by
  refine (v_if (k := 0) (b := 67) (c := s0 = 0) rfl rfl).trans ?_
  refine c_congr (fun _ => ?_) (fun _ => ?_)
  · refine (vr_steps 1 (x' := (68, [(2, v0), (0, v1), (0, v2), (0, v3)], [(0, 0)], (K, M))) rfl).trans ?_
    exact vr_ret (ai := (35, 1, 3, 0, [])) rfl rfl
  · refine (vr_steps 1 (x' := (36, [(2, v0), (0, v1), (0, v2), (0, v3)], [(2, v0)], (K, M))) rfl).trans ?_
    refine (v_getf (a := 6) (b := 4) (t := 2) rfl rfl).trans ?_
    refine g_congr (fun _ => ?_)
    refine (vr_steps 1 (x' := (40, [(2, v0), (0, v1), (0, v2), (0, v3)], [(2, v0), (2, M v0 4)], (K, M))) rfl).trans ?_
    refine (v_getf (a := 6) (b := 0) (t := 2) rfl rfl).trans ?_
    refine g_congr (fun _ => ?_)
    refine (vr_steps 3 (x' := (46, [(2, v0), (0, v1), (0, v2), (0, v3)], [(2, v0), (0, 0), (0, v1), (2, M v0 0), (2, M v0 4)], (K, M))) rfl).trans ?_
    refine (v_getf (a := 6) (b := 4) (t := 2) rfl rfl).trans ?_
    refine g_congr (fun _ => ?_)
    refine (vr_steps 1 (x' := (50, [(2, v0), (0, v1), (0, v2), (0, v3)], [(2, v0), (2, M v0 4), (0, 0), (0, v1), (2, M v0 0), (2, M v0 4)], (K, M))) rfl).trans ?_
    refine (v_getf (a := 6) (b := 8) (t := 2) rfl rfl).trans ?_
    refine g_congr (fun _ => ?_)
    exact (v_virt (k := 33) (n := 2) (tag := 2) (r := M v0 4) (av := [(2, M v0 8)]) (code := c_X6_serves) (pc := 53) (len := 3) (L := [(2, v0), (0, v1), (0, v2), (0, v3)]) (st := [(2, M v0 8), (2, M v0 4), (0, 0), (0, v1), (2, M v0 0), (2, M v0 4)]) rfl (Nat.le_of_ble_eq_true rfl) (Nat.le_of_ble_eq_true rfl) rfl).trans rfl
set_option maxRecDepth 100000 in
theorem e_X6_serves_56 {sc : dS} {d : Nat} {K : List (Nat × Nat)} {M : dM} {v0 v1 v2 v3 s0 s1 s2 s3 s4 : Int} : vr sc d c_X6_serves (56, [(2, v0), (0, v1), (0, v2), (0, v3)], [(0, s4), (0, s3), (0, s2), (2, s1), (2, s0)], (K, M)) = (if rg K 2 s0 = true then (vc sc d 39 [(2, s0), (2, s1), (0, s2), (0, s3), (0, s4)] (K, M)).bind (fun r => vr sc d c_X6_serves (59, [(2, v0), (0, v1), (0, v2), (0, v3)], r.1 ++ [], r.2)) else none) := by
  exact (v_virt (k := 39) (n := 5) (tag := 2) (r := s0) (av := [(2, s1), (0, s2), (0, s3), (0, s4)]) (code := c_X6_serves) (pc := 56) (len := 3) (L := [(2, v0), (0, v1), (0, v2), (0, v3)]) (st := [(0, s4), (0, s3), (0, s2), (2, s1), (2, s0)]) rfl (Nat.le_of_ble_eq_true rfl) (Nat.le_of_ble_eq_true rfl) rfl).trans rfl
set_option maxRecDepth 100000 in
theorem e_X6_serves_59 {sc : dS} {d : Nat} {K : List (Nat × Nat)} {M : dM} {v0 v1 v2 v3 s0 : Int} : vr sc d c_X6_serves (59, [(2, v0), (0, v1), (0, v2), (0, v3)], [(0, s0)], (K, M)) = (if s0 < v2 then some ([(0, 0)], (K, M)) else some ([(0, 1)], (K, M))) := by
  refine (vr_steps 1 (x' := (60, [(2, v0), (0, v1), (0, v2), (0, v3)], [(0, v2), (0, s0)], (K, M))) rfl).trans ?_
  refine (v_icmp (k := 2) (b := 67) (c := s0 < v2) rfl rfl).trans ?_
  refine c_congr (fun _ => ?_) (fun _ => ?_)
  · refine (vr_steps 1 (x' := (68, [(2, v0), (0, v1), (0, v2), (0, v3)], [(0, 0)], (K, M))) rfl).trans ?_
    exact vr_ret (ai := (35, 1, 3, 0, [])) rfl rfl
  · refine (vr_steps 2 (x' := (68, [(2, v0), (0, v1), (0, v2), (0, v3)], [(0, 1)], (K, M))) rfl).trans ?_
    exact vr_ret (ai := (35, 1, 3, 0, [])) rfl rfl

noncomputable def c_X6_share : Nat → Option dI := d_mcode m_X6_share
set_option maxRecDepth 100000 in
theorem e_X6_share_0 {sc : dS} {d : Nat} {K : List (Nat × Nat)} {M : dM} {v0 v1 v2 : Int} {q3 q4 : dV} : vr sc d c_X6_share (0, [(2, v0), (0, v1), (0, v2), q3, q4], [], (K, M)) = (if og K 6 v0 0 = true then (if rg K 5 (M v0 0) = true then (vc sc d 53 [(2, M v0 0), (0, v1)] (K, M)).bind (fun r => vr sc d c_X6_share (8, [(2, v0), (0, v1), (0, v2), q3, q4], r.1 ++ [], r.2)) else none) else none) := by
  refine (vr_steps 1 (x' := (1, [(2, v0), (0, v1), (0, v2), q3, q4], [(2, v0)], (K, M))) rfl).trans ?_
  refine (v_getf (a := 6) (b := 0) (t := 2) rfl rfl).trans ?_
  refine g_congr (fun _ => ?_)
  refine (vr_steps 1 (x' := (5, [(2, v0), (0, v1), (0, v2), q3, q4], [(0, v1), (2, M v0 0)], (K, M))) rfl).trans ?_
  exact (v_virt (k := 53) (n := 2) (tag := 5) (r := M v0 0) (av := [(0, v1)]) (code := c_X6_share) (pc := 5) (len := 3) (L := [(2, v0), (0, v1), (0, v2), q3, q4]) (st := [(0, v1), (2, M v0 0)]) rfl (Nat.le_of_ble_eq_true rfl) (Nat.le_of_ble_eq_true rfl) rfl).trans rfl
set_option maxRecDepth 100000 in
theorem e_X6_share_8 {sc : dS} {d : Nat} {K : List (Nat × Nat)} {M : dM} {v0 v1 v2 s0 : Int} {q3 q4 : dV} : vr sc d c_X6_share (8, [(2, v0), (0, v1), (0, v2), q3, q4], [(0, s0)], (K, M)) = (if s0 = 0 then some ([(1, (-4611686018427387904))], (K, M)) else (vc sc d 107 [(0, v2), (0, 1)] (K, M)).bind (fun r => vr sc d c_X6_share (16, [(2, v0), (0, v1), (0, v2), q3, q4], r.1 ++ [], r.2))) := by
  refine (v_if (k := 0) (b := 19) (c := s0 = 0) rfl rfl).trans ?_
  refine c_congr (fun _ => ?_) (fun _ => ?_)
  · refine (vr_steps 1 (x' := (22, [(2, v0), (0, v1), (0, v2), q3, q4], [(1, (-4611686018427387904))], (K, M))) rfl).trans ?_
    exact vr_ret (ai := (35, 1, 2, 0, [])) rfl rfl
  · refine (vr_steps 2 (x' := (13, [(2, v0), (0, v1), (0, v2), q3, q4], [(0, 1), (0, v2)], (K, M))) rfl).trans ?_
    exact (v_stat (k := 107) (n := 2) (code := c_X6_share) (pc := 13) (len := 3) (L := [(2, v0), (0, v1), (0, v2), q3, q4]) (st := [(0, 1), (0, v2)]) rfl (Nat.le_of_ble_eq_true rfl) (Nat.le_of_ble_eq_true rfl)).trans rfl
set_option maxRecDepth 100000 in
theorem e_X6_share_16 {sc : dS} {d : Nat} {K : List (Nat × Nat)} {M : dM} {v0 v1 v2 s0 : Int} {q3 q4 : dV} : vr sc d c_X6_share (16, [(2, v0), (0, v1), (0, v2), q3, q4], [(0, s0)], (K, M)) = (if ¬ s0 = 0 then vr sc d c_X6_share (28, [(2, v0), (0, v1), (0, v2), (0, 0), (0, 0)], [], (K, M)) else some ([(1, (-4611686018427387904))], (K, M))) := by
  refine (v_if (k := 1) (b := 23) (c := ¬ s0 = 0) rfl rfl).trans ?_
  refine c_congr (fun _ => ?_) (fun _ => ?_)
  · exact vr_steps 4 rfl
  · refine (vr_steps 1 (x' := (22, [(2, v0), (0, v1), (0, v2), q3, q4], [(1, (-4611686018427387904))], (K, M))) rfl).trans ?_
    exact vr_ret (ai := (35, 1, 2, 0, [])) rfl rfl
set_option maxRecDepth 100000 in
theorem e_X6_share_28 {sc : dS} {d : Nat} {K : List (Nat × Nat)} {M : dM} {v0 v1 v2 v3 v4 : Int} : vr sc d c_X6_share (28, [(2, v0), (0, v1), (0, v2), (0, v3), (0, v4)], [], (K, M)) = (if og K 6 v0 0 = true then (if og K 5 (M v0 0) 3 = true then (if (M (M v0 0) 3) ≤ v4 then (if ¬ v3 = 0 then (if og K 6 v0 0 = true then (if og K 5 (M v0 0) 6 = true then (if ag K 8 (M (M v0 0) 6) v1 = true then (vc sc d 97 [(0, M (M (M v0 0) 6) v1), (0, v3), (0, v2)] (K, M)).bind (fun r => vr sc d c_X6_share (81, [(2, v0), (0, v1), (0, v2), (0, v3), (0, v4)], r.1 ++ [], r.2)) else none) else none) else none) else some ([(1, (-4611686018427387904))], (K, M))) else (if og K 6 v0 0 = true then (if og K 5 (M v0 0) 6 = true then (if ag K 8 (M (M v0 0) 6) v4 = true then vr sc d c_X6_share (28, [(2, v0), (0, v1), (0, v2), (0, w32 (v3 + (M (M (M v0 0) 6) v4))), (0, w32 (v4 + 1))], [], (K, M)) else none) else none) else none)) else none) else none) := by
  refine (vr_steps 2 (x' := (31, [(2, v0), (0, v1), (0, v2), (0, v3), (0, v4)], [(2, v0), (0, v4)], (K, M))) rfl).trans ?_
  refine (v_getf (a := 6) (b := 0) (t := 2) rfl rfl).trans ?_
  refine g_congr (fun _ => ?_)
  refine (v_getf (a := 5) (b := 3) (t := 0) rfl rfl).trans ?_
  refine g_congr (fun _ => ?_)
  refine (v_icmp (k := 3) (b := 59) (c := (M (M v0 0) 3) ≤ v4) rfl rfl).trans ?_
  refine c_congr (fun _ => ?_) (fun _ => ?_)
  · refine (vr_steps 1 (x' := (60, [(2, v0), (0, v1), (0, v2), (0, v3), (0, v4)], [(0, v3)], (K, M))) rfl).trans ?_
    refine (v_if (k := 1) (b := 67) (c := ¬ v3 = 0) rfl rfl).trans ?_
    refine c_congr (fun _ => ?_) (fun _ => ?_)
    · refine (vr_steps 1 (x' := (68, [(2, v0), (0, v1), (0, v2), (0, v3), (0, v4)], [(2, v0)], (K, M))) rfl).trans ?_
      refine (v_getf (a := 6) (b := 0) (t := 2) rfl rfl).trans ?_
      refine g_congr (fun _ => ?_)
      refine (v_getf (a := 5) (b := 6) (t := 2) rfl rfl).trans ?_
      refine g_congr (fun _ => ?_)
      refine (vr_steps 1 (x' := (75, [(2, v0), (0, v1), (0, v2), (0, v3), (0, v4)], [(0, v1), (2, M (M v0 0) 6)], (K, M))) rfl).trans ?_
      refine (v_ald (a := 8) rfl (by decide)).trans ?_
      refine g_congr (fun _ => ?_)
      refine (vr_steps 2 (x' := (78, [(2, v0), (0, v1), (0, v2), (0, v3), (0, v4)], [(0, v2), (0, v3), (0, M (M (M v0 0) 6) v1)], (K, M))) rfl).trans ?_
      exact (v_stat (k := 97) (n := 3) (code := c_X6_share) (pc := 78) (len := 3) (L := [(2, v0), (0, v1), (0, v2), (0, v3), (0, v4)]) (st := [(0, v2), (0, v3), (0, M (M (M v0 0) 6) v1)]) rfl (Nat.le_of_ble_eq_true rfl) (Nat.le_of_ble_eq_true rfl)).trans rfl
    · refine (vr_steps 1 (x' := (66, [(2, v0), (0, v1), (0, v2), (0, v3), (0, v4)], [(1, (-4611686018427387904))], (K, M))) rfl).trans ?_
      exact vr_ret (ai := (35, 1, 2, 0, [])) rfl rfl
  · refine (vr_steps 2 (x' := (42, [(2, v0), (0, v1), (0, v2), (0, v3), (0, v4)], [(2, v0), (0, v3)], (K, M))) rfl).trans ?_
    refine (v_getf (a := 6) (b := 0) (t := 2) rfl rfl).trans ?_
    refine g_congr (fun _ => ?_)
    refine (v_getf (a := 5) (b := 6) (t := 2) rfl rfl).trans ?_
    refine g_congr (fun _ => ?_)
    refine (vr_steps 1 (x' := (50, [(2, v0), (0, v1), (0, v2), (0, v3), (0, v4)], [(0, v4), (2, M (M v0 0) 6), (0, v3)], (K, M))) rfl).trans ?_
    refine (v_ald (a := 8) rfl (by decide)).trans ?_
    refine g_congr (fun _ => ?_)
    exact vr_steps 4 rfl
set_option maxRecDepth 100000 in
theorem e_X6_share_81 {sc : dS} {d : Nat} {K : List (Nat × Nat)} {M : dM} {v0 v1 v2 v3 v4 s0 : Int} : vr sc d c_X6_share (81, [(2, v0), (0, v1), (0, v2), (0, v3), (0, v4)], [(0, s0)], (K, M)) = (some ([(1, s0)], (K, M))) := by
  refine (vr_steps 1 (x' := (82, [(2, v0), (0, v1), (0, v2), (0, v3), (0, v4)], [(1, s0)], (K, M))) rfl).trans ?_
  exact vr_ret (ai := (35, 1, 2, 0, [])) rfl rfl

noncomputable def c_X6_tells : Nat → Option dI := d_mcode m_X6_tells
set_option maxRecDepth 100000 in
theorem e_X6_tells_0 {sc : dS} {d : Nat} {K : List (Nat × Nat)} {M : dM} {v0 v1 v2 v3 : Int} {q4 : dV} : vr sc d c_X6_tells (0, [(2, v0), (0, v1), (0, v2), (0, v3), q4], [], (K, M)) = ((vc sc d 111 [(0, v1)] (K, M)).bind (fun r => vr sc d c_X6_tells (4, [(2, v0), (0, v1), (0, v2), (0, v3), q4], r.1 ++ [], r.2))) := by
  refine (vr_steps 1 (x' := (1, [(2, v0), (0, v1), (0, v2), (0, v3), q4], [(0, v1)], (K, M))) rfl).trans ?_
  exact (v_stat (k := 111) (n := 1) (code := c_X6_tells) (pc := 1) (len := 3) (L := [(2, v0), (0, v1), (0, v2), (0, v3), q4]) (st := [(0, v1)]) rfl (Nat.le_of_ble_eq_true rfl) (Nat.le_of_ble_eq_true rfl)).trans rfl
set_option maxRecDepth 100000 in
theorem e_X6_tells_4 {sc : dS} {d : Nat} {K : List (Nat × Nat)} {M : dM} {v0 v1 v2 v3 s0 : Int} {q4 : dV} : vr sc d c_X6_tells (4, [(2, v0), (0, v1), (0, v2), (0, v3), q4], [(0, s0)], (K, M)) = (if s0 = 0 then some ([(0, (-2))], (K, M)) else (if og K 6 v0 0 = true then (if rg K 5 (M v0 0) = true then (vc sc d 53 [(2, M v0 0), (0, v2)] (K, M)).bind (fun r => vr sc d c_X6_tells (15, [(2, v0), (0, v1), (0, v2), (0, v3), q4], r.1 ++ [], r.2)) else none) else none)) := by
  refine (v_if (k := 0) (b := 27) (c := s0 = 0) rfl rfl).trans ?_
  refine c_congr (fun _ => ?_) (fun _ => ?_)
  · refine (vr_steps 1 (x' := (29, [(2, v0), (0, v1), (0, v2), (0, v3), q4], [(0, (-2))], (K, M))) rfl).trans ?_
    exact vr_ret (ai := (35, 1, 1, 0, [])) rfl rfl
  · refine (vr_steps 1 (x' := (8, [(2, v0), (0, v1), (0, v2), (0, v3), q4], [(2, v0)], (K, M))) rfl).trans ?_
    refine (v_getf (a := 6) (b := 0) (t := 2) rfl rfl).trans ?_
    refine g_congr (fun _ => ?_)
    refine (vr_steps 1 (x' := (12, [(2, v0), (0, v1), (0, v2), (0, v3), q4], [(0, v2), (2, M v0 0)], (K, M))) rfl).trans ?_
    exact (v_virt (k := 53) (n := 2) (tag := 5) (r := M v0 0) (av := [(0, v2)]) (code := c_X6_tells) (pc := 12) (len := 3) (L := [(2, v0), (0, v1), (0, v2), (0, v3), q4]) (st := [(0, v2), (2, M v0 0)]) rfl (Nat.le_of_ble_eq_true rfl) (Nat.le_of_ble_eq_true rfl) rfl).trans rfl
set_option maxRecDepth 100000 in
theorem e_X6_tells_15 {sc : dS} {d : Nat} {K : List (Nat × Nat)} {M : dM} {v0 v1 v2 v3 s0 : Int} {q4 : dV} : vr sc d c_X6_tells (15, [(2, v0), (0, v1), (0, v2), (0, v3), q4], [(0, s0)], (K, M)) = (if s0 = 0 then some ([(0, (-2))], (K, M)) else (vc sc d 107 [(0, v3), (0, 8)] (K, M)).bind (fun r => vr sc d c_X6_tells (24, [(2, v0), (0, v1), (0, v2), (0, v3), q4], r.1 ++ [], r.2))) := by
  refine (v_if (k := 0) (b := 27) (c := s0 = 0) rfl rfl).trans ?_
  refine c_congr (fun _ => ?_) (fun _ => ?_)
  · refine (vr_steps 1 (x' := (29, [(2, v0), (0, v1), (0, v2), (0, v3), q4], [(0, (-2))], (K, M))) rfl).trans ?_
    exact vr_ret (ai := (35, 1, 1, 0, [])) rfl rfl
  · refine (vr_steps 2 (x' := (21, [(2, v0), (0, v1), (0, v2), (0, v3), q4], [(0, 8), (0, v3)], (K, M))) rfl).trans ?_
    exact (v_stat (k := 107) (n := 2) (code := c_X6_tells) (pc := 21) (len := 3) (L := [(2, v0), (0, v1), (0, v2), (0, v3), q4]) (st := [(0, 8), (0, v3)]) rfl (Nat.le_of_ble_eq_true rfl) (Nat.le_of_ble_eq_true rfl)).trans rfl
set_option maxRecDepth 100000 in
theorem e_X6_tells_24 {sc : dS} {d : Nat} {K : List (Nat × Nat)} {M : dM} {v0 v1 v2 v3 s0 : Int} {q4 : dV} : vr sc d c_X6_tells (24, [(2, v0), (0, v1), (0, v2), (0, v3), q4], [(0, s0)], (K, M)) = (if ¬ s0 = 0 then (if og K 6 v0 6 = true then (if ag K 12 (M v0 6) v1 = true then (if rg K 3 (M (M v0 6) v1) = true then (vc sc d 45 [(2, M (M v0 6) v1)] (K, M)).bind (fun r => vr sc d c_X6_tells (43, [(2, v0), (0, v1), (0, v2), (0, v3), (2, M (M v0 6) v1)], r.1 ++ [], r.2)) else none) else none) else none) else some ([(0, (-2))], (K, M))) := by
  refine (v_if (k := 1) (b := 30) (c := ¬ s0 = 0) rfl rfl).trans ?_
  refine c_congr (fun _ => ?_) (fun _ => ?_)
  · refine (vr_steps 1 (x' := (31, [(2, v0), (0, v1), (0, v2), (0, v3), q4], [(2, v0)], (K, M))) rfl).trans ?_
    refine (v_getf (a := 6) (b := 6) (t := 2) rfl rfl).trans ?_
    refine g_congr (fun _ => ?_)
    refine (vr_steps 1 (x' := (35, [(2, v0), (0, v1), (0, v2), (0, v3), q4], [(0, v1), (2, M v0 6)], (K, M))) rfl).trans ?_
    refine (v_aldq (a := 12) rfl (by decide)).trans ?_
    refine g_congr (fun _ => ?_)
    refine (vr_steps 2 (x' := (40, [(2, v0), (0, v1), (0, v2), (0, v3), (2, M (M v0 6) v1)], [(2, M (M v0 6) v1)], (K, M))) rfl).trans ?_
    exact (v_virt (k := 45) (n := 1) (tag := 3) (r := M (M v0 6) v1) (av := []) (code := c_X6_tells) (pc := 40) (len := 3) (L := [(2, v0), (0, v1), (0, v2), (0, v3), (2, M (M v0 6) v1)]) (st := [(2, M (M v0 6) v1)]) rfl (Nat.le_of_ble_eq_true rfl) (Nat.le_of_ble_eq_true rfl) rfl).trans rfl
  · refine (vr_steps 1 (x' := (29, [(2, v0), (0, v1), (0, v2), (0, v3), q4], [(0, (-2))], (K, M))) rfl).trans ?_
    exact vr_ret (ai := (35, 1, 1, 0, [])) rfl rfl
set_option maxRecDepth 100000 in
theorem e_X6_tells_43 {sc : dS} {d : Nat} {K : List (Nat × Nat)} {M : dM} {v0 v1 v2 v3 v4 s0 : Int} : vr sc d c_X6_tells (43, [(2, v0), (0, v1), (0, v2), (0, v3), (2, v4)], [(0, s0)], (K, M)) = (if s0 = 0 then (if og K 3 v4 2 = true then (if (M v4 2) ≤ 13 then (if og K 6 v0 1 = true then (if og K 6 v0 0 = true then (if rg K 5 (M v0 1) = true then (vc sc d 52 [(2, M v0 1), (2, M v0 0)] (K, M)).bind (fun r => vr sc d c_X6_tells (73, [(2, v0), (0, v1), (0, v2), (0, v3), (2, v4)], r.1 ++ [], r.2)) else none) else none) else none) else some ([(0, (-2))], (K, M))) else none) else some ([(0, (-11))], (K, M))) := by
  refine (v_if (k := 0) (b := 49) (c := s0 = 0) rfl rfl).trans ?_
  refine c_congr (fun _ => ?_) (fun _ => ?_)
  · refine (vr_steps 1 (x' := (51, [(2, v0), (0, v1), (0, v2), (0, v3), (2, v4)], [(2, v4)], (K, M))) rfl).trans ?_
    refine (v_getf (a := 3) (b := 2) (t := 0) rfl rfl).trans ?_
    refine g_congr (fun _ => ?_)
    refine (vr_steps 1 (x' := (56, [(2, v0), (0, v1), (0, v2), (0, v3), (2, v4)], [(0, 13), (0, M v4 2)], (K, M))) rfl).trans ?_
    refine (v_icmp (k := 5) (b := 62) (c := (M v4 2) ≤ 13) rfl rfl).trans ?_
    refine c_congr (fun _ => ?_) (fun _ => ?_)
    · refine (vr_steps 1 (x' := (63, [(2, v0), (0, v1), (0, v2), (0, v3), (2, v4)], [(2, v0)], (K, M))) rfl).trans ?_
      refine (v_getf (a := 6) (b := 1) (t := 2) rfl rfl).trans ?_
      refine g_congr (fun _ => ?_)
      refine (vr_steps 1 (x' := (67, [(2, v0), (0, v1), (0, v2), (0, v3), (2, v4)], [(2, v0), (2, M v0 1)], (K, M))) rfl).trans ?_
      refine (v_getf (a := 6) (b := 0) (t := 2) rfl rfl).trans ?_
      refine g_congr (fun _ => ?_)
      exact (v_virt (k := 52) (n := 2) (tag := 5) (r := M v0 1) (av := [(2, M v0 0)]) (code := c_X6_tells) (pc := 70) (len := 3) (L := [(2, v0), (0, v1), (0, v2), (0, v3), (2, v4)]) (st := [(2, M v0 0), (2, M v0 1)]) rfl (Nat.le_of_ble_eq_true rfl) (Nat.le_of_ble_eq_true rfl) rfl).trans rfl
    · refine (vr_steps 1 (x' := (61, [(2, v0), (0, v1), (0, v2), (0, v3), (2, v4)], [(0, (-2))], (K, M))) rfl).trans ?_
      exact vr_ret (ai := (35, 1, 1, 0, [])) rfl rfl
  · refine (vr_steps 1 (x' := (48, [(2, v0), (0, v1), (0, v2), (0, v3), (2, v4)], [(0, (-11))], (K, M))) rfl).trans ?_
    exact vr_ret (ai := (35, 1, 1, 0, [])) rfl rfl
set_option maxRecDepth 100000 in
theorem e_X6_tells_73 {sc : dS} {d : Nat} {K : List (Nat × Nat)} {M : dM} {v0 v1 v2 v3 v4 : Int} : vr sc d c_X6_tells (73, [(2, v0), (0, v1), (0, v2), (0, v3), (2, v4)], [], (K, M)) = (if v3 = 0 then (if og K 6 v0 0 = true then (if rg K 6 v0 = true then (vc sc d 87 [(2, v0), (2, M v0 0), (2, v4), (0, v2)] (K, M)).bind (fun r => vr sc d c_X6_tells (131, [(2, v0), (0, v1), (0, v2), (0, v3), (2, v4)], r.1 ++ [], r.2)) else none) else none) else if v3 = 1 then (if rg K 6 v0 = true then (vc sc d 89 [(2, v0), (2, v4), (0, v2), (0, v3), (0, 6)] (K, M)).bind (fun r => vr sc d c_X6_tells (142, [(2, v0), (0, v1), (0, v2), (0, v3), (2, v4)], r.1 ++ [], r.2)) else none) else if v3 = 2 then (if rg K 6 v0 = true then (vc sc d 89 [(2, v0), (2, v4), (0, v2), (0, v3), (0, 10)] (K, M)).bind (fun r => vr sc d c_X6_tells (153, [(2, v0), (0, v1), (0, v2), (0, v3), (2, v4)], r.1 ++ [], r.2)) else none) else if v3 = 3 then (if rg K 6 v0 = true then (vc sc d 90 [(2, v0), (2, v4), (0, v2), (0, v3)] (K, M)).bind (fun r => vr sc d c_X6_tells (162, [(2, v0), (0, v1), (0, v2), (0, v3), (2, v4)], r.1 ++ [], r.2)) else none) else if v3 = 4 then (if rg K 6 v0 = true then (vc sc d 91 [(2, v0), (2, v4), (0, v2), (0, w32 (v3 - 1))] (K, M)).bind (fun r => vr sc d c_X6_tells (173, [(2, v0), (0, v1), (0, v2), (0, v3), (2, v4)], r.1 ++ [], r.2)) else none) else if v3 = 5 then (if rg K 6 v0 = true then (vc sc d 90 [(2, v0), (2, v4), (0, v2), (0, v3)] (K, M)).bind (fun r => vr sc d c_X6_tells (162, [(2, v0), (0, v1), (0, v2), (0, v3), (2, v4)], r.1 ++ [], r.2)) else none) else if v3 = 6 then (if rg K 6 v0 = true then (vc sc d 91 [(2, v0), (2, v4), (0, v2), (0, w32 (v3 - 1))] (K, M)).bind (fun r => vr sc d c_X6_tells (173, [(2, v0), (0, v1), (0, v2), (0, v3), (2, v4)], r.1 ++ [], r.2)) else none) else if v3 = 7 then (if og K 6 v0 4 = true then (if og K 2 (M v0 4) 1 = true then (if rg K 6 v0 = true then (vc sc d 89 [(2, v0), (2, v4), (0, v2), (0, v3), (0, M (M v0 4) 1)] (K, M)).bind (fun r => vr sc d c_X6_tells (189, [(2, v0), (0, v1), (0, v2), (0, v3), (2, v4)], r.1 ++ [], r.2)) else none) else none) else none) else (if rg K 6 v0 = true then (vc sc d 92 [(2, v0), (2, v4)] (K, M)).bind (fun r => vr sc d c_X6_tells (196, [(2, v0), (0, v1), (0, v2), (0, v3), (2, v4)], r.1 ++ [], r.2)) else none)) := by
  refine (vr_steps 1 (x' := (74, [(2, v0), (0, v1), (0, v2), (0, v3), (2, v4)], [(0, v3)], (K, M))) rfl).trans ?_
  refine (v_sw rfl).trans ?_
  show (if v3 = 0 then vr sc d c_X6_tells (120, [(2, v0), (0, v1), (0, v2), (0, v3), (2, v4)], [], (K, M)) else if v3 = 1 then vr sc d c_X6_tells (132, [(2, v0), (0, v1), (0, v2), (0, v3), (2, v4)], [], (K, M)) else if v3 = 2 then vr sc d c_X6_tells (143, [(2, v0), (0, v1), (0, v2), (0, v3), (2, v4)], [], (K, M)) else if v3 = 3 then vr sc d c_X6_tells (154, [(2, v0), (0, v1), (0, v2), (0, v3), (2, v4)], [], (K, M)) else if v3 = 4 then vr sc d c_X6_tells (163, [(2, v0), (0, v1), (0, v2), (0, v3), (2, v4)], [], (K, M)) else if v3 = 5 then vr sc d c_X6_tells (154, [(2, v0), (0, v1), (0, v2), (0, v3), (2, v4)], [], (K, M)) else if v3 = 6 then vr sc d c_X6_tells (163, [(2, v0), (0, v1), (0, v2), (0, v3), (2, v4)], [], (K, M)) else if v3 = 7 then vr sc d c_X6_tells (174, [(2, v0), (0, v1), (0, v2), (0, v3), (2, v4)], [], (K, M)) else vr sc d c_X6_tells (190, [(2, v0), (0, v1), (0, v2), (0, v3), (2, v4)], [], (K, M))) = _
  refine c_congr (fun _ => ?_) (fun _ => ?_)
  · refine (vr_steps 2 (x' := (122, [(2, v0), (0, v1), (0, v2), (0, v3), (2, v4)], [(2, v0), (2, v0)], (K, M))) rfl).trans ?_
    refine (v_getf (a := 6) (b := 0) (t := 2) rfl rfl).trans ?_
    refine g_congr (fun _ => ?_)
    refine (vr_steps 2 (x' := (128, [(2, v0), (0, v1), (0, v2), (0, v3), (2, v4)], [(0, v2), (2, v4), (2, M v0 0), (2, v0)], (K, M))) rfl).trans ?_
    exact (v_virt (k := 87) (n := 4) (tag := 6) (r := v0) (av := [(2, M v0 0), (2, v4), (0, v2)]) (code := c_X6_tells) (pc := 128) (len := 3) (L := [(2, v0), (0, v1), (0, v2), (0, v3), (2, v4)]) (st := [(0, v2), (2, v4), (2, M v0 0), (2, v0)]) rfl (Nat.le_of_ble_eq_true rfl) (Nat.le_of_ble_eq_true rfl) rfl).trans rfl
  refine c_congr (fun _ => ?_) (fun _ => ?_)
  · refine (vr_steps 5 (x' := (139, [(2, v0), (0, v1), (0, v2), (0, v3), (2, v4)], [(0, 6), (0, v3), (0, v2), (2, v4), (2, v0)], (K, M))) rfl).trans ?_
    exact (v_virt (k := 89) (n := 5) (tag := 6) (r := v0) (av := [(2, v4), (0, v2), (0, v3), (0, 6)]) (code := c_X6_tells) (pc := 139) (len := 3) (L := [(2, v0), (0, v1), (0, v2), (0, v3), (2, v4)]) (st := [(0, 6), (0, v3), (0, v2), (2, v4), (2, v0)]) rfl (Nat.le_of_ble_eq_true rfl) (Nat.le_of_ble_eq_true rfl) rfl).trans rfl
  refine c_congr (fun _ => ?_) (fun _ => ?_)
  · refine (vr_steps 5 (x' := (150, [(2, v0), (0, v1), (0, v2), (0, v3), (2, v4)], [(0, 10), (0, v3), (0, v2), (2, v4), (2, v0)], (K, M))) rfl).trans ?_
    exact (v_virt (k := 89) (n := 5) (tag := 6) (r := v0) (av := [(2, v4), (0, v2), (0, v3), (0, 10)]) (code := c_X6_tells) (pc := 150) (len := 3) (L := [(2, v0), (0, v1), (0, v2), (0, v3), (2, v4)]) (st := [(0, 10), (0, v3), (0, v2), (2, v4), (2, v0)]) rfl (Nat.le_of_ble_eq_true rfl) (Nat.le_of_ble_eq_true rfl) rfl).trans rfl
  refine c_congr (fun _ => ?_) (fun _ => ?_)
  · refine (vr_steps 4 (x' := (159, [(2, v0), (0, v1), (0, v2), (0, v3), (2, v4)], [(0, v3), (0, v2), (2, v4), (2, v0)], (K, M))) rfl).trans ?_
    exact (v_virt (k := 90) (n := 4) (tag := 6) (r := v0) (av := [(2, v4), (0, v2), (0, v3)]) (code := c_X6_tells) (pc := 159) (len := 3) (L := [(2, v0), (0, v1), (0, v2), (0, v3), (2, v4)]) (st := [(0, v3), (0, v2), (2, v4), (2, v0)]) rfl (Nat.le_of_ble_eq_true rfl) (Nat.le_of_ble_eq_true rfl) rfl).trans rfl
  refine c_congr (fun _ => ?_) (fun _ => ?_)
  · refine (vr_steps 6 (x' := (170, [(2, v0), (0, v1), (0, v2), (0, v3), (2, v4)], [(0, w32 (v3 - 1)), (0, v2), (2, v4), (2, v0)], (K, M))) rfl).trans ?_
    exact (v_virt (k := 91) (n := 4) (tag := 6) (r := v0) (av := [(2, v4), (0, v2), (0, w32 (v3 - 1))]) (code := c_X6_tells) (pc := 170) (len := 3) (L := [(2, v0), (0, v1), (0, v2), (0, v3), (2, v4)]) (st := [(0, w32 (v3 - 1)), (0, v2), (2, v4), (2, v0)]) rfl (Nat.le_of_ble_eq_true rfl) (Nat.le_of_ble_eq_true rfl) rfl).trans rfl
  refine c_congr (fun _ => ?_) (fun _ => ?_)
  · refine (vr_steps 4 (x' := (159, [(2, v0), (0, v1), (0, v2), (0, v3), (2, v4)], [(0, v3), (0, v2), (2, v4), (2, v0)], (K, M))) rfl).trans ?_
    exact (v_virt (k := 90) (n := 4) (tag := 6) (r := v0) (av := [(2, v4), (0, v2), (0, v3)]) (code := c_X6_tells) (pc := 159) (len := 3) (L := [(2, v0), (0, v1), (0, v2), (0, v3), (2, v4)]) (st := [(0, v3), (0, v2), (2, v4), (2, v0)]) rfl (Nat.le_of_ble_eq_true rfl) (Nat.le_of_ble_eq_true rfl) rfl).trans rfl
  refine c_congr (fun _ => ?_) (fun _ => ?_)
  · refine (vr_steps 6 (x' := (170, [(2, v0), (0, v1), (0, v2), (0, v3), (2, v4)], [(0, w32 (v3 - 1)), (0, v2), (2, v4), (2, v0)], (K, M))) rfl).trans ?_
    exact (v_virt (k := 91) (n := 4) (tag := 6) (r := v0) (av := [(2, v4), (0, v2), (0, w32 (v3 - 1))]) (code := c_X6_tells) (pc := 170) (len := 3) (L := [(2, v0), (0, v1), (0, v2), (0, v3), (2, v4)]) (st := [(0, w32 (v3 - 1)), (0, v2), (2, v4), (2, v0)]) rfl (Nat.le_of_ble_eq_true rfl) (Nat.le_of_ble_eq_true rfl) rfl).trans rfl
  refine c_congr (fun _ => ?_) (fun _ => ?_)
  · refine (vr_steps 5 (x' := (180, [(2, v0), (0, v1), (0, v2), (0, v3), (2, v4)], [(2, v0), (0, v3), (0, v2), (2, v4), (2, v0)], (K, M))) rfl).trans ?_
    refine (v_getf (a := 6) (b := 4) (t := 2) rfl rfl).trans ?_
    refine g_congr (fun _ => ?_)
    refine (v_getf (a := 2) (b := 1) (t := 0) rfl rfl).trans ?_
    refine g_congr (fun _ => ?_)
    exact (v_virt (k := 89) (n := 5) (tag := 6) (r := v0) (av := [(2, v4), (0, v2), (0, v3), (0, M (M v0 4) 1)]) (code := c_X6_tells) (pc := 186) (len := 3) (L := [(2, v0), (0, v1), (0, v2), (0, v3), (2, v4)]) (st := [(0, M (M v0 4) 1), (0, v3), (0, v2), (2, v4), (2, v0)]) rfl (Nat.le_of_ble_eq_true rfl) (Nat.le_of_ble_eq_true rfl) rfl).trans rfl
  refine (vr_steps 2 (x' := (193, [(2, v0), (0, v1), (0, v2), (0, v3), (2, v4)], [(2, v4), (2, v0)], (K, M))) rfl).trans ?_
  exact (v_virt (k := 92) (n := 2) (tag := 6) (r := v0) (av := [(2, v4)]) (code := c_X6_tells) (pc := 193) (len := 3) (L := [(2, v0), (0, v1), (0, v2), (0, v3), (2, v4)]) (st := [(2, v4), (2, v0)]) rfl (Nat.le_of_ble_eq_true rfl) (Nat.le_of_ble_eq_true rfl) rfl).trans rfl
set_option maxRecDepth 100000 in
theorem e_X6_tells_131 {sc : dS} {d : Nat} {K : List (Nat × Nat)} {M : dM} {v0 v1 v2 v3 v4 s0 : Int} : vr sc d c_X6_tells (131, [(2, v0), (0, v1), (0, v2), (0, v3), (2, v4)], [(0, s0)], (K, M)) = (some ([(0, s0)], (K, M))) := by
  exact vr_ret (ai := (35, 1, 1, 0, [])) rfl rfl
set_option maxRecDepth 100000 in
theorem e_X6_tells_142 {sc : dS} {d : Nat} {K : List (Nat × Nat)} {M : dM} {v0 v1 v2 v3 v4 s0 : Int} : vr sc d c_X6_tells (142, [(2, v0), (0, v1), (0, v2), (0, v3), (2, v4)], [(0, s0)], (K, M)) = (some ([(0, s0)], (K, M))) := by
  exact vr_ret (ai := (35, 1, 1, 0, [])) rfl rfl
set_option maxRecDepth 100000 in
theorem e_X6_tells_153 {sc : dS} {d : Nat} {K : List (Nat × Nat)} {M : dM} {v0 v1 v2 v3 v4 s0 : Int} : vr sc d c_X6_tells (153, [(2, v0), (0, v1), (0, v2), (0, v3), (2, v4)], [(0, s0)], (K, M)) = (some ([(0, s0)], (K, M))) := by
  exact vr_ret (ai := (35, 1, 1, 0, [])) rfl rfl
set_option maxRecDepth 100000 in
theorem e_X6_tells_162 {sc : dS} {d : Nat} {K : List (Nat × Nat)} {M : dM} {v0 v1 v2 v3 v4 s0 : Int} : vr sc d c_X6_tells (162, [(2, v0), (0, v1), (0, v2), (0, v3), (2, v4)], [(0, s0)], (K, M)) = (some ([(0, s0)], (K, M))) := by
  exact vr_ret (ai := (35, 1, 1, 0, [])) rfl rfl
set_option maxRecDepth 100000 in
theorem e_X6_tells_173 {sc : dS} {d : Nat} {K : List (Nat × Nat)} {M : dM} {v0 v1 v2 v3 v4 s0 : Int} : vr sc d c_X6_tells (173, [(2, v0), (0, v1), (0, v2), (0, v3), (2, v4)], [(0, s0)], (K, M)) = (some ([(0, s0)], (K, M))) := by
  exact vr_ret (ai := (35, 1, 1, 0, [])) rfl rfl
set_option maxRecDepth 100000 in
theorem e_X6_tells_189 {sc : dS} {d : Nat} {K : List (Nat × Nat)} {M : dM} {v0 v1 v2 v3 v4 s0 : Int} : vr sc d c_X6_tells (189, [(2, v0), (0, v1), (0, v2), (0, v3), (2, v4)], [(0, s0)], (K, M)) = (some ([(0, s0)], (K, M))) := by
  exact vr_ret (ai := (35, 1, 1, 0, [])) rfl rfl
set_option maxRecDepth 100000 in
theorem e_X6_tells_196 {sc : dS} {d : Nat} {K : List (Nat × Nat)} {M : dM} {v0 v1 v2 v3 v4 s0 : Int} : vr sc d c_X6_tells (196, [(2, v0), (0, v1), (0, v2), (0, v3), (2, v4)], [(0, s0)], (K, M)) = (some ([(0, s0)], (K, M))) := by
  exact vr_ret (ai := (35, 1, 1, 0, [])) rfl rfl

noncomputable def c_X6_firstOtherwise : Nat → Option dI := d_mcode m_X6_firstOtherwise
set_option maxRecDepth 100000 in
theorem e_X6_firstOtherwise_0 {sc : dS} {d : Nat} {K : List (Nat × Nat)} {M : dM} {v0 v1 v2 v3 : Int} {q4 : dV} : vr sc d c_X6_firstOtherwise (0, [(2, v0), (2, v1), (2, v2), (0, v3), q4], [], (K, M)) = (vr sc d c_X6_firstOtherwise (3, [(2, v0), (2, v1), (2, v2), (0, v3), (0, 0)], [], (K, M))) := by
  exact vr_steps 2 rfl
set_option maxRecDepth 100000 in
theorem e_X6_firstOtherwise_3 {sc : dS} {d : Nat} {K : List (Nat × Nat)} {M : dM} {v0 v1 v2 v3 v4 : Int} : vr sc d c_X6_firstOtherwise (3, [(2, v0), (2, v1), (2, v2), (0, v3), (0, v4)], [], (K, M)) = (if og K 3 v2 2 = true then (if (M v2 2) ≤ v4 then some ([(0, (-1))], (K, M)) else (if og K 3 v2 0 = true then (if ag K 8 (M v2 0) v4 = true then (if og K 6 v0 4 = true then (if rg K 2 (M v0 4) = true then (vc sc d 39 [(2, M v0 4), (2, v1), (0, v3), (0, 0), (0, v4)] (K, M)).bind (fun r => vr sc d c_X6_firstOtherwise (31, [(2, v0), (2, v1), (2, v2), (0, v3), (0, v4)], r.1 ++ [(0, M (M v2 0) v4)], r.2)) else none) else none) else none) else none)) else none) := by
  refine (vr_steps 2 (x' := (6, [(2, v0), (2, v1), (2, v2), (0, v3), (0, v4)], [(2, v2), (0, v4)], (K, M))) rfl).trans ?_
  refine (v_getf (a := 3) (b := 2) (t := 0) rfl rfl).trans ?_
  refine g_congr (fun _ => ?_)
  refine (v_icmp (k := 3) (b := 43) (c := (M v2 2) ≤ v4) rfl rfl).trans ?_
  refine c_congr (fun _ => ?_) (fun _ => ?_)
  · refine (vr_steps 1 (x' := (44, [(2, v0), (2, v1), (2, v2), (0, v3), (0, v4)], [(0, (-1))], (K, M))) rfl).trans ?_
    exact vr_ret (ai := (35, 1, 1, 0, [])) rfl rfl
  · refine (vr_steps 1 (x' := (13, [(2, v0), (2, v1), (2, v2), (0, v3), (0, v4)], [(2, v2)], (K, M))) rfl).trans ?_
    refine (v_getf (a := 3) (b := 0) (t := 2) rfl rfl).trans ?_
    refine g_congr (fun _ => ?_)
    refine (vr_steps 1 (x' := (18, [(2, v0), (2, v1), (2, v2), (0, v3), (0, v4)], [(0, v4), (2, M v2 0)], (K, M))) rfl).trans ?_
    refine (v_ald (a := 8) rfl (by decide)).trans ?_
    refine g_congr (fun _ => ?_)
    refine (vr_steps 1 (x' := (20, [(2, v0), (2, v1), (2, v2), (0, v3), (0, v4)], [(2, v0), (0, M (M v2 0) v4)], (K, M))) rfl).trans ?_
    refine (v_getf (a := 6) (b := 4) (t := 2) rfl rfl).trans ?_
    refine g_congr (fun _ => ?_)
    refine (vr_steps 4 (x' := (28, [(2, v0), (2, v1), (2, v2), (0, v3), (0, v4)], [(0, v4), (0, 0), (0, v3), (2, v1), (2, M v0 4), (0, M (M v2 0) v4)], (K, M))) rfl).trans ?_
    exact (v_virt (k := 39) (n := 5) (tag := 2) (r := M v0 4) (av := [(2, v1), (0, v3), (0, 0), (0, v4)]) (code := c_X6_firstOtherwise) (pc := 28) (len := 3) (L := [(2, v0), (2, v1), (2, v2), (0, v3), (0, v4)]) (st := [(0, v4), (0, 0), (0, v3), (2, v1), (2, M v0 4), (0, M (M v2 0) v4)]) rfl (Nat.le_of_ble_eq_true rfl) (Nat.le_of_ble_eq_true rfl) rfl).trans rfl
set_option maxRecDepth 100000 in
theorem e_X6_firstOtherwise_31 {sc : dS} {d : Nat} {K : List (Nat × Nat)} {M : dM} {v0 v1 v2 v3 v4 s0 s1 : Int} : vr sc d c_X6_firstOtherwise (31, [(2, v0), (2, v1), (2, v2), (0, v3), (0, v4)], [(0, s1), (0, s0)], (K, M)) = (if s0 = s1 then vr sc d c_X6_firstOtherwise (3, [(2, v0), (2, v1), (2, v2), (0, v3), (0, w32 (v4 + 1))], [], (K, M)) else some ([(0, v4)], (K, M))) := by
  refine (v_icmp (k := 0) (b := 37) (c := s0 = s1) rfl rfl).trans ?_
  refine c_congr (fun _ => ?_) (fun _ => ?_)
  · exact vr_steps 2 rfl
  · refine (vr_steps 1 (x' := (36, [(2, v0), (2, v1), (2, v2), (0, v3), (0, v4)], [(0, v4)], (K, M))) rfl).trans ?_
    exact vr_ret (ai := (35, 1, 1, 0, [])) rfl rfl

noncomputable def c_X6_suppose : Nat → Option dI := d_mcode m_X6_suppose
set_option maxRecDepth 100000 in
theorem e_X6_suppose_0 {sc : dS} {d : Nat} {K : List (Nat × Nat)} {M : dM} {v0 v1 v2 v3 : Int} : vr sc d c_X6_suppose (0, [(2, v0), (0, v1), (0, v2), (0, v3)], [], (K, M)) = (if v2 = 1 then (if og K 6 v0 1 = true then (if og K 5 (M v0 1) 4 = true then (if ag K 8 (M (M v0 1) 4) v1 = true then some ([], (K, d_up M (M (M v0 1) 4) v1 v3)) else none) else none) else none) else if v2 = 2 then (if og K 6 v0 1 = true then (if og K 5 (M v0 1) 5 = true then (if ag K 8 (M (M v0 1) 5) v1 = true then some ([], (K, d_up M (M (M v0 1) 5) v1 v3)) else none) else none) else none) else if v2 = 3 then (if og K 6 v0 1 = true then (if og K 5 (M v0 1) 6 = true then (if ag K 8 (M (M v0 1) 6) v1 = true then some ([], (K, d_up M (M (M v0 1) 6) v1 v3)) else none) else none) else none) else if v2 = 4 then (if og K 6 v0 1 = true then (if og K 5 (M v0 1) 2 = true then (if -2147483648 ≤ v3 ∧ v3 < 2147483648 then some ([], (K, d_up M (M v0 1) 2 v3)) else none) else none) else none) else if v2 = 5 then (if og K 6 v0 1 = true then (if og K 5 (M v0 1) 7 = true then (if ag K 8 (M (M v0 1) 7) 0 = true then some ([], (K, d_up M (M (M v0 1) 7) 0 v3)) else none) else none) else none) else (if og K 6 v0 1 = true then (if og K 5 (M v0 1) 2 = true then (if -2147483648 ≤ v3 ∧ v3 < 2147483648 then some ([], (K, d_up M (M v0 1) 2 v3)) else none) else none) else none)) := by
  refine (vr_steps 1 (x' := (1, [(2, v0), (0, v1), (0, v2), (0, v3)], [(0, v2)], (K, M))) rfl).trans ?_
  refine (v_sw rfl).trans ?_
  show (if v2 = 1 then vr sc d c_X6_suppose (36, [(2, v0), (0, v1), (0, v2), (0, v3)], [], (K, M)) else if v2 = 2 then vr sc d c_X6_suppose (49, [(2, v0), (0, v1), (0, v2), (0, v3)], [], (K, M)) else if v2 = 3 then vr sc d c_X6_suppose (62, [(2, v0), (0, v1), (0, v2), (0, v3)], [], (K, M)) else if v2 = 4 then vr sc d c_X6_suppose (88, [(2, v0), (0, v1), (0, v2), (0, v3)], [], (K, M)) else if v2 = 5 then vr sc d c_X6_suppose (75, [(2, v0), (0, v1), (0, v2), (0, v3)], [], (K, M)) else vr sc d c_X6_suppose (88, [(2, v0), (0, v1), (0, v2), (0, v3)], [], (K, M))) = _
  refine c_congr (fun _ => ?_) (fun _ => ?_)
  · refine (vr_steps 1 (x' := (37, [(2, v0), (0, v1), (0, v2), (0, v3)], [(2, v0)], (K, M))) rfl).trans ?_
    refine (v_getf (a := 6) (b := 1) (t := 2) rfl rfl).trans ?_
    refine g_congr (fun _ => ?_)
    refine (v_getf (a := 5) (b := 4) (t := 2) rfl rfl).trans ?_
    refine g_congr (fun _ => ?_)
    refine (vr_steps 2 (x' := (45, [(2, v0), (0, v1), (0, v2), (0, v3)], [(0, v3), (0, v1), (2, M (M v0 1) 4)], (K, M))) rfl).trans ?_
    refine (v_ast rfl).trans ?_
    refine g_congr (fun _ => ?_)
    refine (vr_steps 1 (x' := (96, [(2, v0), (0, v1), (0, v2), (0, v3)], [], (K, d_up M (M (M v0 1) 4) v1 v3))) rfl).trans ?_
    exact vr_ret (ai := (35, 1, 0, 0, [])) rfl rfl
  refine c_congr (fun _ => ?_) (fun _ => ?_)
  · refine (vr_steps 1 (x' := (50, [(2, v0), (0, v1), (0, v2), (0, v3)], [(2, v0)], (K, M))) rfl).trans ?_
    refine (v_getf (a := 6) (b := 1) (t := 2) rfl rfl).trans ?_
    refine g_congr (fun _ => ?_)
    refine (v_getf (a := 5) (b := 5) (t := 2) rfl rfl).trans ?_
    refine g_congr (fun _ => ?_)
    refine (vr_steps 2 (x' := (58, [(2, v0), (0, v1), (0, v2), (0, v3)], [(0, v3), (0, v1), (2, M (M v0 1) 5)], (K, M))) rfl).trans ?_
    refine (v_ast rfl).trans ?_
    refine g_congr (fun _ => ?_)
    refine (vr_steps 1 (x' := (96, [(2, v0), (0, v1), (0, v2), (0, v3)], [], (K, d_up M (M (M v0 1) 5) v1 v3))) rfl).trans ?_
    exact vr_ret (ai := (35, 1, 0, 0, [])) rfl rfl
  refine c_congr (fun _ => ?_) (fun _ => ?_)
  · refine (vr_steps 1 (x' := (63, [(2, v0), (0, v1), (0, v2), (0, v3)], [(2, v0)], (K, M))) rfl).trans ?_
    refine (v_getf (a := 6) (b := 1) (t := 2) rfl rfl).trans ?_
    refine g_congr (fun _ => ?_)
    refine (v_getf (a := 5) (b := 6) (t := 2) rfl rfl).trans ?_
    refine g_congr (fun _ => ?_)
    refine (vr_steps 2 (x' := (71, [(2, v0), (0, v1), (0, v2), (0, v3)], [(0, v3), (0, v1), (2, M (M v0 1) 6)], (K, M))) rfl).trans ?_
    refine (v_ast rfl).trans ?_
    refine g_congr (fun _ => ?_)
    refine (vr_steps 1 (x' := (96, [(2, v0), (0, v1), (0, v2), (0, v3)], [], (K, d_up M (M (M v0 1) 6) v1 v3))) rfl).trans ?_
    exact vr_ret (ai := (35, 1, 0, 0, [])) rfl rfl
  refine c_congr (fun _ => ?_) (fun _ => ?_)
  · refine (vr_steps 1 (x' := (89, [(2, v0), (0, v1), (0, v2), (0, v3)], [(2, v0)], (K, M))) rfl).trans ?_
    refine (v_getf (a := 6) (b := 1) (t := 2) rfl rfl).trans ?_
    refine g_congr (fun _ => ?_)
    refine (vr_steps 1 (x' := (93, [(2, v0), (0, v1), (0, v2), (0, v3)], [(0, v3), (2, M v0 1)], (K, M))) rfl).trans ?_
    refine (v_putf (a := 5) (b := 2) (t := 0) rfl rfl (by intro q; cases q)).trans ?_
    refine g_congr (fun _ => ?_)
    refine p_congr (fun _ => ?_)
    exact vr_ret (ai := (35, 1, 0, 0, [])) rfl rfl
  refine c_congr (fun _ => ?_) (fun _ => ?_)
  · refine (vr_steps 1 (x' := (76, [(2, v0), (0, v1), (0, v2), (0, v3)], [(2, v0)], (K, M))) rfl).trans ?_
    refine (v_getf (a := 6) (b := 1) (t := 2) rfl rfl).trans ?_
    refine g_congr (fun _ => ?_)
    refine (v_getf (a := 5) (b := 7) (t := 2) rfl rfl).trans ?_
    refine g_congr (fun _ => ?_)
    refine (vr_steps 2 (x' := (84, [(2, v0), (0, v1), (0, v2), (0, v3)], [(0, v3), (0, 0), (2, M (M v0 1) 7)], (K, M))) rfl).trans ?_
    refine (v_ast rfl).trans ?_
    refine g_congr (fun _ => ?_)
    refine (vr_steps 1 (x' := (96, [(2, v0), (0, v1), (0, v2), (0, v3)], [], (K, d_up M (M (M v0 1) 7) 0 v3))) rfl).trans ?_
    exact vr_ret (ai := (35, 1, 0, 0, [])) rfl rfl
  refine (vr_steps 1 (x' := (89, [(2, v0), (0, v1), (0, v2), (0, v3)], [(2, v0)], (K, M))) rfl).trans ?_
  refine (v_getf (a := 6) (b := 1) (t := 2) rfl rfl).trans ?_
  refine g_congr (fun _ => ?_)
  refine (vr_steps 1 (x' := (93, [(2, v0), (0, v1), (0, v2), (0, v3)], [(0, v3), (2, M v0 1)], (K, M))) rfl).trans ?_
  refine (v_putf (a := 5) (b := 2) (t := 0) rfl rfl (by intro q; cases q)).trans ?_
  refine g_congr (fun _ => ?_)
  refine p_congr (fun _ => ?_)
  exact vr_ret (ai := (35, 1, 0, 0, [])) rfl rfl

noncomputable def c_X6_fittingBits : Nat → Option dI := d_mcode m_X6_fittingBits
set_option maxRecDepth 100000 in
theorem e_X6_fittingBits_0 {sc : dS} {d : Nat} {K : List (Nat × Nat)} {M : dM} {v0 v1 v2 v3 v4 : Int} {q5 q6 : dV} : vr sc d c_X6_fittingBits (0, [(2, v0), (2, v1), (0, v2), (0, v3), (0, v4), q5, q6], [], (K, M)) = (vr sc d c_X6_fittingBits (6, [(2, v0), (2, v1), (0, v2), (0, v3), (0, v4), (0, 0), (0, 0)], [], (K, M))) := by
  exact vr_steps 4 rfl
set_option maxRecDepth 100000 in
theorem e_X6_fittingBits_6 {sc : dS} {d : Nat} {K : List (Nat × Nat)} {M : dM} {v0 v1 v2 v3 v4 v5 v6 : Int} : vr sc d c_X6_fittingBits (6, [(2, v0), (2, v1), (0, v2), (0, v3), (0, v4), (0, v5), (0, v6)], [], (K, M)) = (if v4 ≤ v6 then some ([(0, v5)], (K, M)) else (if rg K 6 v0 = true then (vc sc d 88 [(2, v0), (0, v2), (0, v3), (0, v6)] (K, M)).bind (fun r => vr sc d c_X6_fittingBits (21, [(2, v0), (2, v1), (0, v2), (0, v3), (0, v4), (0, v5), (0, v6)], r.1 ++ [], r.2)) else none)) := by
  refine (vr_steps 2 (x' := (10, [(2, v0), (2, v1), (0, v2), (0, v3), (0, v4), (0, v5), (0, v6)], [(0, v4), (0, v6)], (K, M))) rfl).trans ?_
  refine (v_icmp (k := 3) (b := 50) (c := v4 ≤ v6) rfl rfl).trans ?_
  refine c_congr (fun _ => ?_) (fun _ => ?_)
  · refine (vr_steps 1 (x' := (52, [(2, v0), (2, v1), (0, v2), (0, v3), (0, v4), (0, v5), (0, v6)], [(0, v5)], (K, M))) rfl).trans ?_
    exact vr_ret (ai := (35, 1, 1, 0, [])) rfl rfl
  · refine (vr_steps 4 (x' := (18, [(2, v0), (2, v1), (0, v2), (0, v3), (0, v4), (0, v5), (0, v6)], [(0, v6), (0, v3), (0, v2), (2, v0)], (K, M))) rfl).trans ?_
    exact (v_virt (k := 88) (n := 4) (tag := 6) (r := v0) (av := [(0, v2), (0, v3), (0, v6)]) (code := c_X6_fittingBits) (pc := 18) (len := 3) (L := [(2, v0), (2, v1), (0, v2), (0, v3), (0, v4), (0, v5), (0, v6)]) (st := [(0, v6), (0, v3), (0, v2), (2, v0)]) rfl (Nat.le_of_ble_eq_true rfl) (Nat.le_of_ble_eq_true rfl) rfl).trans rfl
set_option maxRecDepth 100000 in
theorem e_X6_fittingBits_21 {sc : dS} {d : Nat} {K : List (Nat × Nat)} {M : dM} {v0 v1 v2 v3 v4 v5 v6 : Int} : vr sc d c_X6_fittingBits (21, [(2, v0), (2, v1), (0, v2), (0, v3), (0, v4), (0, v5), (0, v6)], [], (K, M)) = (if og K 6 v0 1 = true then (if rg K 6 v0 = true then (vc sc d 87 [(2, v0), (2, M v0 1), (2, v1), (0, v2)] (K, M)).bind (fun r => vr sc d c_X6_fittingBits (31, [(2, v0), (2, v1), (0, v2), (0, v3), (0, v4), (0, v5), (0, v6)], r.1 ++ [], r.2)) else none) else none) := by
  refine (vr_steps 2 (x' := (23, [(2, v0), (2, v1), (0, v2), (0, v3), (0, v4), (0, v5), (0, v6)], [(2, v0), (2, v0)], (K, M))) rfl).trans ?_
  refine (v_getf (a := 6) (b := 1) (t := 2) rfl rfl).trans ?_
  refine g_congr (fun _ => ?_)
  refine (vr_steps 2 (x' := (28, [(2, v0), (2, v1), (0, v2), (0, v3), (0, v4), (0, v5), (0, v6)], [(0, v2), (2, v1), (2, M v0 1), (2, v0)], (K, M))) rfl).trans ?_
  exact (v_virt (k := 87) (n := 4) (tag := 6) (r := v0) (av := [(2, M v0 1), (2, v1), (0, v2)]) (code := c_X6_fittingBits) (pc := 28) (len := 3) (L := [(2, v0), (2, v1), (0, v2), (0, v3), (0, v4), (0, v5), (0, v6)]) (st := [(0, v2), (2, v1), (2, M v0 1), (2, v0)]) rfl (Nat.le_of_ble_eq_true rfl) (Nat.le_of_ble_eq_true rfl) rfl).trans rfl
set_option maxRecDepth 100000 in
theorem e_X6_fittingBits_31 {sc : dS} {d : Nat} {K : List (Nat × Nat)} {M : dM} {v0 v1 v2 v3 v4 v5 v6 s0 : Int} : vr sc d c_X6_fittingBits (31, [(2, v0), (2, v1), (0, v2), (0, v3), (0, v4), (0, v5), (0, v6)], [(0, s0)], (K, M)) = (if ¬ s0 = (-1) then vr sc d c_X6_fittingBits (6, [(2, v0), (2, v1), (0, v2), (0, v3), (0, v4), (0, v5), (0, w32 (v6 + 1))], [], (K, M)) else vr sc d c_X6_fittingBits (6, [(2, v0), (2, v1), (0, v2), (0, v3), (0, v4), (0, i_or v5 (i_shl 1 v6)), (0, w32 (v6 + 1))], [], (K, M))) := by
  refine (vr_steps 1 (x' := (32, [(2, v0), (2, v1), (0, v2), (0, v3), (0, v4), (0, v5), (0, v6)], [(0, (-1)), (0, s0)], (K, M))) rfl).trans ?_
  refine (v_icmp (k := 1) (b := 44) (c := ¬ s0 = (-1)) rfl rfl).trans ?_
  refine c_congr (fun _ => ?_) (fun _ => ?_)
  · exact vr_steps 2 rfl
  · exact vr_steps 8 rfl

noncomputable def c_X6_fittingCount : Nat → Option dI := d_mcode m_X6_fittingCount
set_option maxRecDepth 100000 in
theorem e_X6_fittingCount_0 {sc : dS} {d : Nat} {K : List (Nat × Nat)} {M : dM} {v0 v1 v2 v3 : Int} {q4 q5 : dV} : vr sc d c_X6_fittingCount (0, [(2, v0), (2, v1), (0, v2), (0, v3), q4, q5], [], (K, M)) = (vr sc d c_X6_fittingCount (6, [(2, v0), (2, v1), (0, v2), (0, v3), (0, 0), (0, 0)], [], (K, M))) := by
  exact vr_steps 4 rfl
set_option maxRecDepth 100000 in
theorem e_X6_fittingCount_6 {sc : dS} {d : Nat} {K : List (Nat × Nat)} {M : dM} {v0 v1 v2 v3 v4 v5 : Int} : vr sc d c_X6_fittingCount (6, [(2, v0), (2, v1), (0, v2), (0, v3), (0, v4), (0, v5)], [], (K, M)) = (if 99 < v5 then some ([(0, v4)], (K, M)) else (if rg K 6 v0 = true then (vc sc d 88 [(2, v0), (0, v2), (0, v3), (0, v5)] (K, M)).bind (fun r => vr sc d c_X6_fittingCount (21, [(2, v0), (2, v1), (0, v2), (0, v3), (0, v4), (0, v5)], r.1 ++ [], r.2)) else none)) := by
  refine (vr_steps 2 (x' := (10, [(2, v0), (2, v1), (0, v2), (0, v3), (0, v4), (0, v5)], [(0, 99), (0, v5)], (K, M))) rfl).trans ?_
  refine (v_icmp (k := 4) (b := 44) (c := 99 < v5) rfl rfl).trans ?_
  refine c_congr (fun _ => ?_) (fun _ => ?_)
  · refine (vr_steps 1 (x' := (46, [(2, v0), (2, v1), (0, v2), (0, v3), (0, v4), (0, v5)], [(0, v4)], (K, M))) rfl).trans ?_
    exact vr_ret (ai := (35, 1, 1, 0, [])) rfl rfl
  · refine (vr_steps 4 (x' := (18, [(2, v0), (2, v1), (0, v2), (0, v3), (0, v4), (0, v5)], [(0, v5), (0, v3), (0, v2), (2, v0)], (K, M))) rfl).trans ?_
    exact (v_virt (k := 88) (n := 4) (tag := 6) (r := v0) (av := [(0, v2), (0, v3), (0, v5)]) (code := c_X6_fittingCount) (pc := 18) (len := 3) (L := [(2, v0), (2, v1), (0, v2), (0, v3), (0, v4), (0, v5)]) (st := [(0, v5), (0, v3), (0, v2), (2, v0)]) rfl (Nat.le_of_ble_eq_true rfl) (Nat.le_of_ble_eq_true rfl) rfl).trans rfl
set_option maxRecDepth 100000 in
theorem e_X6_fittingCount_21 {sc : dS} {d : Nat} {K : List (Nat × Nat)} {M : dM} {v0 v1 v2 v3 v4 v5 : Int} : vr sc d c_X6_fittingCount (21, [(2, v0), (2, v1), (0, v2), (0, v3), (0, v4), (0, v5)], [], (K, M)) = (if og K 6 v0 1 = true then (if rg K 6 v0 = true then (vc sc d 87 [(2, v0), (2, M v0 1), (2, v1), (0, v2)] (K, M)).bind (fun r => vr sc d c_X6_fittingCount (31, [(2, v0), (2, v1), (0, v2), (0, v3), (0, v4), (0, v5)], r.1 ++ [], r.2)) else none) else none) := by
  refine (vr_steps 2 (x' := (23, [(2, v0), (2, v1), (0, v2), (0, v3), (0, v4), (0, v5)], [(2, v0), (2, v0)], (K, M))) rfl).trans ?_
  refine (v_getf (a := 6) (b := 1) (t := 2) rfl rfl).trans ?_
  refine g_congr (fun _ => ?_)
  refine (vr_steps 2 (x' := (28, [(2, v0), (2, v1), (0, v2), (0, v3), (0, v4), (0, v5)], [(0, v2), (2, v1), (2, M v0 1), (2, v0)], (K, M))) rfl).trans ?_
  exact (v_virt (k := 87) (n := 4) (tag := 6) (r := v0) (av := [(2, M v0 1), (2, v1), (0, v2)]) (code := c_X6_fittingCount) (pc := 28) (len := 3) (L := [(2, v0), (2, v1), (0, v2), (0, v3), (0, v4), (0, v5)]) (st := [(0, v2), (2, v1), (2, M v0 1), (2, v0)]) rfl (Nat.le_of_ble_eq_true rfl) (Nat.le_of_ble_eq_true rfl) rfl).trans rfl
set_option maxRecDepth 100000 in
theorem e_X6_fittingCount_31 {sc : dS} {d : Nat} {K : List (Nat × Nat)} {M : dM} {v0 v1 v2 v3 v4 v5 s0 : Int} : vr sc d c_X6_fittingCount (31, [(2, v0), (2, v1), (0, v2), (0, v3), (0, v4), (0, v5)], [(0, s0)], (K, M)) = (if ¬ s0 = (-1) then vr sc d c_X6_fittingCount (6, [(2, v0), (2, v1), (0, v2), (0, v3), (0, v4), (0, w32 (v5 + 1))], [], (K, M)) else vr sc d c_X6_fittingCount (6, [(2, v0), (2, v1), (0, v2), (0, v3), (0, w32 (v4 + 1)), (0, w32 (v5 + 1))], [], (K, M))) := by
  refine (vr_steps 1 (x' := (32, [(2, v0), (2, v1), (0, v2), (0, v3), (0, v4), (0, v5)], [(0, (-1)), (0, s0)], (K, M))) rfl).trans ?_
  refine (v_icmp (k := 1) (b := 38) (c := ¬ s0 = (-1)) rfl rfl).trans ?_
  refine c_congr (fun _ => ?_) (fun _ => ?_)
  · exact vr_steps 2 rfl
  · exact vr_steps 3 rfl

noncomputable def c_X6_fittingLeast : Nat → Option dI := d_mcode m_X6_fittingLeast
set_option maxRecDepth 100000 in
theorem e_X6_fittingLeast_0 {sc : dS} {d : Nat} {K : List (Nat × Nat)} {M : dM} {v0 v1 v2 v3 : Int} {q4 : dV} : vr sc d c_X6_fittingLeast (0, [(2, v0), (2, v1), (0, v2), (0, v3), q4], [], (K, M)) = (vr sc d c_X6_fittingLeast (3, [(2, v0), (2, v1), (0, v2), (0, v3), (0, 0)], [], (K, M))) := by
  exact vr_steps 2 rfl
set_option maxRecDepth 100000 in
theorem e_X6_fittingLeast_3 {sc : dS} {d : Nat} {K : List (Nat × Nat)} {M : dM} {v0 v1 v2 v3 v4 : Int} : vr sc d c_X6_fittingLeast (3, [(2, v0), (2, v1), (0, v2), (0, v3), (0, v4)], [], (K, M)) = (if 99 < v4 then some ([(0, (-1))], (K, M)) else (if rg K 6 v0 = true then (vc sc d 88 [(2, v0), (0, v2), (0, v3), (0, v4)] (K, M)).bind (fun r => vr sc d c_X6_fittingLeast (18, [(2, v0), (2, v1), (0, v2), (0, v3), (0, v4)], r.1 ++ [], r.2)) else none)) := by
  refine (vr_steps 2 (x' := (7, [(2, v0), (2, v1), (0, v2), (0, v3), (0, v4)], [(0, 99), (0, v4)], (K, M))) rfl).trans ?_
  refine (v_icmp (k := 4) (b := 41) (c := 99 < v4) rfl rfl).trans ?_
  refine c_congr (fun _ => ?_) (fun _ => ?_)
  · refine (vr_steps 1 (x' := (42, [(2, v0), (2, v1), (0, v2), (0, v3), (0, v4)], [(0, (-1))], (K, M))) rfl).trans ?_
    exact vr_ret (ai := (35, 1, 1, 0, [])) rfl rfl
  · refine (vr_steps 4 (x' := (15, [(2, v0), (2, v1), (0, v2), (0, v3), (0, v4)], [(0, v4), (0, v3), (0, v2), (2, v0)], (K, M))) rfl).trans ?_
    exact (v_virt (k := 88) (n := 4) (tag := 6) (r := v0) (av := [(0, v2), (0, v3), (0, v4)]) (code := c_X6_fittingLeast) (pc := 15) (len := 3) (L := [(2, v0), (2, v1), (0, v2), (0, v3), (0, v4)]) (st := [(0, v4), (0, v3), (0, v2), (2, v0)]) rfl (Nat.le_of_ble_eq_true rfl) (Nat.le_of_ble_eq_true rfl) rfl).trans rfl
set_option maxRecDepth 100000 in
theorem e_X6_fittingLeast_18 {sc : dS} {d : Nat} {K : List (Nat × Nat)} {M : dM} {v0 v1 v2 v3 v4 : Int} : vr sc d c_X6_fittingLeast (18, [(2, v0), (2, v1), (0, v2), (0, v3), (0, v4)], [], (K, M)) = (if og K 6 v0 1 = true then (if rg K 6 v0 = true then (vc sc d 87 [(2, v0), (2, M v0 1), (2, v1), (0, v2)] (K, M)).bind (fun r => vr sc d c_X6_fittingLeast (28, [(2, v0), (2, v1), (0, v2), (0, v3), (0, v4)], r.1 ++ [], r.2)) else none) else none) := by
  refine (vr_steps 2 (x' := (20, [(2, v0), (2, v1), (0, v2), (0, v3), (0, v4)], [(2, v0), (2, v0)], (K, M))) rfl).trans ?_
  refine (v_getf (a := 6) (b := 1) (t := 2) rfl rfl).trans ?_
  refine g_congr (fun _ => ?_)
  refine (vr_steps 2 (x' := (25, [(2, v0), (2, v1), (0, v2), (0, v3), (0, v4)], [(0, v2), (2, v1), (2, M v0 1), (2, v0)], (K, M))) rfl).trans ?_
  exact (v_virt (k := 87) (n := 4) (tag := 6) (r := v0) (av := [(2, M v0 1), (2, v1), (0, v2)]) (code := c_X6_fittingLeast) (pc := 25) (len := 3) (L := [(2, v0), (2, v1), (0, v2), (0, v3), (0, v4)]) (st := [(0, v2), (2, v1), (2, M v0 1), (2, v0)]) rfl (Nat.le_of_ble_eq_true rfl) (Nat.le_of_ble_eq_true rfl) rfl).trans rfl
set_option maxRecDepth 100000 in
theorem e_X6_fittingLeast_28 {sc : dS} {d : Nat} {K : List (Nat × Nat)} {M : dM} {v0 v1 v2 v3 v4 s0 : Int} : vr sc d c_X6_fittingLeast (28, [(2, v0), (2, v1), (0, v2), (0, v3), (0, v4)], [(0, s0)], (K, M)) = (if ¬ s0 = (-1) then vr sc d c_X6_fittingLeast (3, [(2, v0), (2, v1), (0, v2), (0, v3), (0, w32 (v4 + 1))], [], (K, M)) else some ([(0, v4)], (K, M))) := by
  refine (vr_steps 1 (x' := (29, [(2, v0), (2, v1), (0, v2), (0, v3), (0, v4)], [(0, (-1)), (0, s0)], (K, M))) rfl).trans ?_
  refine (v_icmp (k := 1) (b := 35) (c := ¬ s0 = (-1)) rfl rfl).trans ?_
  refine c_congr (fun _ => ?_) (fun _ => ?_)
  · exact vr_steps 2 rfl
  · refine (vr_steps 1 (x' := (34, [(2, v0), (2, v1), (0, v2), (0, v3), (0, v4)], [(0, v4)], (K, M))) rfl).trans ?_
    exact vr_ret (ai := (35, 1, 1, 0, [])) rfl rfl

noncomputable def c_X6_fittingLads : Nat → Option dI := d_mcode m_X6_fittingLads
set_option maxRecDepth 100000 in
theorem e_X6_fittingLads_0 {sc : dS} {d : Nat} {K : List (Nat × Nat)} {M : dM} {v0 v1 : Int} {q2 q3 : dV} : vr sc d c_X6_fittingLads (0, [(2, v0), (2, v1), q2, q3], [], (K, M)) = (vr sc d c_X6_fittingLads (4, [(2, v0), (2, v1), (0, 0), (0, 0)], [], (K, M))) := by
  exact vr_steps 4 rfl
set_option maxRecDepth 100000 in
theorem e_X6_fittingLads_4 {sc : dS} {d : Nat} {K : List (Nat × Nat)} {M : dM} {v0 v1 v2 v3 : Int} : vr sc d c_X6_fittingLads (4, [(2, v0), (2, v1), (0, v2), (0, v3)], [], (K, M)) = (if og K 6 v0 0 = true then (if og K 5 (M v0 0) 3 = true then (if (M (M v0 0) 3) ≤ v3 then some ([(0, v2)], (K, M)) else (if og K 6 v0 0 = true then (if rg K 6 v0 = true then (vc sc d 87 [(2, v0), (2, M v0 0), (2, v1), (0, v3)] (K, M)).bind (fun r => vr sc d c_X6_fittingLads (25, [(2, v0), (2, v1), (0, v2), (0, v3)], r.1 ++ [], r.2)) else none) else none)) else none) else none) := by
  refine (vr_steps 2 (x' := (6, [(2, v0), (2, v1), (0, v2), (0, v3)], [(2, v0), (0, v3)], (K, M))) rfl).trans ?_
  refine (v_getf (a := 6) (b := 0) (t := 2) rfl rfl).trans ?_
  refine g_congr (fun _ => ?_)
  refine (v_getf (a := 5) (b := 3) (t := 0) rfl rfl).trans ?_
  refine g_congr (fun _ => ?_)
  refine (v_icmp (k := 3) (b := 41) (c := (M (M v0 0) 3) ≤ v3) rfl rfl).trans ?_
  refine c_congr (fun _ => ?_) (fun _ => ?_)
  · refine (vr_steps 1 (x' := (42, [(2, v0), (2, v1), (0, v2), (0, v3)], [(0, v2)], (K, M))) rfl).trans ?_
    exact vr_ret (ai := (35, 1, 1, 0, [])) rfl rfl
  · refine (vr_steps 2 (x' := (17, [(2, v0), (2, v1), (0, v2), (0, v3)], [(2, v0), (2, v0)], (K, M))) rfl).trans ?_
    refine (v_getf (a := 6) (b := 0) (t := 2) rfl rfl).trans ?_
    refine g_congr (fun _ => ?_)
    refine (vr_steps 2 (x' := (22, [(2, v0), (2, v1), (0, v2), (0, v3)], [(0, v3), (2, v1), (2, M v0 0), (2, v0)], (K, M))) rfl).trans ?_
    exact (v_virt (k := 87) (n := 4) (tag := 6) (r := v0) (av := [(2, M v0 0), (2, v1), (0, v3)]) (code := c_X6_fittingLads) (pc := 22) (len := 3) (L := [(2, v0), (2, v1), (0, v2), (0, v3)]) (st := [(0, v3), (2, v1), (2, M v0 0), (2, v0)]) rfl (Nat.le_of_ble_eq_true rfl) (Nat.le_of_ble_eq_true rfl) rfl).trans rfl
set_option maxRecDepth 100000 in
theorem e_X6_fittingLads_25 {sc : dS} {d : Nat} {K : List (Nat × Nat)} {M : dM} {v0 v1 v2 v3 s0 : Int} : vr sc d c_X6_fittingLads (25, [(2, v0), (2, v1), (0, v2), (0, v3)], [(0, s0)], (K, M)) = (if ¬ s0 = (-1) then vr sc d c_X6_fittingLads (4, [(2, v0), (2, v1), (0, v2), (0, w32 (v3 + 1))], [], (K, M)) else vr sc d c_X6_fittingLads (4, [(2, v0), (2, v1), (0, i_or v2 (i_shl 1 v3)), (0, w32 (v3 + 1))], [], (K, M))) := by
  refine (vr_steps 1 (x' := (26, [(2, v0), (2, v1), (0, v2), (0, v3)], [(0, (-1)), (0, s0)], (K, M))) rfl).trans ?_
  refine (v_icmp (k := 1) (b := 35) (c := ¬ s0 = (-1)) rfl rfl).trans ?_
  refine c_congr (fun _ => ?_) (fun _ => ?_)
  · exact vr_steps 2 rfl
  · exact vr_steps 8 rfl

noncomputable def c_X6_film : Nat → Option dI := d_mcode m_X6_film
set_option maxRecDepth 100000 in
theorem e_X6_film_0 {sc : dS} {d : Nat} {K : List (Nat × Nat)} {M : dM} {v0 v1 v2 : Int} {q3 q4 q5 : dV} : vr sc d c_X6_film (0, [(2, v0), (0, v1), (0, v2), q3, q4, q5], [], (K, M)) = ((vc sc d 111 [(0, v1)] (K, M)).bind (fun r => vr sc d c_X6_film (4, [(2, v0), (0, v1), (0, v2), q3, q4, q5], r.1 ++ [], r.2))) := by
  refine (vr_steps 1 (x' := (1, [(2, v0), (0, v1), (0, v2), q3, q4, q5], [(0, v1)], (K, M))) rfl).trans ?_
  exact (v_stat (k := 111) (n := 1) (code := c_X6_film) (pc := 1) (len := 3) (L := [(2, v0), (0, v1), (0, v2), q3, q4, q5]) (st := [(0, v1)]) rfl (Nat.le_of_ble_eq_true rfl) (Nat.le_of_ble_eq_true rfl)).trans rfl
set_option maxRecDepth 100000 in
theorem e_X6_film_4 {sc : dS} {d : Nat} {K : List (Nat × Nat)} {M : dM} {v0 v1 v2 s0 : Int} {q3 q4 q5 : dV} : vr sc d c_X6_film (4, [(2, v0), (0, v1), (0, v2), q3, q4, q5], [(0, s0)], (K, M)) = (if s0 = 0 then some ([(0, (-2))], (K, M)) else (if og K 6 v0 0 = true then (if rg K 5 (M v0 0) = true then (vc sc d 53 [(2, M v0 0), (0, v2)] (K, M)).bind (fun r => vr sc d c_X6_film (15, [(2, v0), (0, v1), (0, v2), q3, q4, q5], r.1 ++ [], r.2)) else none) else none)) := by
  refine (v_if (k := 0) (b := 18) (c := s0 = 0) rfl rfl).trans ?_
  refine c_congr (fun _ => ?_) (fun _ => ?_)
  · refine (vr_steps 1 (x' := (20, [(2, v0), (0, v1), (0, v2), q3, q4, q5], [(0, (-2))], (K, M))) rfl).trans ?_
    exact vr_ret (ai := (35, 1, 1, 0, [])) rfl rfl
  · refine (vr_steps 1 (x' := (8, [(2, v0), (0, v1), (0, v2), q3, q4, q5], [(2, v0)], (K, M))) rfl).trans ?_
    refine (v_getf (a := 6) (b := 0) (t := 2) rfl rfl).trans ?_
    refine g_congr (fun _ => ?_)
    refine (vr_steps 1 (x' := (12, [(2, v0), (0, v1), (0, v2), q3, q4, q5], [(0, v2), (2, M v0 0)], (K, M))) rfl).trans ?_
    exact (v_virt (k := 53) (n := 2) (tag := 5) (r := M v0 0) (av := [(0, v2)]) (code := c_X6_film) (pc := 12) (len := 3) (L := [(2, v0), (0, v1), (0, v2), q3, q4, q5]) (st := [(0, v2), (2, M v0 0)]) rfl (Nat.le_of_ble_eq_true rfl) (Nat.le_of_ble_eq_true rfl) rfl).trans rfl
set_option maxRecDepth 100000 in
theorem e_X6_film_15 {sc : dS} {d : Nat} {K : List (Nat × Nat)} {M : dM} {v0 v1 v2 s0 : Int} {q3 q4 q5 : dV} : vr sc d c_X6_film (15, [(2, v0), (0, v1), (0, v2), q3, q4, q5], [(0, s0)], (K, M)) = (if ¬ s0 = 0 then (if og K 6 v0 6 = true then (if ag K 12 (M v0 6) v1 = true then (if rg K 3 (M (M v0 6) v1) = true then (vc sc d 46 [(2, M (M v0 6) v1), (0, 0), (0, 13)] (K, M)).bind (fun r => vr sc d c_X6_film (35, [(2, v0), (0, v1), (0, v2), (2, M (M v0 6) v1), q4, q5], r.1 ++ [], r.2)) else none) else none) else none) else some ([(0, (-2))], (K, M))) := by
  refine (v_if (k := 1) (b := 21) (c := ¬ s0 = 0) rfl rfl).trans ?_
  refine c_congr (fun _ => ?_) (fun _ => ?_)
  · refine (vr_steps 1 (x' := (22, [(2, v0), (0, v1), (0, v2), q3, q4, q5], [(2, v0)], (K, M))) rfl).trans ?_
    refine (v_getf (a := 6) (b := 6) (t := 2) rfl rfl).trans ?_
    refine g_congr (fun _ => ?_)
    refine (vr_steps 1 (x' := (26, [(2, v0), (0, v1), (0, v2), q3, q4, q5], [(0, v1), (2, M v0 6)], (K, M))) rfl).trans ?_
    refine (v_aldq (a := 12) rfl (by decide)).trans ?_
    refine g_congr (fun _ => ?_)
    refine (vr_steps 4 (x' := (32, [(2, v0), (0, v1), (0, v2), (2, M (M v0 6) v1), q4, q5], [(0, 13), (0, 0), (2, M (M v0 6) v1)], (K, M))) rfl).trans ?_
    exact (v_virt (k := 46) (n := 3) (tag := 3) (r := M (M v0 6) v1) (av := [(0, 0), (0, 13)]) (code := c_X6_film) (pc := 32) (len := 3) (L := [(2, v0), (0, v1), (0, v2), (2, M (M v0 6) v1), q4, q5]) (st := [(0, 13), (0, 0), (2, M (M v0 6) v1)]) rfl (Nat.le_of_ble_eq_true rfl) (Nat.le_of_ble_eq_true rfl) rfl).trans rfl
  · refine (vr_steps 1 (x' := (20, [(2, v0), (0, v1), (0, v2), q3, q4, q5], [(0, (-2))], (K, M))) rfl).trans ?_
    exact vr_ret (ai := (35, 1, 1, 0, [])) rfl rfl
set_option maxRecDepth 100000 in
theorem e_X6_film_35 {sc : dS} {d : Nat} {K : List (Nat × Nat)} {M : dM} {v0 v1 v2 v3 : Int} {q4 q5 : dV} : vr sc d c_X6_film (35, [(2, v0), (0, v1), (0, v2), (2, v3), q4, q5], [], (K, M)) = (vr sc d c_X6_film (41, [(2, v0), (0, v1), (0, v2), (2, v3), (0, 0), (0, 0)], [], (K, M))) := by
  exact vr_steps 4 rfl
set_option maxRecDepth 100000 in
theorem e_X6_film_41 {sc : dS} {d : Nat} {K : List (Nat × Nat)} {M : dM} {v0 v1 v2 v3 v4 v5 : Int} : vr sc d c_X6_film (41, [(2, v0), (0, v1), (0, v2), (2, v3), (0, v4), (0, v5)], [], (K, M)) = (if og K 3 v3 2 = true then (if (M v3 2) ≤ v5 then some ([(0, v4)], (K, M)) else (if og K 3 v3 0 = true then (if og K 6 v0 4 = true then (if og K 6 v0 0 = true then (if rg K 2 (M v0 4) = true then (vc sc d 39 [(2, M v0 4), (2, M v0 0), (0, v2), (0, 0), (0, v5)] (K, M)).bind (fun r => vr sc d c_X6_film (71, [(2, v0), (0, v1), (0, v2), (2, v3), (0, v4), (0, v5)], r.1 ++ [(0, v5), (2, M v3 0)], r.2)) else none) else none) else none) else none)) else none) := by
  refine (vr_steps 2 (x' := (44, [(2, v0), (0, v1), (0, v2), (2, v3), (0, v4), (0, v5)], [(2, v3), (0, v5)], (K, M))) rfl).trans ?_
  refine (v_getf (a := 3) (b := 2) (t := 0) rfl rfl).trans ?_
  refine g_congr (fun _ => ?_)
  refine (v_icmp (k := 3) (b := 90) (c := (M v3 2) ≤ v5) rfl rfl).trans ?_
  refine c_congr (fun _ => ?_) (fun _ => ?_)
  · refine (vr_steps 1 (x' := (92, [(2, v0), (0, v1), (0, v2), (2, v3), (0, v4), (0, v5)], [(0, v4)], (K, M))) rfl).trans ?_
    exact vr_ret (ai := (35, 1, 1, 0, [])) rfl rfl
  · refine (vr_steps 1 (x' := (51, [(2, v0), (0, v1), (0, v2), (2, v3), (0, v4), (0, v5)], [(2, v3)], (K, M))) rfl).trans ?_
    refine (v_getf (a := 3) (b := 0) (t := 2) rfl rfl).trans ?_
    refine g_congr (fun _ => ?_)
    refine (vr_steps 2 (x' := (57, [(2, v0), (0, v1), (0, v2), (2, v3), (0, v4), (0, v5)], [(2, v0), (0, v5), (2, M v3 0)], (K, M))) rfl).trans ?_
    refine (v_getf (a := 6) (b := 4) (t := 2) rfl rfl).trans ?_
    refine g_congr (fun _ => ?_)
    refine (vr_steps 1 (x' := (61, [(2, v0), (0, v1), (0, v2), (2, v3), (0, v4), (0, v5)], [(2, v0), (2, M v0 4), (0, v5), (2, M v3 0)], (K, M))) rfl).trans ?_
    refine (v_getf (a := 6) (b := 0) (t := 2) rfl rfl).trans ?_
    refine g_congr (fun _ => ?_)
    refine (vr_steps 3 (x' := (68, [(2, v0), (0, v1), (0, v2), (2, v3), (0, v4), (0, v5)], [(0, v5), (0, 0), (0, v2), (2, M v0 0), (2, M v0 4), (0, v5), (2, M v3 0)], (K, M))) rfl).trans ?_
    exact (v_virt (k := 39) (n := 5) (tag := 2) (r := M v0 4) (av := [(2, M v0 0), (0, v2), (0, 0), (0, v5)]) (code := c_X6_film) (pc := 68) (len := 3) (L := [(2, v0), (0, v1), (0, v2), (2, v3), (0, v4), (0, v5)]) (st := [(0, v5), (0, 0), (0, v2), (2, M v0 0), (2, M v0 4), (0, v5), (2, M v3 0)]) rfl (Nat.le_of_ble_eq_true rfl) (Nat.le_of_ble_eq_true rfl) rfl).trans rfl
set_option maxRecDepth 100000 in
theorem e_X6_film_71 {sc : dS} {d : Nat} {K : List (Nat × Nat)} {M : dM} {v0 v1 v2 v3 v4 v5 s0 s1 s2 : Int} : vr sc d c_X6_film (71, [(2, v0), (0, v1), (0, v2), (2, v3), (0, v4), (0, v5)], [(0, s2), (0, s1), (2, s0)], (K, M)) = (if ag K 8 s0 s1 = true then (if og K 3 v3 0 = true then (if ag K 8 ((d_up M s0 s1 s2) v3 0) v5 = true then vr sc d c_X6_film (41, [(2, v0), (0, v1), (0, v2), (2, v3), (0, w32 (v4 + ((d_up M s0 s1 s2) ((d_up M s0 s1 s2) v3 0) v5))), (0, w32 (v5 + 1))], [], (K, d_up M s0 s1 s2)) else none) else none) else none) := by
  refine (v_ast rfl).trans ?_
  refine g_congr (fun _ => ?_)
  refine (vr_steps 2 (x' := (75, [(2, v0), (0, v1), (0, v2), (2, v3), (0, v4), (0, v5)], [(2, v3), (0, v4)], (K, d_up M s0 s1 s2))) rfl).trans ?_
  refine (v_getf (a := 3) (b := 0) (t := 2) rfl rfl).trans ?_
  refine g_congr (fun _ => ?_)
  refine (vr_steps 1 (x' := (80, [(2, v0), (0, v1), (0, v2), (2, v3), (0, v4), (0, v5)], [(0, v5), (2, (d_up M s0 s1 s2) v3 0), (0, v4)], (K, d_up M s0 s1 s2))) rfl).trans ?_
  refine (v_ald (a := 8) rfl (by decide)).trans ?_
  refine g_congr (fun _ => ?_)
  exact vr_steps 4 rfl

noncomputable def c_X6_drawn : Nat → Option dI := d_mcode m_X6_drawn
set_option maxRecDepth 100000 in
theorem e_X6_drawn_0 {sc : dS} {d : Nat} {K : List (Nat × Nat)} {M : dM} {v0 v1 v2 : Int} : vr sc d c_X6_drawn (0, [(2, v0), (0, v1), (0, v2)], [], (K, M)) = ((vc sc d 107 [(0, v2), (0, 12)] (K, M)).bind (fun r => vr sc d c_X6_drawn (6, [(2, v0), (0, v1), (0, v2)], r.1 ++ [], r.2))) := by
  refine (vr_steps 2 (x' := (3, [(2, v0), (0, v1), (0, v2)], [(0, 12), (0, v2)], (K, M))) rfl).trans ?_
  exact (v_stat (k := 107) (n := 2) (code := c_X6_drawn) (pc := 3) (len := 3) (L := [(2, v0), (0, v1), (0, v2)]) (st := [(0, 12), (0, v2)]) rfl (Nat.le_of_ble_eq_true rfl) (Nat.le_of_ble_eq_true rfl)).trans rfl
set_option maxRecDepth 100000 in
theorem e_X6_drawn_6 {sc : dS} {d : Nat} {K : List (Nat × Nat)} {M : dM} {v0 v1 v2 s0 : Int} : vr sc d c_X6_drawn (6, [(2, v0), (0, v1), (0, v2)], [(0, s0)], (K, M)) = (if ¬ s0 = 0 then (if rg K 6 v0 = true then (vc sc d 95 [(2, v0), (0, v1), (0, v2)] (K, M)).bind (fun r => vr sc d c_X6_drawn (18, [(2, v0), (0, v1), (0, v2)], r.1 ++ [], r.2)) else none) else some ([(0, (-2))], (K, M))) := by
  refine (v_if (k := 1) (b := 12) (c := ¬ s0 = 0) rfl rfl).trans ?_
  refine c_congr (fun _ => ?_) (fun _ => ?_)
  · refine (vr_steps 3 (x' := (15, [(2, v0), (0, v1), (0, v2)], [(0, v2), (0, v1), (2, v0)], (K, M))) rfl).trans ?_
    exact (v_virt (k := 95) (n := 3) (tag := 6) (r := v0) (av := [(0, v1), (0, v2)]) (code := c_X6_drawn) (pc := 15) (len := 3) (L := [(2, v0), (0, v1), (0, v2)]) (st := [(0, v2), (0, v1), (2, v0)]) rfl (Nat.le_of_ble_eq_true rfl) (Nat.le_of_ble_eq_true rfl) rfl).trans rfl
  · refine (vr_steps 1 (x' := (11, [(2, v0), (0, v1), (0, v2)], [(0, (-2))], (K, M))) rfl).trans ?_
    exact vr_ret (ai := (35, 1, 1, 0, [])) rfl rfl
set_option maxRecDepth 100000 in
theorem e_X6_drawn_18 {sc : dS} {d : Nat} {K : List (Nat × Nat)} {M : dM} {v0 v1 v2 s0 : Int} : vr sc d c_X6_drawn (18, [(2, v0), (0, v1), (0, v2)], [(0, s0)], (K, M)) = (some ([(0, s0)], (K, M))) := by
  exact vr_ret (ai := (35, 1, 1, 0, [])) rfl rfl

noncomputable def c_X6_turnsDrawn : Nat → Option dI := d_mcode m_X6_turnsDrawn
set_option maxRecDepth 100000 in
theorem e_X6_turnsDrawn_0 {sc : dS} {d : Nat} {K : List (Nat × Nat)} {M : dM} {v0 v1 v2 : Int} {q3 q4 : dV} : vr sc d c_X6_turnsDrawn (0, [(2, v0), (0, v1), (0, v2), q3, q4], [], (K, M)) = (if og K 6 v0 9 = true then (if og K 0 (M v0 9) 1 = true then (if -2147483648 ≤ 0 ∧ 0 < 2147483648 then vr sc d c_X6_turnsDrawn (13, [(2, v0), (0, v1), (0, v2), (0, v1), (0, 0)], [], (K, d_up M (M v0 9) 1 0)) else none) else none) else none) := by
  refine (vr_steps 3 (x' := (3, [(2, v0), (0, v1), (0, v2), (0, v1), q4], [(2, v0)], (K, M))) rfl).trans ?_
  refine (v_getf (a := 6) (b := 9) (t := 2) rfl rfl).trans ?_
  refine g_congr (fun _ => ?_)
  refine (vr_steps 1 (x' := (7, [(2, v0), (0, v1), (0, v2), (0, v1), q4], [(0, 0), (2, M v0 9)], (K, M))) rfl).trans ?_
  refine (v_putf (a := 0) (b := 1) (t := 0) rfl rfl (by intro q; cases q)).trans ?_
  refine g_congr (fun _ => ?_)
  refine p_congr (fun _ => ?_)
  exact vr_steps 2 rfl
set_option maxRecDepth 100000 in
theorem e_X6_turnsDrawn_13 {sc : dS} {d : Nat} {K : List (Nat × Nat)} {M : dM} {v0 v1 v2 v3 v4 : Int} : vr sc d c_X6_turnsDrawn (13, [(2, v0), (0, v1), (0, v2), (0, v3), (0, v4)], [], (K, M)) = (if v2 ≤ v4 then (if og K 6 v0 4 = true then (if og K 6 v0 9 = true then (if rg K 2 (M v0 4) = true then (vc sc d 33 [(2, M v0 4), (2, M v0 9)] (K, M)).bind (fun r => vr sc d c_X6_turnsDrawn (59, [(2, v0), (0, v1), (0, v2), (0, v3), (0, v4)], r.1 ++ [], r.2)) else none) else none) else none) else (if og K 6 v0 9 = true then (if rg K 0 (M v0 9) = true then (vc sc d 2 [(2, M v0 9), (0, w32 ((i_ushr (w32 ((w32 (v3 * 1103515245)) + 12345)) 9).tmod 4))] (K, M)).bind (fun r => vr sc d c_X6_turnsDrawn (42, [(2, v0), (0, v1), (0, v2), (0, w32 ((w32 (v3 * 1103515245)) + 12345)), (0, v4)], r.1 ++ [], r.2)) else none) else none)) := by
  refine (vr_steps 2 (x' := (16, [(2, v0), (0, v1), (0, v2), (0, v3), (0, v4)], [(0, v2), (0, v4)], (K, M))) rfl).trans ?_
  refine (v_icmp (k := 3) (b := 48) (c := v2 ≤ v4) rfl rfl).trans ?_
  refine c_congr (fun _ => ?_) (fun _ => ?_)
  · refine (vr_steps 1 (x' := (49, [(2, v0), (0, v1), (0, v2), (0, v3), (0, v4)], [(2, v0)], (K, M))) rfl).trans ?_
    refine (v_getf (a := 6) (b := 4) (t := 2) rfl rfl).trans ?_
    refine g_congr (fun _ => ?_)
    refine (vr_steps 1 (x' := (53, [(2, v0), (0, v1), (0, v2), (0, v3), (0, v4)], [(2, v0), (2, M v0 4)], (K, M))) rfl).trans ?_
    refine (v_getf (a := 6) (b := 9) (t := 2) rfl rfl).trans ?_
    refine g_congr (fun _ => ?_)
    exact (v_virt (k := 33) (n := 2) (tag := 2) (r := M v0 4) (av := [(2, M v0 9)]) (code := c_X6_turnsDrawn) (pc := 56) (len := 3) (L := [(2, v0), (0, v1), (0, v2), (0, v3), (0, v4)]) (st := [(2, M v0 9), (2, M v0 4)]) rfl (Nat.le_of_ble_eq_true rfl) (Nat.le_of_ble_eq_true rfl) rfl).trans rfl
  · refine (vr_steps 7 (x' := (30, [(2, v0), (0, v1), (0, v2), (0, w32 ((w32 (v3 * 1103515245)) + 12345)), (0, v4)], [(2, v0)], (K, M))) rfl).trans ?_
    refine (v_getf (a := 6) (b := 9) (t := 2) rfl rfl).trans ?_
    refine g_congr (fun _ => ?_)
    refine (vr_steps 5 (x' := (39, [(2, v0), (0, v1), (0, v2), (0, w32 ((w32 (v3 * 1103515245)) + 12345)), (0, v4)], [(0, w32 ((i_ushr (w32 ((w32 (v3 * 1103515245)) + 12345)) 9).tmod 4)), (2, M v0 9)], (K, M))) rfl).trans ?_
    exact (v_virt (k := 2) (n := 2) (tag := 0) (r := M v0 9) (av := [(0, w32 ((i_ushr (w32 ((w32 (v3 * 1103515245)) + 12345)) 9).tmod 4))]) (code := c_X6_turnsDrawn) (pc := 39) (len := 3) (L := [(2, v0), (0, v1), (0, v2), (0, w32 ((w32 (v3 * 1103515245)) + 12345)), (0, v4)]) (st := [(0, w32 ((i_ushr (w32 ((w32 (v3 * 1103515245)) + 12345)) 9).tmod 4)), (2, M v0 9)]) rfl (Nat.le_of_ble_eq_true rfl) (Nat.le_of_ble_eq_true rfl) rfl).trans rfl
set_option maxRecDepth 100000 in
theorem e_X6_turnsDrawn_42 {sc : dS} {d : Nat} {K : List (Nat × Nat)} {M : dM} {v0 v1 v2 v3 v4 : Int} : vr sc d c_X6_turnsDrawn (42, [(2, v0), (0, v1), (0, v2), (0, v3), (0, v4)], [], (K, M)) = (vr sc d c_X6_turnsDrawn (13, [(2, v0), (0, v1), (0, v2), (0, v3), (0, w32 (v4 + 1))], [], (K, M))) := by
  exact vr_steps 2 rfl
set_option maxRecDepth 100000 in
theorem e_X6_turnsDrawn_59 {sc : dS} {d : Nat} {K : List (Nat × Nat)} {M : dM} {v0 v1 v2 v3 v4 s0 : Int} : vr sc d c_X6_turnsDrawn (59, [(2, v0), (0, v1), (0, v2), (0, v3), (0, v4)], [(0, s0)], (K, M)) = (some ([(0, s0)], (K, M))) := by
  exact vr_ret (ai := (35, 1, 1, 0, [])) rfl rfl

noncomputable def c_X6_chance : Nat → Option dI := d_mcode m_X6_chance
set_option maxRecDepth 100000 in
theorem e_X6_chance_0 {sc : dS} {d : Nat} {K : List (Nat × Nat)} {M : dM} {v0 v1 v2 v3 v4 : Int} {q5 q6 : dV} : vr sc d c_X6_chance (0, [(2, v0), (0, v1), (0, v2), (0, v3), (0, v4), q5, q6], [], (K, M)) = (if v2 < 1 then some ([(1, (-4611686018427387904))], (K, M)) else (if 40 < v2 then some ([(1, (-4611686018427387904))], (K, M)) else (vc sc d 107 [(0, v3), (0, 12)] (K, M)).bind (fun r => vr sc d c_X6_chance (17, [(2, v0), (0, v1), (0, v2), (0, v3), (0, v4), q5, q6], r.1 ++ [], r.2)))) := by
  refine (vr_steps 2 (x' := (2, [(2, v0), (0, v1), (0, v2), (0, v3), (0, v4), q5, q6], [(0, 1), (0, v2)], (K, M))) rfl).trans ?_
  refine (v_icmp (k := 2) (b := 29) (c := v2 < 1) rfl rfl).trans ?_
  refine c_congr (fun _ => ?_) (fun _ => ?_)
  · refine (vr_steps 1 (x' := (32, [(2, v0), (0, v1), (0, v2), (0, v3), (0, v4), q5, q6], [(1, (-4611686018427387904))], (K, M))) rfl).trans ?_
    exact vr_ret (ai := (35, 1, 2, 0, [])) rfl rfl
  · refine (vr_steps 2 (x' := (8, [(2, v0), (0, v1), (0, v2), (0, v3), (0, v4), q5, q6], [(0, 40), (0, v2)], (K, M))) rfl).trans ?_
    refine (v_icmp (k := 4) (b := 29) (c := 40 < v2) rfl rfl).trans ?_
    refine c_congr (fun _ => ?_) (fun _ => ?_)
    · refine (vr_steps 1 (x' := (32, [(2, v0), (0, v1), (0, v2), (0, v3), (0, v4), q5, q6], [(1, (-4611686018427387904))], (K, M))) rfl).trans ?_
      exact vr_ret (ai := (35, 1, 2, 0, [])) rfl rfl
    · refine (vr_steps 2 (x' := (14, [(2, v0), (0, v1), (0, v2), (0, v3), (0, v4), q5, q6], [(0, 12), (0, v3)], (K, M))) rfl).trans ?_
      exact (v_stat (k := 107) (n := 2) (code := c_X6_chance) (pc := 14) (len := 3) (L := [(2, v0), (0, v1), (0, v2), (0, v3), (0, v4), q5, q6]) (st := [(0, 12), (0, v3)]) rfl (Nat.le_of_ble_eq_true rfl) (Nat.le_of_ble_eq_true rfl)).trans rfl
set_option maxRecDepth 100000 in
theorem e_X6_chance_17 {sc : dS} {d : Nat} {K : List (Nat × Nat)} {M : dM} {v0 v1 v2 v3 v4 s0 : Int} {q5 q6 : dV} : vr sc d c_X6_chance (17, [(2, v0), (0, v1), (0, v2), (0, v3), (0, v4), q5, q6], [(0, s0)], (K, M)) = (if s0 = 0 then some ([(1, (-4611686018427387904))], (K, M)) else (vc sc d 107 [(0, v4), (0, 1)] (K, M)).bind (fun r => vr sc d c_X6_chance (26, [(2, v0), (0, v1), (0, v2), (0, v3), (0, v4), q5, q6], r.1 ++ [], r.2))) := by
  refine (v_if (k := 0) (b := 29) (c := s0 = 0) rfl rfl).trans ?_
  refine c_congr (fun _ => ?_) (fun _ => ?_)
  · refine (vr_steps 1 (x' := (32, [(2, v0), (0, v1), (0, v2), (0, v3), (0, v4), q5, q6], [(1, (-4611686018427387904))], (K, M))) rfl).trans ?_
    exact vr_ret (ai := (35, 1, 2, 0, [])) rfl rfl
  · refine (vr_steps 2 (x' := (23, [(2, v0), (0, v1), (0, v2), (0, v3), (0, v4), q5, q6], [(0, 1), (0, v4)], (K, M))) rfl).trans ?_
    exact (v_stat (k := 107) (n := 2) (code := c_X6_chance) (pc := 23) (len := 3) (L := [(2, v0), (0, v1), (0, v2), (0, v3), (0, v4), q5, q6]) (st := [(0, 1), (0, v4)]) rfl (Nat.le_of_ble_eq_true rfl) (Nat.le_of_ble_eq_true rfl)).trans rfl
set_option maxRecDepth 100000 in
theorem e_X6_chance_26 {sc : dS} {d : Nat} {K : List (Nat × Nat)} {M : dM} {v0 v1 v2 v3 v4 s0 : Int} {q5 q6 : dV} : vr sc d c_X6_chance (26, [(2, v0), (0, v1), (0, v2), (0, v3), (0, v4), q5, q6], [(0, s0)], (K, M)) = (if ¬ s0 = 0 then vr sc d c_X6_chance (39, [(2, v0), (0, v1), (0, v2), (0, v3), (0, v4), (0, 0), (0, 0)], [], (K, M)) else some ([(1, (-4611686018427387904))], (K, M))) := by
  refine (v_if (k := 1) (b := 33) (c := ¬ s0 = 0) rfl rfl).trans ?_
  refine c_congr (fun _ => ?_) (fun _ => ?_)
  · exact vr_steps 4 rfl
  · refine (vr_steps 1 (x' := (32, [(2, v0), (0, v1), (0, v2), (0, v3), (0, v4), q5, q6], [(1, (-4611686018427387904))], (K, M))) rfl).trans ?_
    exact vr_ret (ai := (35, 1, 2, 0, [])) rfl rfl
set_option maxRecDepth 100000 in
theorem e_X6_chance_39 {sc : dS} {d : Nat} {K : List (Nat × Nat)} {M : dM} {v0 v1 v2 v3 v4 v5 v6 : Int} : vr sc d c_X6_chance (39, [(2, v0), (0, v1), (0, v2), (0, v3), (0, v4), (0, v5), (0, v6)], [], (K, M)) = (if v2 ≤ v6 then (vc sc d 97 [(0, v5), (0, v2), (0, v4)] (K, M)).bind (fun r => vr sc d c_X6_chance (76, [(2, v0), (0, v1), (0, v2), (0, v3), (0, v4), (0, v5), (0, v6)], r.1 ++ [], r.2)) else (if rg K 6 v0 = true then (vc sc d 95 [(2, v0), (0, w32 (v1 + v6)), (0, 12)] (K, M)).bind (fun r => vr sc d c_X6_chance (55, [(2, v0), (0, v1), (0, v2), (0, v3), (0, v4), (0, v5), (0, v6)], r.1 ++ [], r.2)) else none)) := by
  refine (vr_steps 2 (x' := (42, [(2, v0), (0, v1), (0, v2), (0, v3), (0, v4), (0, v5), (0, v6)], [(0, v2), (0, v6)], (K, M))) rfl).trans ?_
  refine (v_icmp (k := 3) (b := 68) (c := v2 ≤ v6) rfl rfl).trans ?_
  refine c_congr (fun _ => ?_) (fun _ => ?_)
  · refine (vr_steps 3 (x' := (73, [(2, v0), (0, v1), (0, v2), (0, v3), (0, v4), (0, v5), (0, v6)], [(0, v4), (0, v2), (0, v5)], (K, M))) rfl).trans ?_
    exact (v_stat (k := 97) (n := 3) (code := c_X6_chance) (pc := 73) (len := 3) (L := [(2, v0), (0, v1), (0, v2), (0, v3), (0, v4), (0, v5), (0, v6)]) (st := [(0, v4), (0, v2), (0, v5)]) rfl (Nat.le_of_ble_eq_true rfl) (Nat.le_of_ble_eq_true rfl)).trans rfl
  · refine (vr_steps 5 (x' := (52, [(2, v0), (0, v1), (0, v2), (0, v3), (0, v4), (0, v5), (0, v6)], [(0, 12), (0, w32 (v1 + v6)), (2, v0)], (K, M))) rfl).trans ?_
    exact (v_virt (k := 95) (n := 3) (tag := 6) (r := v0) (av := [(0, w32 (v1 + v6)), (0, 12)]) (code := c_X6_chance) (pc := 52) (len := 3) (L := [(2, v0), (0, v1), (0, v2), (0, v3), (0, v4), (0, v5), (0, v6)]) (st := [(0, 12), (0, w32 (v1 + v6)), (2, v0)]) rfl (Nat.le_of_ble_eq_true rfl) (Nat.le_of_ble_eq_true rfl) rfl).trans rfl
set_option maxRecDepth 100000 in
theorem e_X6_chance_55 {sc : dS} {d : Nat} {K : List (Nat × Nat)} {M : dM} {v0 v1 v2 v3 v4 v5 v6 s0 : Int} : vr sc d c_X6_chance (55, [(2, v0), (0, v1), (0, v2), (0, v3), (0, v4), (0, v5), (0, v6)], [(0, s0)], (K, M)) = (if s0 < v3 then vr sc d c_X6_chance (39, [(2, v0), (0, v1), (0, v2), (0, v3), (0, v4), (0, v5), (0, w32 (v6 + 1))], [], (K, M)) else vr sc d c_X6_chance (39, [(2, v0), (0, v1), (0, v2), (0, v3), (0, v4), (0, w32 (v5 + 1)), (0, w32 (v6 + 1))], [], (K, M))) := by
  refine (vr_steps 1 (x' := (56, [(2, v0), (0, v1), (0, v2), (0, v3), (0, v4), (0, v5), (0, v6)], [(0, v3), (0, s0)], (K, M))) rfl).trans ?_
  refine (v_icmp (k := 2) (b := 62) (c := s0 < v3) rfl rfl).trans ?_
  refine c_congr (fun _ => ?_) (fun _ => ?_)
  · exact vr_steps 2 rfl
  · exact vr_steps 3 rfl
set_option maxRecDepth 100000 in
theorem e_X6_chance_76 {sc : dS} {d : Nat} {K : List (Nat × Nat)} {M : dM} {v0 v1 v2 v3 v4 v5 v6 s0 : Int} : vr sc d c_X6_chance (76, [(2, v0), (0, v1), (0, v2), (0, v3), (0, v4), (0, v5), (0, v6)], [(0, s0)], (K, M)) = (some ([(1, s0)], (K, M))) := by
  refine (vr_steps 1 (x' := (77, [(2, v0), (0, v1), (0, v2), (0, v3), (0, v4), (0, v5), (0, v6)], [(1, s0)], (K, M))) rfl).trans ?_
  exact vr_ret (ai := (35, 1, 2, 0, [])) rfl rfl

noncomputable def c_X6_inLowestTerms : Nat → Option dI := d_mcode m_X6_inLowestTerms
set_option maxRecDepth 100000 in
theorem e_X6_inLowestTerms_0 {sc : dS} {d : Nat} {K : List (Nat × Nat)} {M : dM} {v0 v1 v2 : Int} {q3 q4 : dV} : vr sc d c_X6_inLowestTerms (0, [(0, v0), (0, v1), (0, v2), q3, q4], [], (K, M)) = (if ¬ v2 = 0 then vr sc d c_X6_inLowestTerms (13, [(0, v0), (0, v1), (0, v2), (0, v1), (0, v1)], [], (K, M)) else vr sc d c_X6_inLowestTerms (13, [(0, v0), (0, v1), (0, v2), (0, v0), (0, v1)], [], (K, M))) := by
  refine (vr_steps 1 (x' := (1, [(0, v0), (0, v1), (0, v2), q3, q4], [(0, v2)], (K, M))) rfl).trans ?_
  refine (v_if (k := 1) (b := 8) (c := ¬ v2 = 0) rfl rfl).trans ?_
  refine c_congr (fun _ => ?_) (fun _ => ?_)
  · exact vr_steps 4 rfl
  · exact vr_steps 5 rfl
set_option maxRecDepth 100000 in
theorem e_X6_inLowestTerms_13 {sc : dS} {d : Nat} {K : List (Nat × Nat)} {M : dM} {v0 v1 v2 v3 v4 : Int} : vr sc d c_X6_inLowestTerms (13, [(0, v0), (0, v1), (0, v2), (0, v3), (0, v4)], [], (K, M)) = (if v4 ≤ 1 then some ([(0, v3)], (K, M)) else (if v4 = 0 then none else if ¬ (w32 (v0.tmod v4)) = 0 then vr sc d c_X6_inLowestTerms (13, [(0, v0), (0, v1), (0, v2), (0, v3), (0, w32 (v4 + (-1)))], [], (K, M)) else (if v4 = 0 then none else if ¬ (w32 (v1.tmod v4)) = 0 then vr sc d c_X6_inLowestTerms (13, [(0, v0), (0, v1), (0, v2), (0, v3), (0, w32 (v4 + (-1)))], [], (K, M)) else (if v4 = 0 then none else some ([(0, w32 (v3.tdiv v4))], (K, M)))))) := by
  refine (vr_steps 2 (x' := (16, [(0, v0), (0, v1), (0, v2), (0, v3), (0, v4)], [(0, 1), (0, v4)], (K, M))) rfl).trans ?_
  refine (v_icmp (k := 5) (b := 44) (c := v4 ≤ 1) rfl rfl).trans ?_
  refine c_congr (fun _ => ?_) (fun _ => ?_)
  · refine (vr_steps 1 (x' := (45, [(0, v0), (0, v1), (0, v2), (0, v3), (0, v4)], [(0, v3)], (K, M))) rfl).trans ?_
    exact vr_ret (ai := (35, 1, 1, 0, [])) rfl rfl
  · refine (vr_steps 2 (x' := (22, [(0, v0), (0, v1), (0, v2), (0, v3), (0, v4)], [(0, v4), (0, v0)], (K, M))) rfl).trans ?_
    refine (v_div (k := 10) (w := w32 (v0.tmod v4)) rfl rfl).trans ?_
    refine n_congr (fun _ => ?_)
    refine (v_if (k := 1) (b := 38) (c := ¬ (w32 (v0.tmod v4)) = 0) rfl rfl).trans ?_
    refine c_congr (fun _ => ?_) (fun _ => ?_)
    · exact vr_steps 2 rfl
    · refine (vr_steps 2 (x' := (29, [(0, v0), (0, v1), (0, v2), (0, v3), (0, v4)], [(0, v4), (0, v1)], (K, M))) rfl).trans ?_
      refine (v_div (k := 10) (w := w32 (v1.tmod v4)) rfl rfl).trans ?_
      refine n_congr (fun _ => ?_)
      refine (v_if (k := 1) (b := 38) (c := ¬ (w32 (v1.tmod v4)) = 0) rfl rfl).trans ?_
      refine c_congr (fun _ => ?_) (fun _ => ?_)
      · exact vr_steps 2 rfl
      · refine (vr_steps 2 (x' := (36, [(0, v0), (0, v1), (0, v2), (0, v3), (0, v4)], [(0, v4), (0, v3)], (K, M))) rfl).trans ?_
        refine (v_div (k := 9) (w := w32 (v3.tdiv v4)) rfl rfl).trans ?_
        refine n_congr (fun _ => ?_)
        exact vr_ret (ai := (35, 1, 1, 0, [])) rfl rfl

noncomputable def c_X6_image : Nat → Option dI := d_mcode m_X6_image
set_option maxRecDepth 100000 in
theorem e_X6_image_0 {sc : dS} {d : Nat} {K : List (Nat × Nat)} {M : dM} {v0 : Int} : vr sc d c_X6_image (0, [(2, v0)], [], (K, M)) = (if og K 6 v0 2 = true then (if og K 6 v0 0 = true then (if rg K 5 (M v0 2) = true then (vc sc d 52 [(2, M v0 2), (2, M v0 0)] (K, M)).bind (fun r => vr sc d c_X6_image (11, [(2, v0)], r.1 ++ [], r.2)) else none) else none) else none) := by
  refine (vr_steps 1 (x' := (1, [(2, v0)], [(2, v0)], (K, M))) rfl).trans ?_
  refine (v_getf (a := 6) (b := 2) (t := 2) rfl rfl).trans ?_
  refine g_congr (fun _ => ?_)
  refine (vr_steps 1 (x' := (5, [(2, v0)], [(2, v0), (2, M v0 2)], (K, M))) rfl).trans ?_
  refine (v_getf (a := 6) (b := 0) (t := 2) rfl rfl).trans ?_
  refine g_congr (fun _ => ?_)
  exact (v_virt (k := 52) (n := 2) (tag := 5) (r := M v0 2) (av := [(2, M v0 0)]) (code := c_X6_image) (pc := 8) (len := 3) (L := [(2, v0)]) (st := [(2, M v0 0), (2, M v0 2)]) rfl (Nat.le_of_ble_eq_true rfl) (Nat.le_of_ble_eq_true rfl) rfl).trans rfl
set_option maxRecDepth 100000 in
theorem e_X6_image_11 {sc : dS} {d : Nat} {K : List (Nat × Nat)} {M : dM} {v0 : Int} : vr sc d c_X6_image (11, [(2, v0)], [], (K, M)) = (if og K 6 v0 3 = true then (if og K 6 v0 0 = true then (if og K 5 ((d_up M v0 3 1) v0 0) 3 = true then some ([(0, (d_up M v0 3 1) ((d_up M v0 3 1) v0 0) 3)], (K, d_up M v0 3 1)) else none) else none) else none) := by
  refine (vr_steps 2 (x' := (13, [(2, v0)], [(0, 1), (2, v0)], (K, M))) rfl).trans ?_
  refine (v_putz (a := 6) (b := 3) rfl rfl (by decide)).trans ?_
  refine g_congr (fun _ => ?_)
  refine (vr_steps 1 (x' := (17, [(2, v0)], [(2, v0)], (K, d_up M v0 3 1))) rfl).trans ?_
  refine (v_getf (a := 6) (b := 0) (t := 2) rfl rfl).trans ?_
  refine g_congr (fun _ => ?_)
  refine (v_getf (a := 5) (b := 3) (t := 0) rfl rfl).trans ?_
  refine g_congr (fun _ => ?_)
  exact vr_ret (ai := (35, 1, 1, 0, [])) rfl rfl

noncomputable def c_X6_back : Nat → Option dI := d_mcode m_X6_back
set_option maxRecDepth 100000 in
theorem e_X6_back_0 {sc : dS} {d : Nat} {K : List (Nat × Nat)} {M : dM} {v0 : Int} : vr sc d c_X6_back (0, [(2, v0)], [], (K, M)) = (if og K 6 v0 3 = true then (if ¬ (M v0 3) = 0 then (if og K 6 v0 0 = true then (if og K 6 v0 2 = true then (if rg K 5 (M v0 0) = true then (vc sc d 52 [(2, M v0 0), (2, M v0 2)] (K, M)).bind (fun r => vr sc d c_X6_back (21, [(2, v0)], r.1 ++ [], r.2)) else none) else none) else none) else some ([(0, (-3))], (K, M))) else none) := by
  refine (vr_steps 1 (x' := (1, [(2, v0)], [(2, v0)], (K, M))) rfl).trans ?_
  refine (v_getf (a := 6) (b := 3) (t := 0) rfl rfl).trans ?_
  refine g_congr (fun _ => ?_)
  refine (v_if (k := 1) (b := 10) (c := ¬ (M v0 3) = 0) rfl rfl).trans ?_
  refine c_congr (fun _ => ?_) (fun _ => ?_)
  · refine (vr_steps 1 (x' := (11, [(2, v0)], [(2, v0)], (K, M))) rfl).trans ?_
    refine (v_getf (a := 6) (b := 0) (t := 2) rfl rfl).trans ?_
    refine g_congr (fun _ => ?_)
    refine (vr_steps 1 (x' := (15, [(2, v0)], [(2, v0), (2, M v0 0)], (K, M))) rfl).trans ?_
    refine (v_getf (a := 6) (b := 2) (t := 2) rfl rfl).trans ?_
    refine g_congr (fun _ => ?_)
    exact (v_virt (k := 52) (n := 2) (tag := 5) (r := M v0 0) (av := [(2, M v0 2)]) (code := c_X6_back) (pc := 18) (len := 3) (L := [(2, v0)]) (st := [(2, M v0 2), (2, M v0 0)]) rfl (Nat.le_of_ble_eq_true rfl) (Nat.le_of_ble_eq_true rfl) rfl).trans rfl
  · refine (vr_steps 1 (x' := (9, [(2, v0)], [(0, (-3))], (K, M))) rfl).trans ?_
    exact vr_ret (ai := (35, 1, 1, 0, [])) rfl rfl
set_option maxRecDepth 100000 in
theorem e_X6_back_21 {sc : dS} {d : Nat} {K : List (Nat × Nat)} {M : dM} {v0 : Int} : vr sc d c_X6_back (21, [(2, v0)], [], (K, M)) = (if og K 6 v0 0 = true then (if og K 5 (M v0 0) 3 = true then some ([(0, M (M v0 0) 3)], (K, M)) else none) else none) := by
  refine (vr_steps 1 (x' := (22, [(2, v0)], [(2, v0)], (K, M))) rfl).trans ?_
  refine (v_getf (a := 6) (b := 0) (t := 2) rfl rfl).trans ?_
  refine g_congr (fun _ => ?_)
  refine (v_getf (a := 5) (b := 3) (t := 0) rfl rfl).trans ?_
  refine g_congr (fun _ => ?_)
  exact vr_ret (ai := (35, 1, 1, 0, [])) rfl rfl

noncomputable def c_X6_count : Nat → Option dI := d_mcode m_X6_count
set_option maxRecDepth 100000 in
theorem e_X6_count_0 {sc : dS} {d : Nat} {K : List (Nat × Nat)} {M : dM} {v0 v1 : Int} : vr sc d c_X6_count (0, [(2, v0), (0, v1)], [], (K, M)) = (if v1 = 0 then (if og K 6 v0 0 = true then (if og K 5 (M v0 0) 3 = true then some ([(0, M (M v0 0) 3)], (K, M)) else none) else none) else if v1 = 1 then (if og K 6 v0 0 = true then (if rg K 5 (M v0 0) = true then (vc sc d 56 [(2, M v0 0)] (K, M)).bind (fun r => vr sc d c_X6_count (55, [(2, v0), (0, v1)], r.1 ++ [], r.2)) else none) else none) else if v1 = 2 then (if og K 6 v0 0 = true then (if og K 5 (M v0 0) 0 = true then some ([(0, M (M v0 0) 0)], (K, M)) else none) else none) else if v1 = 3 then (if og K 6 v0 4 = true then (if og K 2 (M v0 4) 1 = true then some ([(0, M (M v0 4) 1)], (K, M)) else none) else none) else if v1 = 4 then (if og K 6 v0 5 = true then (if og K 1 (M v0 5) 1 = true then some ([(0, M (M v0 5) 1)], (K, M)) else none) else none) else if v1 = 5 then (if og K 6 v0 0 = true then (if og K 5 (M v0 0) 2 = true then some ([(0, M (M v0 0) 2)], (K, M)) else none) else none) else some ([(0, (-2))], (K, M))) := by
  refine (vr_steps 1 (x' := (1, [(2, v0), (0, v1)], [(0, v1)], (K, M))) rfl).trans ?_
  refine (v_sw rfl).trans ?_
  show (if v1 = 0 then vr sc d c_X6_count (40, [(2, v0), (0, v1)], [], (K, M)) else if v1 = 1 then vr sc d c_X6_count (48, [(2, v0), (0, v1)], [], (K, M)) else if v1 = 2 then vr sc d c_X6_count (59, [(2, v0), (0, v1)], [], (K, M)) else if v1 = 3 then vr sc d c_X6_count (67, [(2, v0), (0, v1)], [], (K, M)) else if v1 = 4 then vr sc d c_X6_count (75, [(2, v0), (0, v1)], [], (K, M)) else if v1 = 5 then vr sc d c_X6_count (83, [(2, v0), (0, v1)], [], (K, M)) else vr sc d c_X6_count (91, [(2, v0), (0, v1)], [], (K, M))) = _
  refine c_congr (fun _ => ?_) (fun _ => ?_)
  · refine (vr_steps 1 (x' := (41, [(2, v0), (0, v1)], [(2, v0)], (K, M))) rfl).trans ?_
    refine (v_getf (a := 6) (b := 0) (t := 2) rfl rfl).trans ?_
    refine g_congr (fun _ => ?_)
    refine (v_getf (a := 5) (b := 3) (t := 0) rfl rfl).trans ?_
    refine g_congr (fun _ => ?_)
    exact vr_ret (ai := (35, 1, 1, 0, [])) rfl rfl
  refine c_congr (fun _ => ?_) (fun _ => ?_)
  · refine (vr_steps 1 (x' := (49, [(2, v0), (0, v1)], [(2, v0)], (K, M))) rfl).trans ?_
    refine (v_getf (a := 6) (b := 0) (t := 2) rfl rfl).trans ?_
    refine g_congr (fun _ => ?_)
    exact (v_virt (k := 56) (n := 1) (tag := 5) (r := M v0 0) (av := []) (code := c_X6_count) (pc := 52) (len := 3) (L := [(2, v0), (0, v1)]) (st := [(2, M v0 0)]) rfl (Nat.le_of_ble_eq_true rfl) (Nat.le_of_ble_eq_true rfl) rfl).trans rfl
  refine c_congr (fun _ => ?_) (fun _ => ?_)
  · refine (vr_steps 1 (x' := (60, [(2, v0), (0, v1)], [(2, v0)], (K, M))) rfl).trans ?_
    refine (v_getf (a := 6) (b := 0) (t := 2) rfl rfl).trans ?_
    refine g_congr (fun _ => ?_)
    refine (v_getf (a := 5) (b := 0) (t := 0) rfl rfl).trans ?_
    refine g_congr (fun _ => ?_)
    exact vr_ret (ai := (35, 1, 1, 0, [])) rfl rfl
  refine c_congr (fun _ => ?_) (fun _ => ?_)
  · refine (vr_steps 1 (x' := (68, [(2, v0), (0, v1)], [(2, v0)], (K, M))) rfl).trans ?_
    refine (v_getf (a := 6) (b := 4) (t := 2) rfl rfl).trans ?_
    refine g_congr (fun _ => ?_)
    refine (v_getf (a := 2) (b := 1) (t := 0) rfl rfl).trans ?_
    refine g_congr (fun _ => ?_)
    exact vr_ret (ai := (35, 1, 1, 0, [])) rfl rfl
  refine c_congr (fun _ => ?_) (fun _ => ?_)
  · refine (vr_steps 1 (x' := (76, [(2, v0), (0, v1)], [(2, v0)], (K, M))) rfl).trans ?_
    refine (v_getf (a := 6) (b := 5) (t := 2) rfl rfl).trans ?_
    refine g_congr (fun _ => ?_)
    refine (v_getf (a := 1) (b := 1) (t := 0) rfl rfl).trans ?_
    refine g_congr (fun _ => ?_)
    exact vr_ret (ai := (35, 1, 1, 0, [])) rfl rfl
  refine c_congr (fun _ => ?_) (fun _ => ?_)
  · refine (vr_steps 1 (x' := (84, [(2, v0), (0, v1)], [(2, v0)], (K, M))) rfl).trans ?_
    refine (v_getf (a := 6) (b := 0) (t := 2) rfl rfl).trans ?_
    refine g_congr (fun _ => ?_)
    refine (v_getf (a := 5) (b := 2) (t := 0) rfl rfl).trans ?_
    refine g_congr (fun _ => ?_)
    exact vr_ret (ai := (35, 1, 1, 0, [])) rfl rfl
  refine (vr_steps 1 (x' := (93, [(2, v0), (0, v1)], [(0, (-2))], (K, M))) rfl).trans ?_
  exact vr_ret (ai := (35, 1, 1, 0, [])) rfl rfl
set_option maxRecDepth 100000 in
theorem e_X6_count_55 {sc : dS} {d : Nat} {K : List (Nat × Nat)} {M : dM} {v0 v1 s0 : Int} : vr sc d c_X6_count (55, [(2, v0), (0, v1)], [(0, s0)], (K, M)) = ((vc sc d 203 [(0, s0)] (K, M)).bind (fun r => vr sc d c_X6_count (58, [(2, v0), (0, v1)], r.1 ++ [], r.2))) := by
  exact (v_stat (k := 203) (n := 1) (code := c_X6_count) (pc := 55) (len := 3) (L := [(2, v0), (0, v1)]) (st := [(0, s0)]) rfl (Nat.le_of_ble_eq_true rfl) (Nat.le_of_ble_eq_true rfl)).trans rfl
set_option maxRecDepth 100000 in
theorem e_X6_count_58 {sc : dS} {d : Nat} {K : List (Nat × Nat)} {M : dM} {v0 v1 s0 : Int} : vr sc d c_X6_count (58, [(2, v0), (0, v1)], [(0, s0)], (K, M)) = (some ([(0, s0)], (K, M))) := by
  exact vr_ret (ai := (35, 1, 1, 0, [])) rfl rfl

noncomputable def c_X6_sheet : Nat → Option dI := d_mcode m_X6_sheet
set_option maxRecDepth 100000 in
theorem e_X6_sheet_0 {sc : dS} {d : Nat} {K : List (Nat × Nat)} {M : dM} {v0 v1 v2 v3 : Int} : vr sc d c_X6_sheet (0, [(2, v0), (0, v1), (0, v2), (0, v3)], [], (K, M)) = ((vc sc d 111 [(0, v1)] (K, M)).bind (fun r => vr sc d c_X6_sheet (4, [(2, v0), (0, v1), (0, v2), (0, v3)], r.1 ++ [], r.2))) := by
  refine (vr_steps 1 (x' := (1, [(2, v0), (0, v1), (0, v2), (0, v3)], [(0, v1)], (K, M))) rfl).trans ?_
  exact (v_stat (k := 111) (n := 1) (code := c_X6_sheet) (pc := 1) (len := 3) (L := [(2, v0), (0, v1), (0, v2), (0, v3)]) (st := [(0, v1)]) rfl (Nat.le_of_ble_eq_true rfl) (Nat.le_of_ble_eq_true rfl)).trans rfl
set_option maxRecDepth 100000 in
theorem e_X6_sheet_4 {sc : dS} {d : Nat} {K : List (Nat × Nat)} {M : dM} {v0 v1 v2 v3 s0 : Int} : vr sc d c_X6_sheet (4, [(2, v0), (0, v1), (0, v2), (0, v3)], [(0, s0)], (K, M)) = (if s0 = 0 then some ([(0, (-2))], (K, M)) else (if v2 = (-1) then vr sc d c_X6_sheet (22, [(2, v0), (0, v1), (0, v2), (0, v3)], [], (K, M)) else (vc sc d 112 [(0, v2)] (K, M)).bind (fun r => vr sc d c_X6_sheet (16, [(2, v0), (0, v1), (0, v2), (0, v3)], r.1 ++ [], r.2)))) := by
  refine (v_if (k := 0) (b := 19) (c := s0 = 0) rfl rfl).trans ?_
  refine c_congr (fun _ => ?_) (fun _ => ?_)
  · refine (vr_steps 1 (x' := (21, [(2, v0), (0, v1), (0, v2), (0, v3)], [(0, (-2))], (K, M))) rfl).trans ?_
    exact vr_ret (ai := (35, 1, 1, 0, [])) rfl rfl
  · refine (vr_steps 2 (x' := (9, [(2, v0), (0, v1), (0, v2), (0, v3)], [(0, (-1)), (0, v2)], (K, M))) rfl).trans ?_
    refine (v_icmp (k := 0) (b := 22) (c := v2 = (-1)) rfl rfl).trans ?_
    refine c_congr (fun _ => ?_) (fun _ => ?_)
    · rfl
    · refine (vr_steps 1 (x' := (13, [(2, v0), (0, v1), (0, v2), (0, v3)], [(0, v2)], (K, M))) rfl).trans ?_
      exact (v_stat (k := 112) (n := 1) (code := c_X6_sheet) (pc := 13) (len := 3) (L := [(2, v0), (0, v1), (0, v2), (0, v3)]) (st := [(0, v2)]) rfl (Nat.le_of_ble_eq_true rfl) (Nat.le_of_ble_eq_true rfl)).trans rfl
set_option maxRecDepth 100000 in
theorem e_X6_sheet_16 {sc : dS} {d : Nat} {K : List (Nat × Nat)} {M : dM} {v0 v1 v2 v3 s0 : Int} : vr sc d c_X6_sheet (16, [(2, v0), (0, v1), (0, v2), (0, v3)], [(0, s0)], (K, M)) = (if ¬ s0 = 0 then vr sc d c_X6_sheet (22, [(2, v0), (0, v1), (0, v2), (0, v3)], [], (K, M)) else some ([(0, (-2))], (K, M))) := by
  refine (v_if (k := 1) (b := 22) (c := ¬ s0 = 0) rfl rfl).trans ?_
  refine c_congr (fun _ => ?_) (fun _ => ?_)
  · rfl
  · refine (vr_steps 1 (x' := (21, [(2, v0), (0, v1), (0, v2), (0, v3)], [(0, (-2))], (K, M))) rfl).trans ?_
    exact vr_ret (ai := (35, 1, 1, 0, [])) rfl rfl
set_option maxRecDepth 100000 in
theorem e_X6_sheet_22 {sc : dS} {d : Nat} {K : List (Nat × Nat)} {M : dM} {v0 v1 v2 v3 : Int} : vr sc d c_X6_sheet (22, [(2, v0), (0, v1), (0, v2), (0, v3)], [], (K, M)) = (if ¬ v2 = (-1) then (if v3 ≤ 40 then (if 0 ≤ v3 then (if og K 6 v0 6 = true then (if ag K 12 (M v0 6) v1 = true then (if rg K 3 (M (M v0 6) v1) = true then (vc sc d 46 [(2, M (M v0 6) v1), (0, v2), (0, v3)] (K, M)).bind (fun r => vr sc d c_X6_sheet (67, [(2, v0), (0, v1), (0, v2), (0, v3)], r.1 ++ [], r.2)) else none) else none) else none) else some ([(0, (-14))], (K, M))) else some ([(0, (-2))], (K, M))) else (if og K 6 v0 6 = true then (if ag K 12 (M v0 6) v1 = true then (if rg K 3 (M (M v0 6) v1) = true then (vc sc d 46 [(2, M (M v0 6) v1), (0, (-1)), (0, 0)] (K, M)).bind (fun r => vr sc d c_X6_sheet (38, [(2, v0), (0, v1), (0, v2), (0, v3)], r.1 ++ [], r.2)) else none) else none) else none)) := by
  refine (vr_steps 2 (x' := (24, [(2, v0), (0, v1), (0, v2), (0, v3)], [(0, (-1)), (0, v2)], (K, M))) rfl).trans ?_
  refine (v_icmp (k := 1) (b := 40) (c := ¬ v2 = (-1)) rfl rfl).trans ?_
  refine c_congr (fun _ => ?_) (fun _ => ?_)
  · refine (vr_steps 2 (x' := (43, [(2, v0), (0, v1), (0, v2), (0, v3)], [(0, 40), (0, v3)], (K, M))) rfl).trans ?_
    refine (v_icmp (k := 5) (b := 49) (c := v3 ≤ 40) rfl rfl).trans ?_
    refine c_congr (fun _ => ?_) (fun _ => ?_)
    · refine (vr_steps 1 (x' := (50, [(2, v0), (0, v1), (0, v2), (0, v3)], [(0, v3)], (K, M))) rfl).trans ?_
      refine (v_if (k := 3) (b := 56) (c := 0 ≤ v3) rfl rfl).trans ?_
      refine c_congr (fun _ => ?_) (fun _ => ?_)
      · refine (vr_steps 1 (x' := (57, [(2, v0), (0, v1), (0, v2), (0, v3)], [(2, v0)], (K, M))) rfl).trans ?_
        refine (v_getf (a := 6) (b := 6) (t := 2) rfl rfl).trans ?_
        refine g_congr (fun _ => ?_)
        refine (vr_steps 1 (x' := (61, [(2, v0), (0, v1), (0, v2), (0, v3)], [(0, v1), (2, M v0 6)], (K, M))) rfl).trans ?_
        refine (v_aldq (a := 12) rfl (by decide)).trans ?_
        refine g_congr (fun _ => ?_)
        refine (vr_steps 2 (x' := (64, [(2, v0), (0, v1), (0, v2), (0, v3)], [(0, v3), (0, v2), (2, M (M v0 6) v1)], (K, M))) rfl).trans ?_
        exact (v_virt (k := 46) (n := 3) (tag := 3) (r := M (M v0 6) v1) (av := [(0, v2), (0, v3)]) (code := c_X6_sheet) (pc := 64) (len := 3) (L := [(2, v0), (0, v1), (0, v2), (0, v3)]) (st := [(0, v3), (0, v2), (2, M (M v0 6) v1)]) rfl (Nat.le_of_ble_eq_true rfl) (Nat.le_of_ble_eq_true rfl) rfl).trans rfl
      · refine (vr_steps 1 (x' := (55, [(2, v0), (0, v1), (0, v2), (0, v3)], [(0, (-14))], (K, M))) rfl).trans ?_
        exact vr_ret (ai := (35, 1, 1, 0, [])) rfl rfl
    · refine (vr_steps 1 (x' := (48, [(2, v0), (0, v1), (0, v2), (0, v3)], [(0, (-2))], (K, M))) rfl).trans ?_
      exact vr_ret (ai := (35, 1, 1, 0, [])) rfl rfl
  · refine (vr_steps 1 (x' := (28, [(2, v0), (0, v1), (0, v2), (0, v3)], [(2, v0)], (K, M))) rfl).trans ?_
    refine (v_getf (a := 6) (b := 6) (t := 2) rfl rfl).trans ?_
    refine g_congr (fun _ => ?_)
    refine (vr_steps 1 (x' := (32, [(2, v0), (0, v1), (0, v2), (0, v3)], [(0, v1), (2, M v0 6)], (K, M))) rfl).trans ?_
    refine (v_aldq (a := 12) rfl (by decide)).trans ?_
    refine g_congr (fun _ => ?_)
    refine (vr_steps 2 (x' := (35, [(2, v0), (0, v1), (0, v2), (0, v3)], [(0, 0), (0, (-1)), (2, M (M v0 6) v1)], (K, M))) rfl).trans ?_
    exact (v_virt (k := 46) (n := 3) (tag := 3) (r := M (M v0 6) v1) (av := [(0, (-1)), (0, 0)]) (code := c_X6_sheet) (pc := 35) (len := 3) (L := [(2, v0), (0, v1), (0, v2), (0, v3)]) (st := [(0, 0), (0, (-1)), (2, M (M v0 6) v1)]) rfl (Nat.le_of_ble_eq_true rfl) (Nat.le_of_ble_eq_true rfl) rfl).trans rfl
set_option maxRecDepth 100000 in
theorem e_X6_sheet_38 {sc : dS} {d : Nat} {K : List (Nat × Nat)} {M : dM} {v0 v1 v2 v3 : Int} : vr sc d c_X6_sheet (38, [(2, v0), (0, v1), (0, v2), (0, v3)], [], (K, M)) = (some ([(0, 1)], (K, M))) := by
  refine (vr_steps 1 (x' := (39, [(2, v0), (0, v1), (0, v2), (0, v3)], [(0, 1)], (K, M))) rfl).trans ?_
  exact vr_ret (ai := (35, 1, 1, 0, [])) rfl rfl
set_option maxRecDepth 100000 in
theorem e_X6_sheet_67 {sc : dS} {d : Nat} {K : List (Nat × Nat)} {M : dM} {v0 v1 v2 v3 : Int} : vr sc d c_X6_sheet (67, [(2, v0), (0, v1), (0, v2), (0, v3)], [], (K, M)) = (some ([(0, 1)], (K, M))) := by
  refine (vr_steps 1 (x' := (68, [(2, v0), (0, v1), (0, v2), (0, v3)], [(0, 1)], (K, M))) rfl).trans ?_
  exact vr_ret (ai := (35, 1, 1, 0, [])) rfl rfl

noncomputable def c_X6_cell : Nat → Option dI := d_mcode m_X6_cell
set_option maxRecDepth 100000 in
theorem e_X6_cell_0 {sc : dS} {d : Nat} {K : List (Nat × Nat)} {M : dM} {v0 v1 v2 v3 : Int} {q4 : dV} : vr sc d c_X6_cell (0, [(2, v0), (0, v1), (0, v2), (0, v3), q4], [], (K, M)) = ((vc sc d 111 [(0, v1)] (K, M)).bind (fun r => vr sc d c_X6_cell (4, [(2, v0), (0, v1), (0, v2), (0, v3), q4], r.1 ++ [], r.2))) := by
  refine (vr_steps 1 (x' := (1, [(2, v0), (0, v1), (0, v2), (0, v3), q4], [(0, v1)], (K, M))) rfl).trans ?_
  exact (v_stat (k := 111) (n := 1) (code := c_X6_cell) (pc := 1) (len := 3) (L := [(2, v0), (0, v1), (0, v2), (0, v3), q4]) (st := [(0, v1)]) rfl (Nat.le_of_ble_eq_true rfl) (Nat.le_of_ble_eq_true rfl)).trans rfl
set_option maxRecDepth 100000 in
theorem e_X6_cell_4 {sc : dS} {d : Nat} {K : List (Nat × Nat)} {M : dM} {v0 v1 v2 v3 s0 : Int} {q4 : dV} : vr sc d c_X6_cell (4, [(2, v0), (0, v1), (0, v2), (0, v3), q4], [(0, s0)], (K, M)) = (if ¬ s0 = 0 then (if og K 6 v0 6 = true then (if ag K 12 (M v0 6) v1 = true then (if rg K 3 (M (M v0 6) v1) = true then (vc sc d 45 [(2, M (M v0 6) v1)] (K, M)).bind (fun r => vr sc d c_X6_cell (23, [(2, v0), (0, v1), (0, v2), (0, v3), (2, M (M v0 6) v1)], r.1 ++ [], r.2)) else none) else none) else none) else some ([(0, (-2))], (K, M))) := by
  refine (v_if (k := 1) (b := 10) (c := ¬ s0 = 0) rfl rfl).trans ?_
  refine c_congr (fun _ => ?_) (fun _ => ?_)
  · refine (vr_steps 1 (x' := (11, [(2, v0), (0, v1), (0, v2), (0, v3), q4], [(2, v0)], (K, M))) rfl).trans ?_
    refine (v_getf (a := 6) (b := 6) (t := 2) rfl rfl).trans ?_
    refine g_congr (fun _ => ?_)
    refine (vr_steps 1 (x' := (15, [(2, v0), (0, v1), (0, v2), (0, v3), q4], [(0, v1), (2, M v0 6)], (K, M))) rfl).trans ?_
    refine (v_aldq (a := 12) rfl (by decide)).trans ?_
    refine g_congr (fun _ => ?_)
    refine (vr_steps 2 (x' := (20, [(2, v0), (0, v1), (0, v2), (0, v3), (2, M (M v0 6) v1)], [(2, M (M v0 6) v1)], (K, M))) rfl).trans ?_
    exact (v_virt (k := 45) (n := 1) (tag := 3) (r := M (M v0 6) v1) (av := []) (code := c_X6_cell) (pc := 20) (len := 3) (L := [(2, v0), (0, v1), (0, v2), (0, v3), (2, M (M v0 6) v1)]) (st := [(2, M (M v0 6) v1)]) rfl (Nat.le_of_ble_eq_true rfl) (Nat.le_of_ble_eq_true rfl) rfl).trans rfl
  · refine (vr_steps 1 (x' := (9, [(2, v0), (0, v1), (0, v2), (0, v3), q4], [(0, (-2))], (K, M))) rfl).trans ?_
    exact vr_ret (ai := (35, 1, 1, 0, [])) rfl rfl
set_option maxRecDepth 100000 in
theorem e_X6_cell_23 {sc : dS} {d : Nat} {K : List (Nat × Nat)} {M : dM} {v0 v1 v2 v3 v4 s0 : Int} : vr sc d c_X6_cell (23, [(2, v0), (0, v1), (0, v2), (0, v3), (2, v4)], [(0, s0)], (K, M)) = (if s0 = 0 then (if rg K 3 v4 = true then (vc sc d 47 [(2, v4), (0, v2), (0, 1)] (K, M)).bind (fun r => vr sc d c_X6_cell (36, [(2, v0), (0, v1), (0, v2), (0, v3), (2, v4)], r.1 ++ [], r.2)) else none) else some ([(0, (-11))], (K, M))) := by
  refine (v_if (k := 0) (b := 29) (c := s0 = 0) rfl rfl).trans ?_
  refine c_congr (fun _ => ?_) (fun _ => ?_)
  · refine (vr_steps 3 (x' := (33, [(2, v0), (0, v1), (0, v2), (0, v3), (2, v4)], [(0, 1), (0, v2), (2, v4)], (K, M))) rfl).trans ?_
    exact (v_virt (k := 47) (n := 3) (tag := 3) (r := v4) (av := [(0, v2), (0, 1)]) (code := c_X6_cell) (pc := 33) (len := 3) (L := [(2, v0), (0, v1), (0, v2), (0, v3), (2, v4)]) (st := [(0, 1), (0, v2), (2, v4)]) rfl (Nat.le_of_ble_eq_true rfl) (Nat.le_of_ble_eq_true rfl) rfl).trans rfl
  · refine (vr_steps 1 (x' := (28, [(2, v0), (0, v1), (0, v2), (0, v3), (2, v4)], [(0, (-11))], (K, M))) rfl).trans ?_
    exact vr_ret (ai := (35, 1, 1, 0, [])) rfl rfl
set_option maxRecDepth 100000 in
theorem e_X6_cell_36 {sc : dS} {d : Nat} {K : List (Nat × Nat)} {M : dM} {v0 v1 v2 v3 v4 s0 : Int} : vr sc d c_X6_cell (36, [(2, v0), (0, v1), (0, v2), (0, v3), (2, v4)], [(0, s0)], (K, M)) = (if ¬ s0 = 0 then (if rg K 3 v4 = true then (vc sc d 48 [(2, v4), (0, v2), (0, v3)] (K, M)).bind (fun r => vr sc d c_X6_cell (49, [(2, v0), (0, v1), (0, v2), (0, v3), (2, v4)], r.1 ++ [], r.2)) else none) else some ([(0, (-12))], (K, M))) := by
  refine (v_if (k := 1) (b := 42) (c := ¬ s0 = 0) rfl rfl).trans ?_
  refine c_congr (fun _ => ?_) (fun _ => ?_)
  · refine (vr_steps 3 (x' := (46, [(2, v0), (0, v1), (0, v2), (0, v3), (2, v4)], [(0, v3), (0, v2), (2, v4)], (K, M))) rfl).trans ?_
    exact (v_virt (k := 48) (n := 3) (tag := 3) (r := v4) (av := [(0, v2), (0, v3)]) (code := c_X6_cell) (pc := 46) (len := 3) (L := [(2, v0), (0, v1), (0, v2), (0, v3), (2, v4)]) (st := [(0, v3), (0, v2), (2, v4)]) rfl (Nat.le_of_ble_eq_true rfl) (Nat.le_of_ble_eq_true rfl) rfl).trans rfl
  · refine (vr_steps 1 (x' := (41, [(2, v0), (0, v1), (0, v2), (0, v3), (2, v4)], [(0, (-12))], (K, M))) rfl).trans ?_
    exact vr_ret (ai := (35, 1, 1, 0, [])) rfl rfl
set_option maxRecDepth 100000 in
theorem e_X6_cell_49 {sc : dS} {d : Nat} {K : List (Nat × Nat)} {M : dM} {v0 v1 v2 v3 v4 : Int} : vr sc d c_X6_cell (49, [(2, v0), (0, v1), (0, v2), (0, v3), (2, v4)], [], (K, M)) = (some ([(0, 1)], (K, M))) := by
  refine (vr_steps 1 (x' := (50, [(2, v0), (0, v1), (0, v2), (0, v3), (2, v4)], [(0, 1)], (K, M))) rfl).trans ?_
  exact vr_ret (ai := (35, 1, 1, 0, [])) rfl rfl

noncomputable def c_X6_copy : Nat → Option dI := d_mcode m_X6_copy
set_option maxRecDepth 100000 in
theorem e_X6_copy_0 {sc : dS} {d : Nat} {K : List (Nat × Nat)} {M : dM} {v0 v1 v2 v3 v4 v5 : Int} {q6 q7 : dV} : vr sc d c_X6_copy (0, [(2, v0), (0, v1), (0, v2), (0, v3), (0, v4), (0, v5), q6, q7], [], (K, M)) = ((vc sc d 111 [(0, v1)] (K, M)).bind (fun r => vr sc d c_X6_copy (4, [(2, v0), (0, v1), (0, v2), (0, v3), (0, v4), (0, v5), q6, q7], r.1 ++ [], r.2))) := by
  refine (vr_steps 1 (x' := (1, [(2, v0), (0, v1), (0, v2), (0, v3), (0, v4), (0, v5), q6, q7], [(0, v1)], (K, M))) rfl).trans ?_
  exact (v_stat (k := 111) (n := 1) (code := c_X6_copy) (pc := 1) (len := 3) (L := [(2, v0), (0, v1), (0, v2), (0, v3), (0, v4), (0, v5), q6, q7]) (st := [(0, v1)]) rfl (Nat.le_of_ble_eq_true rfl) (Nat.le_of_ble_eq_true rfl)).trans rfl
set_option maxRecDepth 100000 in
theorem e_X6_copy_4 {sc : dS} {d : Nat} {K : List (Nat × Nat)} {M : dM} {v0 v1 v2 v3 v4 v5 s0 : Int} {q6 q7 : dV} : vr sc d c_X6_copy (4, [(2, v0), (0, v1), (0, v2), (0, v3), (0, v4), (0, v5), q6, q7], [(0, s0)], (K, M)) = (if s0 = 0 then some ([(0, (-2))], (K, M)) else (vc sc d 111 [(0, v3)] (K, M)).bind (fun r => vr sc d c_X6_copy (11, [(2, v0), (0, v1), (0, v2), (0, v3), (0, v4), (0, v5), q6, q7], r.1 ++ [], r.2))) := by
  refine (v_if (k := 0) (b := 14) (c := s0 = 0) rfl rfl).trans ?_
  refine c_congr (fun _ => ?_) (fun _ => ?_)
  · refine (vr_steps 1 (x' := (16, [(2, v0), (0, v1), (0, v2), (0, v3), (0, v4), (0, v5), q6, q7], [(0, (-2))], (K, M))) rfl).trans ?_
    exact vr_ret (ai := (35, 1, 1, 0, [])) rfl rfl
  · refine (vr_steps 1 (x' := (8, [(2, v0), (0, v1), (0, v2), (0, v3), (0, v4), (0, v5), q6, q7], [(0, v3)], (K, M))) rfl).trans ?_
    exact (v_stat (k := 111) (n := 1) (code := c_X6_copy) (pc := 8) (len := 3) (L := [(2, v0), (0, v1), (0, v2), (0, v3), (0, v4), (0, v5), q6, q7]) (st := [(0, v3)]) rfl (Nat.le_of_ble_eq_true rfl) (Nat.le_of_ble_eq_true rfl)).trans rfl
set_option maxRecDepth 100000 in
theorem e_X6_copy_11 {sc : dS} {d : Nat} {K : List (Nat × Nat)} {M : dM} {v0 v1 v2 v3 v4 v5 s0 : Int} {q6 q7 : dV} : vr sc d c_X6_copy (11, [(2, v0), (0, v1), (0, v2), (0, v3), (0, v4), (0, v5), q6, q7], [(0, s0)], (K, M)) = (if ¬ s0 = 0 then (if og K 6 v0 6 = true then (if ag K 12 (M v0 6) v1 = true then (if og K 6 v0 6 = true then (if ag K 12 (M v0 6) v3 = true then (if rg K 3 (M (M v0 6) v1) = true then (vc sc d 45 [(2, M (M v0 6) v1)] (K, M)).bind (fun r => vr sc d c_X6_copy (38, [(2, v0), (0, v1), (0, v2), (0, v3), (0, v4), (0, v5), (2, M (M v0 6) v1), (2, M (M v0 6) v3)], r.1 ++ [], r.2)) else none) else none) else none) else none) else none) else some ([(0, (-2))], (K, M))) := by
  refine (v_if (k := 1) (b := 17) (c := ¬ s0 = 0) rfl rfl).trans ?_
  refine c_congr (fun _ => ?_) (fun _ => ?_)
  · refine (vr_steps 1 (x' := (18, [(2, v0), (0, v1), (0, v2), (0, v3), (0, v4), (0, v5), q6, q7], [(2, v0)], (K, M))) rfl).trans ?_
    refine (v_getf (a := 6) (b := 6) (t := 2) rfl rfl).trans ?_
    refine g_congr (fun _ => ?_)
    refine (vr_steps 1 (x' := (22, [(2, v0), (0, v1), (0, v2), (0, v3), (0, v4), (0, v5), q6, q7], [(0, v1), (2, M v0 6)], (K, M))) rfl).trans ?_
    refine (v_aldq (a := 12) rfl (by decide)).trans ?_
    refine g_congr (fun _ => ?_)
    refine (vr_steps 2 (x' := (26, [(2, v0), (0, v1), (0, v2), (0, v3), (0, v4), (0, v5), (2, M (M v0 6) v1), q7], [(2, v0)], (K, M))) rfl).trans ?_
    refine (v_getf (a := 6) (b := 6) (t := 2) rfl rfl).trans ?_
    refine g_congr (fun _ => ?_)
    refine (vr_steps 1 (x' := (30, [(2, v0), (0, v1), (0, v2), (0, v3), (0, v4), (0, v5), (2, M (M v0 6) v1), q7], [(0, v3), (2, M v0 6)], (K, M))) rfl).trans ?_
    refine (v_aldq (a := 12) rfl (by decide)).trans ?_
    refine g_congr (fun _ => ?_)
    refine (vr_steps 2 (x' := (35, [(2, v0), (0, v1), (0, v2), (0, v3), (0, v4), (0, v5), (2, M (M v0 6) v1), (2, M (M v0 6) v3)], [(2, M (M v0 6) v1)], (K, M))) rfl).trans ?_
    exact (v_virt (k := 45) (n := 1) (tag := 3) (r := M (M v0 6) v1) (av := []) (code := c_X6_copy) (pc := 35) (len := 3) (L := [(2, v0), (0, v1), (0, v2), (0, v3), (0, v4), (0, v5), (2, M (M v0 6) v1), (2, M (M v0 6) v3)]) (st := [(2, M (M v0 6) v1)]) rfl (Nat.le_of_ble_eq_true rfl) (Nat.le_of_ble_eq_true rfl) rfl).trans rfl
  · refine (vr_steps 1 (x' := (16, [(2, v0), (0, v1), (0, v2), (0, v3), (0, v4), (0, v5), q6, q7], [(0, (-2))], (K, M))) rfl).trans ?_
    exact vr_ret (ai := (35, 1, 1, 0, [])) rfl rfl
set_option maxRecDepth 100000 in
theorem e_X6_copy_38 {sc : dS} {d : Nat} {K : List (Nat × Nat)} {M : dM} {v0 v1 v2 v3 v4 v5 v6 v7 s0 : Int} : vr sc d c_X6_copy (38, [(2, v0), (0, v1), (0, v2), (0, v3), (0, v4), (0, v5), (2, v6), (2, v7)], [(0, s0)], (K, M)) = (if ¬ s0 = 0 then some ([(0, (-11))], (K, M)) else (if rg K 3 v7 = true then (vc sc d 45 [(2, v7)] (K, M)).bind (fun r => vr sc d c_X6_copy (46, [(2, v0), (0, v1), (0, v2), (0, v3), (0, v4), (0, v5), (2, v6), (2, v7)], r.1 ++ [], r.2)) else none)) := by
  refine (v_if (k := 1) (b := 49) (c := ¬ s0 = 0) rfl rfl).trans ?_
  refine c_congr (fun _ => ?_) (fun _ => ?_)
  · refine (vr_steps 1 (x' := (51, [(2, v0), (0, v1), (0, v2), (0, v3), (0, v4), (0, v5), (2, v6), (2, v7)], [(0, (-11))], (K, M))) rfl).trans ?_
    exact vr_ret (ai := (35, 1, 1, 0, [])) rfl rfl
  · refine (vr_steps 1 (x' := (43, [(2, v0), (0, v1), (0, v2), (0, v3), (0, v4), (0, v5), (2, v6), (2, v7)], [(2, v7)], (K, M))) rfl).trans ?_
    exact (v_virt (k := 45) (n := 1) (tag := 3) (r := v7) (av := []) (code := c_X6_copy) (pc := 43) (len := 3) (L := [(2, v0), (0, v1), (0, v2), (0, v3), (0, v4), (0, v5), (2, v6), (2, v7)]) (st := [(2, v7)]) rfl (Nat.le_of_ble_eq_true rfl) (Nat.le_of_ble_eq_true rfl) rfl).trans rfl
set_option maxRecDepth 100000 in
theorem e_X6_copy_46 {sc : dS} {d : Nat} {K : List (Nat × Nat)} {M : dM} {v0 v1 v2 v3 v4 v5 v6 v7 s0 : Int} : vr sc d c_X6_copy (46, [(2, v0), (0, v1), (0, v2), (0, v3), (0, v4), (0, v5), (2, v6), (2, v7)], [(0, s0)], (K, M)) = (if s0 = 0 then (if og K 3 v6 1 = true then (if og K 3 v7 1 = true then (if (M v6 1) = (M v7 1) then (if rg K 3 v6 = true then (vc sc d 47 [(2, v6), (0, v2), (0, v5)] (K, M)).bind (fun r => vr sc d c_X6_copy (76, [(2, v0), (0, v1), (0, v2), (0, v3), (0, v4), (0, v5), (2, v6), (2, v7)], r.1 ++ [], r.2)) else none) else some ([(0, (-13))], (K, M))) else none) else none) else some ([(0, (-11))], (K, M))) := by
  refine (v_if (k := 0) (b := 52) (c := s0 = 0) rfl rfl).trans ?_
  refine c_congr (fun _ => ?_) (fun _ => ?_)
  · refine (vr_steps 1 (x' := (54, [(2, v0), (0, v1), (0, v2), (0, v3), (0, v4), (0, v5), (2, v6), (2, v7)], [(2, v6)], (K, M))) rfl).trans ?_
    refine (v_getf (a := 3) (b := 1) (t := 0) rfl rfl).trans ?_
    refine g_congr (fun _ => ?_)
    refine (vr_steps 1 (x' := (59, [(2, v0), (0, v1), (0, v2), (0, v3), (0, v4), (0, v5), (2, v6), (2, v7)], [(2, v7), (0, M v6 1)], (K, M))) rfl).trans ?_
    refine (v_getf (a := 3) (b := 1) (t := 0) rfl rfl).trans ?_
    refine g_congr (fun _ => ?_)
    refine (v_icmp (k := 0) (b := 68) (c := (M v6 1) = (M v7 1)) rfl rfl).trans ?_
    refine c_congr (fun _ => ?_) (fun _ => ?_)
    · refine (vr_steps 3 (x' := (73, [(2, v0), (0, v1), (0, v2), (0, v3), (0, v4), (0, v5), (2, v6), (2, v7)], [(0, v5), (0, v2), (2, v6)], (K, M))) rfl).trans ?_
      exact (v_virt (k := 47) (n := 3) (tag := 3) (r := v6) (av := [(0, v2), (0, v5)]) (code := c_X6_copy) (pc := 73) (len := 3) (L := [(2, v0), (0, v1), (0, v2), (0, v3), (0, v4), (0, v5), (2, v6), (2, v7)]) (st := [(0, v5), (0, v2), (2, v6)]) rfl (Nat.le_of_ble_eq_true rfl) (Nat.le_of_ble_eq_true rfl) rfl).trans rfl
    · refine (vr_steps 1 (x' := (67, [(2, v0), (0, v1), (0, v2), (0, v3), (0, v4), (0, v5), (2, v6), (2, v7)], [(0, (-13))], (K, M))) rfl).trans ?_
      exact vr_ret (ai := (35, 1, 1, 0, [])) rfl rfl
  · refine (vr_steps 1 (x' := (51, [(2, v0), (0, v1), (0, v2), (0, v3), (0, v4), (0, v5), (2, v6), (2, v7)], [(0, (-11))], (K, M))) rfl).trans ?_
    exact vr_ret (ai := (35, 1, 1, 0, [])) rfl rfl
set_option maxRecDepth 100000 in
theorem e_X6_copy_76 {sc : dS} {d : Nat} {K : List (Nat × Nat)} {M : dM} {v0 v1 v2 v3 v4 v5 v6 v7 s0 : Int} : vr sc d c_X6_copy (76, [(2, v0), (0, v1), (0, v2), (0, v3), (0, v4), (0, v5), (2, v6), (2, v7)], [(0, s0)], (K, M)) = (if s0 = 0 then some ([(0, (-12))], (K, M)) else (if rg K 3 v7 = true then (vc sc d 47 [(2, v7), (0, v4), (0, v5)] (K, M)).bind (fun r => vr sc d c_X6_copy (88, [(2, v0), (0, v1), (0, v2), (0, v3), (0, v4), (0, v5), (2, v6), (2, v7)], r.1 ++ [], r.2)) else none)) := by
  refine (v_if (k := 0) (b := 91) (c := s0 = 0) rfl rfl).trans ?_
  refine c_congr (fun _ => ?_) (fun _ => ?_)
  · refine (vr_steps 1 (x' := (93, [(2, v0), (0, v1), (0, v2), (0, v3), (0, v4), (0, v5), (2, v6), (2, v7)], [(0, (-12))], (K, M))) rfl).trans ?_
    exact vr_ret (ai := (35, 1, 1, 0, [])) rfl rfl
  · refine (vr_steps 3 (x' := (85, [(2, v0), (0, v1), (0, v2), (0, v3), (0, v4), (0, v5), (2, v6), (2, v7)], [(0, v5), (0, v4), (2, v7)], (K, M))) rfl).trans ?_
    exact (v_virt (k := 47) (n := 3) (tag := 3) (r := v7) (av := [(0, v4), (0, v5)]) (code := c_X6_copy) (pc := 85) (len := 3) (L := [(2, v0), (0, v1), (0, v2), (0, v3), (0, v4), (0, v5), (2, v6), (2, v7)]) (st := [(0, v5), (0, v4), (2, v7)]) rfl (Nat.le_of_ble_eq_true rfl) (Nat.le_of_ble_eq_true rfl) rfl).trans rfl
set_option maxRecDepth 100000 in
theorem e_X6_copy_88 {sc : dS} {d : Nat} {K : List (Nat × Nat)} {M : dM} {v0 v1 v2 v3 v4 v5 v6 v7 s0 : Int} : vr sc d c_X6_copy (88, [(2, v0), (0, v1), (0, v2), (0, v3), (0, v4), (0, v5), (2, v6), (2, v7)], [(0, s0)], (K, M)) = (if ¬ s0 = 0 then (if og K 3 v6 0 = true then (if og K 3 v7 0 = true then (if cg K (M v6 0) v2 (M v7 0) v4 v5 = true then some ([(0, v5)], (K, d_cpy M (M v6 0) v2 (M v7 0) v4 v5)) else none) else none) else none) else some ([(0, (-12))], (K, M))) := by
  refine (v_if (k := 1) (b := 94) (c := ¬ s0 = 0) rfl rfl).trans ?_
  refine c_congr (fun _ => ?_) (fun _ => ?_)
  · refine (vr_steps 1 (x' := (96, [(2, v0), (0, v1), (0, v2), (0, v3), (0, v4), (0, v5), (2, v6), (2, v7)], [(2, v6)], (K, M))) rfl).trans ?_
    refine (v_getf (a := 3) (b := 0) (t := 2) rfl rfl).trans ?_
    refine g_congr (fun _ => ?_)
    refine (vr_steps 2 (x' := (102, [(2, v0), (0, v1), (0, v2), (0, v3), (0, v4), (0, v5), (2, v6), (2, v7)], [(2, v7), (0, v2), (2, M v6 0)], (K, M))) rfl).trans ?_
    refine (v_getf (a := 3) (b := 0) (t := 2) rfl rfl).trans ?_
    refine g_congr (fun _ => ?_)
    refine (vr_steps 2 (x' := (109, [(2, v0), (0, v1), (0, v2), (0, v3), (0, v4), (0, v5), (2, v6), (2, v7)], [(0, v5), (0, v4), (2, M v7 0), (0, v2), (2, M v6 0)], (K, M))) rfl).trans ?_
    refine (v_copy rfl (Nat.le_of_ble_eq_true rfl)).trans ?_
    refine g_congr (fun _ => ?_)
    refine (vr_steps 1 (x' := (114, [(2, v0), (0, v1), (0, v2), (0, v3), (0, v4), (0, v5), (2, v6), (2, v7)], [(0, v5)], (K, d_cpy M (M v6 0) v2 (M v7 0) v4 v5))) rfl).trans ?_
    exact vr_ret (ai := (35, 1, 1, 0, [])) rfl rfl
  · refine (vr_steps 1 (x' := (93, [(2, v0), (0, v1), (0, v2), (0, v3), (0, v4), (0, v5), (2, v6), (2, v7)], [(0, (-12))], (K, M))) rfl).trans ?_
    exact vr_ret (ai := (35, 1, 1, 0, [])) rfl rfl

noncomputable def c_X6_guild : Nat → Option dI := d_mcode m_X6_guild
set_option maxRecDepth 100000 in
theorem e_X6_guild_0 {sc : dS} {d : Nat} {K : List (Nat × Nat)} {M : dM} {v0 v1 v2 v3 v4 : Int} {q5 q6 q7 q8 : dV} : vr sc d c_X6_guild (0, [(2, v0), (0, v1), (0, v2), (0, v3), (0, v4), q5, q6, q7, q8], [], (K, M)) = ((vc sc d 111 [(0, v1)] (K, M)).bind (fun r => vr sc d c_X6_guild (4, [(2, v0), (0, v1), (0, v2), (0, v3), (0, v4), q5, q6, q7, q8], r.1 ++ [], r.2))) := by
  refine (vr_steps 1 (x' := (1, [(2, v0), (0, v1), (0, v2), (0, v3), (0, v4), q5, q6, q7, q8], [(0, v1)], (K, M))) rfl).trans ?_
  exact (v_stat (k := 111) (n := 1) (code := c_X6_guild) (pc := 1) (len := 3) (L := [(2, v0), (0, v1), (0, v2), (0, v3), (0, v4), q5, q6, q7, q8]) (st := [(0, v1)]) rfl (Nat.le_of_ble_eq_true rfl) (Nat.le_of_ble_eq_true rfl)).trans rfl
set_option maxRecDepth 100000 in
theorem e_X6_guild_4 {sc : dS} {d : Nat} {K : List (Nat × Nat)} {M : dM} {v0 v1 v2 v3 v4 s0 : Int} {q5 q6 q7 q8 : dV} : vr sc d c_X6_guild (4, [(2, v0), (0, v1), (0, v2), (0, v3), (0, v4), q5, q6, q7, q8], [(0, s0)], (K, M)) = (if s0 = 0 then some ([(0, (-2))], (K, M)) else (vc sc d 112 [(0, v2)] (K, M)).bind (fun r => vr sc d c_X6_guild (11, [(2, v0), (0, v1), (0, v2), (0, v3), (0, v4), q5, q6, q7, q8], r.1 ++ [], r.2))) := by
  refine (v_if (k := 0) (b := 23) (c := s0 = 0) rfl rfl).trans ?_
  refine c_congr (fun _ => ?_) (fun _ => ?_)
  · refine (vr_steps 1 (x' := (25, [(2, v0), (0, v1), (0, v2), (0, v3), (0, v4), q5, q6, q7, q8], [(0, (-2))], (K, M))) rfl).trans ?_
    exact vr_ret (ai := (35, 1, 1, 0, [])) rfl rfl
  · refine (vr_steps 1 (x' := (8, [(2, v0), (0, v1), (0, v2), (0, v3), (0, v4), q5, q6, q7, q8], [(0, v2)], (K, M))) rfl).trans ?_
    exact (v_stat (k := 112) (n := 1) (code := c_X6_guild) (pc := 8) (len := 3) (L := [(2, v0), (0, v1), (0, v2), (0, v3), (0, v4), q5, q6, q7, q8]) (st := [(0, v2)]) rfl (Nat.le_of_ble_eq_true rfl) (Nat.le_of_ble_eq_true rfl)).trans rfl
set_option maxRecDepth 100000 in
theorem e_X6_guild_11 {sc : dS} {d : Nat} {K : List (Nat × Nat)} {M : dM} {v0 v1 v2 v3 v4 s0 : Int} {q5 q6 q7 q8 : dV} : vr sc d c_X6_guild (11, [(2, v0), (0, v1), (0, v2), (0, v3), (0, v4), q5, q6, q7, q8], [(0, s0)], (K, M)) = (if s0 = 0 then some ([(0, (-2))], (K, M)) else (vc sc d 107 [(0, v4), (0, 5)] (K, M)).bind (fun r => vr sc d c_X6_guild (20, [(2, v0), (0, v1), (0, v2), (0, v3), (0, v4), q5, q6, q7, q8], r.1 ++ [], r.2))) := by
  refine (v_if (k := 0) (b := 23) (c := s0 = 0) rfl rfl).trans ?_
  refine c_congr (fun _ => ?_) (fun _ => ?_)
  · refine (vr_steps 1 (x' := (25, [(2, v0), (0, v1), (0, v2), (0, v3), (0, v4), q5, q6, q7, q8], [(0, (-2))], (K, M))) rfl).trans ?_
    exact vr_ret (ai := (35, 1, 1, 0, [])) rfl rfl
  · refine (vr_steps 2 (x' := (17, [(2, v0), (0, v1), (0, v2), (0, v3), (0, v4), q5, q6, q7, q8], [(0, 5), (0, v4)], (K, M))) rfl).trans ?_
    exact (v_stat (k := 107) (n := 2) (code := c_X6_guild) (pc := 17) (len := 3) (L := [(2, v0), (0, v1), (0, v2), (0, v3), (0, v4), q5, q6, q7, q8]) (st := [(0, 5), (0, v4)]) rfl (Nat.le_of_ble_eq_true rfl) (Nat.le_of_ble_eq_true rfl)).trans rfl
set_option maxRecDepth 100000 in
theorem e_X6_guild_20 {sc : dS} {d : Nat} {K : List (Nat × Nat)} {M : dM} {v0 v1 v2 v3 v4 s0 : Int} {q5 q6 q7 q8 : dV} : vr sc d c_X6_guild (20, [(2, v0), (0, v1), (0, v2), (0, v3), (0, v4), q5, q6, q7, q8], [(0, s0)], (K, M)) = (if ¬ s0 = 0 then (if og K 6 v0 6 = true then (if ag K 12 (M v0 6) v1 = true then (if rg K 3 (M (M v0 6) v1) = true then (vc sc d 45 [(2, M (M v0 6) v1)] (K, M)).bind (fun r => vr sc d c_X6_guild (39, [(2, v0), (0, v1), (0, v2), (0, v3), (0, v4), (2, M (M v0 6) v1), q6, q7, q8], r.1 ++ [], r.2)) else none) else none) else none) else some ([(0, (-2))], (K, M))) := by
  refine (v_if (k := 1) (b := 26) (c := ¬ s0 = 0) rfl rfl).trans ?_
  refine c_congr (fun _ => ?_) (fun _ => ?_)
  · refine (vr_steps 1 (x' := (27, [(2, v0), (0, v1), (0, v2), (0, v3), (0, v4), q5, q6, q7, q8], [(2, v0)], (K, M))) rfl).trans ?_
    refine (v_getf (a := 6) (b := 6) (t := 2) rfl rfl).trans ?_
    refine g_congr (fun _ => ?_)
    refine (vr_steps 1 (x' := (31, [(2, v0), (0, v1), (0, v2), (0, v3), (0, v4), q5, q6, q7, q8], [(0, v1), (2, M v0 6)], (K, M))) rfl).trans ?_
    refine (v_aldq (a := 12) rfl (by decide)).trans ?_
    refine g_congr (fun _ => ?_)
    refine (vr_steps 2 (x' := (36, [(2, v0), (0, v1), (0, v2), (0, v3), (0, v4), (2, M (M v0 6) v1), q6, q7, q8], [(2, M (M v0 6) v1)], (K, M))) rfl).trans ?_
    exact (v_virt (k := 45) (n := 1) (tag := 3) (r := M (M v0 6) v1) (av := []) (code := c_X6_guild) (pc := 36) (len := 3) (L := [(2, v0), (0, v1), (0, v2), (0, v3), (0, v4), (2, M (M v0 6) v1), q6, q7, q8]) (st := [(2, M (M v0 6) v1)]) rfl (Nat.le_of_ble_eq_true rfl) (Nat.le_of_ble_eq_true rfl) rfl).trans rfl
  · refine (vr_steps 1 (x' := (25, [(2, v0), (0, v1), (0, v2), (0, v3), (0, v4), q5, q6, q7, q8], [(0, (-2))], (K, M))) rfl).trans ?_
    exact vr_ret (ai := (35, 1, 1, 0, [])) rfl rfl
set_option maxRecDepth 100000 in
theorem e_X6_guild_39 {sc : dS} {d : Nat} {K : List (Nat × Nat)} {M : dM} {v0 v1 v2 v3 v4 v5 s0 : Int} {q6 q7 q8 : dV} : vr sc d c_X6_guild (39, [(2, v0), (0, v1), (0, v2), (0, v3), (0, v4), (2, v5), q6, q7, q8], [(0, s0)], (K, M)) = (if s0 = 0 then (if og K 3 v5 1 = true then (if (M v5 1) = v2 then vr sc d c_X6_guild (63, [(2, v0), (0, v1), (0, v2), (0, v3), (0, v4), (2, v5), (0, 0), (0, 0), q8], [], (K, M)) else some ([(0, (-13))], (K, M))) else none) else some ([(0, (-11))], (K, M))) := by
  refine (v_if (k := 0) (b := 45) (c := s0 = 0) rfl rfl).trans ?_
  refine c_congr (fun _ => ?_) (fun _ => ?_)
  · refine (vr_steps 1 (x' := (47, [(2, v0), (0, v1), (0, v2), (0, v3), (0, v4), (2, v5), q6, q7, q8], [(2, v5)], (K, M))) rfl).trans ?_
    refine (v_getf (a := 3) (b := 1) (t := 0) rfl rfl).trans ?_
    refine g_congr (fun _ => ?_)
    refine (vr_steps 1 (x' := (51, [(2, v0), (0, v1), (0, v2), (0, v3), (0, v4), (2, v5), q6, q7, q8], [(0, v2), (0, M v5 1)], (K, M))) rfl).trans ?_
    refine (v_icmp (k := 0) (b := 57) (c := (M v5 1) = v2) rfl rfl).trans ?_
    refine c_congr (fun _ => ?_) (fun _ => ?_)
    · exact vr_steps 4 rfl
    · refine (vr_steps 1 (x' := (56, [(2, v0), (0, v1), (0, v2), (0, v3), (0, v4), (2, v5), q6, q7, q8], [(0, (-13))], (K, M))) rfl).trans ?_
      exact vr_ret (ai := (35, 1, 1, 0, [])) rfl rfl
  · refine (vr_steps 1 (x' := (44, [(2, v0), (0, v1), (0, v2), (0, v3), (0, v4), (2, v5), q6, q7, q8], [(0, (-11))], (K, M))) rfl).trans ?_
    exact vr_ret (ai := (35, 1, 1, 0, [])) rfl rfl
set_option maxRecDepth 100000 in
theorem e_X6_guild_63 {sc : dS} {d : Nat} {K : List (Nat × Nat)} {M : dM} {v0 v1 v2 v3 v4 v5 v6 v7 : Int} {q8 : dV} : vr sc d c_X6_guild (63, [(2, v0), (0, v1), (0, v2), (0, v3), (0, v4), (2, v5), (0, v6), (0, v7), q8], [], (K, M)) = (if v4 ≤ v7 then some ([(0, v6)], (K, M)) else (if rg K 3 v5 = true then (vc sc d 47 [(2, v5), (0, w32 (v3 + (w32 (2 * v7)))), (0, 2)] (K, M)).bind (fun r => vr sc d c_X6_guild (86, [(2, v0), (0, v1), (0, v2), (0, v3), (0, v4), (2, v5), (0, v6), (0, v7), (0, w32 (v3 + (w32 (2 * v7))))], r.1 ++ [], r.2)) else none)) := by
  refine (vr_steps 2 (x' := (67, [(2, v0), (0, v1), (0, v2), (0, v3), (0, v4), (2, v5), (0, v6), (0, v7), q8], [(0, v4), (0, v7)], (K, M))) rfl).trans ?_
  refine (v_icmp (k := 3) (b := 126) (c := v4 ≤ v7) rfl rfl).trans ?_
  refine c_congr (fun _ => ?_) (fun _ => ?_)
  · refine (vr_steps 1 (x' := (128, [(2, v0), (0, v1), (0, v2), (0, v3), (0, v4), (2, v5), (0, v6), (0, v7), q8], [(0, v6)], (K, M))) rfl).trans ?_
    exact vr_ret (ai := (35, 1, 1, 0, [])) rfl rfl
  · refine (vr_steps 9 (x' := (83, [(2, v0), (0, v1), (0, v2), (0, v3), (0, v4), (2, v5), (0, v6), (0, v7), (0, w32 (v3 + (w32 (2 * v7))))], [(0, 2), (0, w32 (v3 + (w32 (2 * v7)))), (2, v5)], (K, M))) rfl).trans ?_
    exact (v_virt (k := 47) (n := 3) (tag := 3) (r := v5) (av := [(0, w32 (v3 + (w32 (2 * v7)))), (0, 2)]) (code := c_X6_guild) (pc := 83) (len := 3) (L := [(2, v0), (0, v1), (0, v2), (0, v3), (0, v4), (2, v5), (0, v6), (0, v7), (0, w32 (v3 + (w32 (2 * v7))))]) (st := [(0, 2), (0, w32 (v3 + (w32 (2 * v7)))), (2, v5)]) rfl (Nat.le_of_ble_eq_true rfl) (Nat.le_of_ble_eq_true rfl) rfl).trans rfl
set_option maxRecDepth 100000 in
theorem e_X6_guild_86 {sc : dS} {d : Nat} {K : List (Nat × Nat)} {M : dM} {v0 v1 v2 v3 v4 v5 v6 v7 v8 s0 : Int} : vr sc d c_X6_guild (86, [(2, v0), (0, v1), (0, v2), (0, v3), (0, v4), (2, v5), (0, v6), (0, v7), (0, v8)], [(0, s0)], (K, M)) = (if ¬ s0 = 0 then (if og K 3 v5 0 = true then (if ag K 8 (M v5 0) v8 = true then (if og K 3 v5 0 = true then (if ag K 8 (M v5 0) (w32 (v8 + 1)) = true then (if rg K 6 v0 = true then (vc sc d 62 [(2, v0), (0, M (M v5 0) v8), (0, M (M v5 0) (w32 (v8 + 1)))] (K, M)).bind (fun r => vr sc d c_X6_guild (114, [(2, v0), (0, v1), (0, v2), (0, v3), (0, v4), (2, v5), (0, v6), (0, v7), (0, v8)], r.1 ++ [], r.2)) else none) else none) else none) else none) else none) else some ([(0, (-12))], (K, M))) := by
  refine (v_if (k := 1) (b := 92) (c := ¬ s0 = 0) rfl rfl).trans ?_
  refine c_congr (fun _ => ?_) (fun _ => ?_)
  · refine (vr_steps 2 (x' := (95, [(2, v0), (0, v1), (0, v2), (0, v3), (0, v4), (2, v5), (0, v6), (0, v7), (0, v8)], [(2, v5), (2, v0)], (K, M))) rfl).trans ?_
    refine (v_getf (a := 3) (b := 0) (t := 2) rfl rfl).trans ?_
    refine g_congr (fun _ => ?_)
    refine (vr_steps 1 (x' := (100, [(2, v0), (0, v1), (0, v2), (0, v3), (0, v4), (2, v5), (0, v6), (0, v7), (0, v8)], [(0, v8), (2, M v5 0), (2, v0)], (K, M))) rfl).trans ?_
    refine (v_ald (a := 8) rfl (by decide)).trans ?_
    refine g_congr (fun _ => ?_)
    refine (vr_steps 1 (x' := (103, [(2, v0), (0, v1), (0, v2), (0, v3), (0, v4), (2, v5), (0, v6), (0, v7), (0, v8)], [(2, v5), (0, M (M v5 0) v8), (2, v0)], (K, M))) rfl).trans ?_
    refine (v_getf (a := 3) (b := 0) (t := 2) rfl rfl).trans ?_
    refine g_congr (fun _ => ?_)
    refine (vr_steps 3 (x' := (110, [(2, v0), (0, v1), (0, v2), (0, v3), (0, v4), (2, v5), (0, v6), (0, v7), (0, v8)], [(0, w32 (v8 + 1)), (2, M v5 0), (0, M (M v5 0) v8), (2, v0)], (K, M))) rfl).trans ?_
    refine (v_ald (a := 8) rfl (by decide)).trans ?_
    refine g_congr (fun _ => ?_)
    exact (v_virt (k := 62) (n := 3) (tag := 6) (r := v0) (av := [(0, M (M v5 0) v8), (0, M (M v5 0) (w32 (v8 + 1)))]) (code := c_X6_guild) (pc := 111) (len := 3) (L := [(2, v0), (0, v1), (0, v2), (0, v3), (0, v4), (2, v5), (0, v6), (0, v7), (0, v8)]) (st := [(0, M (M v5 0) (w32 (v8 + 1))), (0, M (M v5 0) v8), (2, v0)]) rfl (Nat.le_of_ble_eq_true rfl) (Nat.le_of_ble_eq_true rfl) rfl).trans rfl
  · refine (vr_steps 1 (x' := (91, [(2, v0), (0, v1), (0, v2), (0, v3), (0, v4), (2, v5), (0, v6), (0, v7), (0, v8)], [(0, (-12))], (K, M))) rfl).trans ?_
    exact vr_ret (ai := (35, 1, 1, 0, [])) rfl rfl
set_option maxRecDepth 100000 in
theorem e_X6_guild_114 {sc : dS} {d : Nat} {K : List (Nat × Nat)} {M : dM} {v0 v1 v2 v3 v4 v5 v6 v7 v8 s0 : Int} : vr sc d c_X6_guild (114, [(2, v0), (0, v1), (0, v2), (0, v3), (0, v4), (2, v5), (0, v6), (0, v7), (0, v8)], [(0, s0)], (K, M)) = (if s0 < 0 then vr sc d c_X6_guild (63, [(2, v0), (0, v1), (0, v2), (0, v3), (0, v4), (2, v5), (0, v6), (0, w32 (v7 + 1)), (0, v8)], [], (K, M)) else vr sc d c_X6_guild (63, [(2, v0), (0, v1), (0, v2), (0, v3), (0, v4), (2, v5), (0, w32 (v6 + 1)), (0, w32 (v7 + 1)), (0, v8)], [], (K, M))) := by
  refine (v_if (k := 2) (b := 120) (c := s0 < 0) rfl rfl).trans ?_
  refine c_congr (fun _ => ?_) (fun _ => ?_)
  · exact vr_steps 2 rfl
  · exact vr_steps 3 rfl

noncomputable def c_X6_taken : Nat → Option dI := d_mcode m_X6_taken
set_option maxRecDepth 100000 in
theorem e_X6_taken_0 {sc : dS} {d : Nat} {K : List (Nat × Nat)} {M : dM} {v0 v1 v2 : Int} : vr sc d c_X6_taken (0, [(2, v0), (0, v1), (0, v2)], [], (K, M)) = ((vc sc d 108 [(0, v2)] (K, M)).bind (fun r => vr sc d c_X6_taken (4, [(2, v0), (0, v1), (0, v2)], r.1 ++ [], r.2))) := by
  refine (vr_steps 1 (x' := (1, [(2, v0), (0, v1), (0, v2)], [(0, v2)], (K, M))) rfl).trans ?_
  exact (v_stat (k := 108) (n := 1) (code := c_X6_taken) (pc := 1) (len := 3) (L := [(2, v0), (0, v1), (0, v2)]) (st := [(0, v2)]) rfl (Nat.le_of_ble_eq_true rfl) (Nat.le_of_ble_eq_true rfl)).trans rfl
set_option maxRecDepth 100000 in
theorem e_X6_taken_4 {sc : dS} {d : Nat} {K : List (Nat × Nat)} {M : dM} {v0 v1 v2 s0 : Int} : vr sc d c_X6_taken (4, [(2, v0), (0, v1), (0, v2)], [(0, s0)], (K, M)) = (if ¬ s0 = 0 then (if og K 6 v0 0 = true then (if rg K 5 (M v0 0) = true then (vc sc d 53 [(2, M v0 0), (0, v1)] (K, M)).bind (fun r => vr sc d c_X6_taken (18, [(2, v0), (0, v1), (0, v2)], r.1 ++ [], r.2)) else none) else none) else some ([(0, (-2))], (K, M))) := by
  refine (v_if (k := 1) (b := 10) (c := ¬ s0 = 0) rfl rfl).trans ?_
  refine c_congr (fun _ => ?_) (fun _ => ?_)
  · refine (vr_steps 1 (x' := (11, [(2, v0), (0, v1), (0, v2)], [(2, v0)], (K, M))) rfl).trans ?_
    refine (v_getf (a := 6) (b := 0) (t := 2) rfl rfl).trans ?_
    refine g_congr (fun _ => ?_)
    refine (vr_steps 1 (x' := (15, [(2, v0), (0, v1), (0, v2)], [(0, v1), (2, M v0 0)], (K, M))) rfl).trans ?_
    exact (v_virt (k := 53) (n := 2) (tag := 5) (r := M v0 0) (av := [(0, v1)]) (code := c_X6_taken) (pc := 15) (len := 3) (L := [(2, v0), (0, v1), (0, v2)]) (st := [(0, v1), (2, M v0 0)]) rfl (Nat.le_of_ble_eq_true rfl) (Nat.le_of_ble_eq_true rfl) rfl).trans rfl
  · refine (vr_steps 1 (x' := (9, [(2, v0), (0, v1), (0, v2)], [(0, (-2))], (K, M))) rfl).trans ?_
    exact vr_ret (ai := (35, 1, 1, 0, [])) rfl rfl
set_option maxRecDepth 100000 in
theorem e_X6_taken_18 {sc : dS} {d : Nat} {K : List (Nat × Nat)} {M : dM} {v0 v1 v2 s0 : Int} : vr sc d c_X6_taken (18, [(2, v0), (0, v1), (0, v2)], [(0, s0)], (K, M)) = (if ¬ s0 = 0 then (if og K 6 v0 0 = true then (if og K 5 (M v0 0) 4 = true then (if ag K 8 (M (M v0 0) 4) v1 = true then (vc sc d 106 [(0, M (M (M v0 0) 4) v1), (0, v2)] (K, M)).bind (fun r => vr sc d c_X6_taken (37, [(2, v0), (0, v1), (0, v2)], r.1 ++ [], r.2)) else none) else none) else none) else some ([(0, (-11))], (K, M))) := by
  refine (v_if (k := 1) (b := 24) (c := ¬ s0 = 0) rfl rfl).trans ?_
  refine c_congr (fun _ => ?_) (fun _ => ?_)
  · refine (vr_steps 1 (x' := (25, [(2, v0), (0, v1), (0, v2)], [(2, v0)], (K, M))) rfl).trans ?_
    refine (v_getf (a := 6) (b := 0) (t := 2) rfl rfl).trans ?_
    refine g_congr (fun _ => ?_)
    refine (v_getf (a := 5) (b := 4) (t := 2) rfl rfl).trans ?_
    refine g_congr (fun _ => ?_)
    refine (vr_steps 1 (x' := (32, [(2, v0), (0, v1), (0, v2)], [(0, v1), (2, M (M v0 0) 4)], (K, M))) rfl).trans ?_
    refine (v_ald (a := 8) rfl (by decide)).trans ?_
    refine g_congr (fun _ => ?_)
    refine (vr_steps 1 (x' := (34, [(2, v0), (0, v1), (0, v2)], [(0, v2), (0, M (M (M v0 0) 4) v1)], (K, M))) rfl).trans ?_
    exact (v_stat (k := 106) (n := 2) (code := c_X6_taken) (pc := 34) (len := 3) (L := [(2, v0), (0, v1), (0, v2)]) (st := [(0, v2), (0, M (M (M v0 0) 4) v1)]) rfl (Nat.le_of_ble_eq_true rfl) (Nat.le_of_ble_eq_true rfl)).trans rfl
  · refine (vr_steps 1 (x' := (23, [(2, v0), (0, v1), (0, v2)], [(0, (-11))], (K, M))) rfl).trans ?_
    exact vr_ret (ai := (35, 1, 1, 0, [])) rfl rfl
set_option maxRecDepth 100000 in
theorem e_X6_taken_37 {sc : dS} {d : Nat} {K : List (Nat × Nat)} {M : dM} {v0 v1 v2 s0 : Int} : vr sc d c_X6_taken (37, [(2, v0), (0, v1), (0, v2)], [(0, s0)], (K, M)) = (if s0 = 0 then some ([(0, (-13))], (K, M)) else (if og K 6 v0 0 = true then (if og K 5 (M v0 0) 5 = true then (if ag K 8 (M (M v0 0) 5) v1 = true then some ([(0, M (M (M v0 0) 5) v1)], (K, M)) else none) else none) else none)) := by
  refine (v_if (k := 0) (b := 52) (c := s0 = 0) rfl rfl).trans ?_
  refine c_congr (fun _ => ?_) (fun _ => ?_)
  · refine (vr_steps 1 (x' := (54, [(2, v0), (0, v1), (0, v2)], [(0, (-13))], (K, M))) rfl).trans ?_
    exact vr_ret (ai := (35, 1, 1, 0, [])) rfl rfl
  · refine (vr_steps 1 (x' := (41, [(2, v0), (0, v1), (0, v2)], [(2, v0)], (K, M))) rfl).trans ?_
    refine (v_getf (a := 6) (b := 0) (t := 2) rfl rfl).trans ?_
    refine g_congr (fun _ => ?_)
    refine (v_getf (a := 5) (b := 5) (t := 2) rfl rfl).trans ?_
    refine g_congr (fun _ => ?_)
    refine (vr_steps 1 (x' := (48, [(2, v0), (0, v1), (0, v2)], [(0, v1), (2, M (M v0 0) 5)], (K, M))) rfl).trans ?_
    refine (v_ald (a := 8) rfl (by decide)).trans ?_
    refine g_congr (fun _ => ?_)
    refine (vr_steps 1 (x' := (54, [(2, v0), (0, v1), (0, v2)], [(0, M (M (M v0 0) 5) v1)], (K, M))) rfl).trans ?_
    exact vr_ret (ai := (35, 1, 1, 0, [])) rfl rfl

noncomputable def c_X6_isUnder : Nat → Option dI := d_mcode m_X6_isUnder
set_option maxRecDepth 100000 in
theorem e_X6_isUnder_0 {sc : dS} {d : Nat} {K : List (Nat × Nat)} {M : dM} {v0 v1 : Int} {q2 q3 : dV} : vr sc d c_X6_isUnder (0, [(0, v0), (0, v1), q2, q3], [], (K, M)) = (vr sc d c_X6_isUnder (4, [(0, v0), (0, v1), (0, v0), (0, 0)], [], (K, M))) := by
  exact vr_steps 4 rfl
set_option maxRecDepth 100000 in
theorem e_X6_isUnder_4 {sc : dS} {d : Nat} {K : List (Nat × Nat)} {M : dM} {v0 v1 v2 v3 : Int} : vr sc d c_X6_isUnder (4, [(0, v0), (0, v1), (0, v2), (0, v3)], [], (K, M)) = (if 6 ≤ v3 then (if ¬ v2 = v1 then some ([(0, 0)], (K, M)) else some ([(0, 1)], (K, M))) else (if v2 = v1 then (if ¬ v2 = v1 then some ([(0, 0)], (K, M)) else some ([(0, 1)], (K, M))) else (vc sc d 108 [(0, v2)] (K, M)).bind (fun r => vr sc d c_X6_isUnder (19, [(0, v0), (0, v1), (0, v2), (0, v3)], r.1 ++ [], r.2)))) := by
  refine (vr_steps 2 (x' := (7, [(0, v0), (0, v1), (0, v2), (0, v3)], [(0, 6), (0, v3)], (K, M))) rfl).trans ?_
  refine (v_icmp (k := 3) (b := 34) (c := 6 ≤ v3) rfl rfl).trans ?_
  refine c_congr (fun _ => ?_) (fun _ => ?_)
  · refine (vr_steps 2 (x' := (36, [(0, v0), (0, v1), (0, v2), (0, v3)], [(0, v1), (0, v2)], (K, M))) rfl).trans ?_
    refine (v_icmp (k := 1) (b := 43) (c := ¬ v2 = v1) rfl rfl).trans ?_
    refine c_congr (fun _ => ?_) (fun _ => ?_)
    · refine (vr_steps 1 (x' := (44, [(0, v0), (0, v1), (0, v2), (0, v3)], [(0, 0)], (K, M))) rfl).trans ?_
      exact vr_ret (ai := (35, 1, 3, 0, [])) rfl rfl
    · refine (vr_steps 2 (x' := (44, [(0, v0), (0, v1), (0, v2), (0, v3)], [(0, 1)], (K, M))) rfl).trans ?_
      exact vr_ret (ai := (35, 1, 3, 0, [])) rfl rfl
  · refine (vr_steps 2 (x' := (12, [(0, v0), (0, v1), (0, v2), (0, v3)], [(0, v1), (0, v2)], (K, M))) rfl).trans ?_
    refine (v_icmp (k := 0) (b := 34) (c := v2 = v1) rfl rfl).trans ?_
    refine c_congr (fun _ => ?_) (fun _ => ?_)
    · refine (vr_steps 2 (x' := (36, [(0, v0), (0, v1), (0, v2), (0, v3)], [(0, v1), (0, v2)], (K, M))) rfl).trans ?_
      refine (v_icmp (k := 1) (b := 43) (c := ¬ v2 = v1) rfl rfl).trans ?_
      refine c_congr (fun _ => ?_) (fun _ => ?_)
      · refine (vr_steps 1 (x' := (44, [(0, v0), (0, v1), (0, v2), (0, v3)], [(0, 0)], (K, M))) rfl).trans ?_
        exact vr_ret (ai := (35, 1, 3, 0, [])) rfl rfl
      · refine (vr_steps 2 (x' := (44, [(0, v0), (0, v1), (0, v2), (0, v3)], [(0, 1)], (K, M))) rfl).trans ?_
        exact vr_ret (ai := (35, 1, 3, 0, [])) rfl rfl
    · refine (vr_steps 1 (x' := (16, [(0, v0), (0, v1), (0, v2), (0, v3)], [(0, v2)], (K, M))) rfl).trans ?_
      exact (v_stat (k := 108) (n := 1) (code := c_X6_isUnder) (pc := 16) (len := 3) (L := [(0, v0), (0, v1), (0, v2), (0, v3)]) (st := [(0, v2)]) rfl (Nat.le_of_ble_eq_true rfl) (Nat.le_of_ble_eq_true rfl)).trans rfl
set_option maxRecDepth 100000 in
theorem e_X6_isUnder_19 {sc : dS} {d : Nat} {K : List (Nat × Nat)} {M : dM} {v0 v1 v2 v3 s0 : Int} : vr sc d c_X6_isUnder (19, [(0, v0), (0, v1), (0, v2), (0, v3)], [(0, s0)], (K, M)) = (if s0 = 0 then (if ¬ v2 = v1 then some ([(0, 0)], (K, M)) else some ([(0, 1)], (K, M))) else (if 0 ≤ v2 ∧ v2 < 6 then vr sc d c_X6_isUnder (4, [(0, v0), (0, v1), (0, d_above.getD v2.toNat 0), (0, w32 (v3 + 1))], [], (K, M)) else none)) := by
  refine (v_if (k := 0) (b := 34) (c := s0 = 0) rfl rfl).trans ?_
  refine c_congr (fun _ => ?_) (fun _ => ?_)
  · refine (vr_steps 2 (x' := (36, [(0, v0), (0, v1), (0, v2), (0, v3)], [(0, v1), (0, v2)], (K, M))) rfl).trans ?_
    refine (v_icmp (k := 1) (b := 43) (c := ¬ v2 = v1) rfl rfl).trans ?_
    refine c_congr (fun _ => ?_) (fun _ => ?_)
    · refine (vr_steps 1 (x' := (44, [(0, v0), (0, v1), (0, v2), (0, v3)], [(0, 0)], (K, M))) rfl).trans ?_
      exact vr_ret (ai := (35, 1, 3, 0, [])) rfl rfl
    · refine (vr_steps 2 (x' := (44, [(0, v0), (0, v1), (0, v2), (0, v3)], [(0, 1)], (K, M))) rfl).trans ?_
      exact vr_ret (ai := (35, 1, 3, 0, [])) rfl rfl
  · refine (vr_steps 2 (x' := (26, [(0, v0), (0, v1), (0, v2), (0, v3)], [(0, v2), (2, 1000000)], (K, M))) rfl).trans ?_
    refine (v_above rfl).trans ?_
    refine p_congr (fun _ => ?_)
    exact vr_steps 3 rfl

noncomputable def c_X6_isWithin : Nat → Option dI := d_mcode m_X6_isWithin
set_option maxRecDepth 100000 in
theorem e_X6_isWithin_0 {sc : dS} {d : Nat} {K : List (Nat × Nat)} {M : dM} {v0 v1 : Int} : vr sc d c_X6_isWithin (0, [(0, v0), (0, v1)], [], (K, M)) = (if v0 < 0 then some ([(0, 0)], (K, M)) else (if v1 < v0 then some ([(0, 0)], (K, M)) else some ([(0, 1)], (K, M)))) := by
  refine (vr_steps 1 (x' := (1, [(0, v0), (0, v1)], [(0, v0)], (K, M))) rfl).trans ?_
  refine (v_if (k := 2) (b := 13) (c := v0 < 0) rfl rfl).trans ?_
  refine c_congr (fun _ => ?_) (fun _ => ?_)
  · refine (vr_steps 1 (x' := (14, [(0, v0), (0, v1)], [(0, 0)], (K, M))) rfl).trans ?_
    exact vr_ret (ai := (35, 1, 3, 0, [])) rfl rfl
  · refine (vr_steps 2 (x' := (6, [(0, v0), (0, v1)], [(0, v1), (0, v0)], (K, M))) rfl).trans ?_
    refine (v_icmp (k := 4) (b := 13) (c := v1 < v0) rfl rfl).trans ?_
    refine c_congr (fun _ => ?_) (fun _ => ?_)
    · refine (vr_steps 1 (x' := (14, [(0, v0), (0, v1)], [(0, 0)], (K, M))) rfl).trans ?_
      exact vr_ret (ai := (35, 1, 3, 0, [])) rfl rfl
    · refine (vr_steps 2 (x' := (14, [(0, v0), (0, v1)], [(0, 1)], (K, M))) rfl).trans ?_
      exact vr_ret (ai := (35, 1, 3, 0, [])) rfl rfl

noncomputable def c_X6_isKind : Nat → Option dI := d_mcode m_X6_isKind
set_option maxRecDepth 100000 in
theorem e_X6_isKind_0 {sc : dS} {d : Nat} {K : List (Nat × Nat)} {M : dM} {v0 : Int} : vr sc d c_X6_isKind (0, [(0, v0)], [], (K, M)) = (if v0 < 0 then some ([(0, 0)], (K, M)) else (if 6 ≤ v0 then some ([(0, 0)], (K, M)) else some ([(0, 1)], (K, M)))) := by
  refine (vr_steps 1 (x' := (1, [(0, v0)], [(0, v0)], (K, M))) rfl).trans ?_
  refine (v_if (k := 2) (b := 14) (c := v0 < 0) rfl rfl).trans ?_
  refine c_congr (fun _ => ?_) (fun _ => ?_)
  · refine (vr_steps 1 (x' := (15, [(0, v0)], [(0, 0)], (K, M))) rfl).trans ?_
    exact vr_ret (ai := (35, 1, 3, 0, [])) rfl rfl
  · refine (vr_steps 2 (x' := (7, [(0, v0)], [(0, 6), (0, v0)], (K, M))) rfl).trans ?_
    refine (v_icmp (k := 3) (b := 14) (c := 6 ≤ v0) rfl rfl).trans ?_
    refine c_congr (fun _ => ?_) (fun _ => ?_)
    · refine (vr_steps 1 (x' := (15, [(0, v0)], [(0, 0)], (K, M))) rfl).trans ?_
      exact vr_ret (ai := (35, 1, 3, 0, [])) rfl rfl
    · refine (vr_steps 2 (x' := (15, [(0, v0)], [(0, 1)], (K, M))) rfl).trans ?_
      exact vr_ret (ai := (35, 1, 3, 0, [])) rfl rfl

noncomputable def c_X6_isFoot : Nat → Option dI := d_mcode m_X6_isFoot
set_option maxRecDepth 100000 in
theorem e_X6_isFoot_0 {sc : dS} {d : Nat} {K : List (Nat × Nat)} {M : dM} {v0 : Int} : vr sc d c_X6_isFoot (0, [(0, v0)], [], (K, M)) = (if v0 < 0 then some ([(0, 0)], (K, M)) else (if 6 ≤ v0 then some ([(0, 0)], (K, M)) else some ([(0, 1)], (K, M)))) := by
  refine (vr_steps 1 (x' := (1, [(0, v0)], [(0, v0)], (K, M))) rfl).trans ?_
  refine (v_if (k := 2) (b := 14) (c := v0 < 0) rfl rfl).trans ?_
  refine c_congr (fun _ => ?_) (fun _ => ?_)
  · refine (vr_steps 1 (x' := (15, [(0, v0)], [(0, 0)], (K, M))) rfl).trans ?_
    exact vr_ret (ai := (35, 1, 3, 0, [])) rfl rfl
  · refine (vr_steps 2 (x' := (7, [(0, v0)], [(0, 6), (0, v0)], (K, M))) rfl).trans ?_
    refine (v_icmp (k := 3) (b := 14) (c := 6 ≤ v0) rfl rfl).trans ?_
    refine c_congr (fun _ => ?_) (fun _ => ?_)
    · refine (vr_steps 1 (x' := (15, [(0, v0)], [(0, 0)], (K, M))) rfl).trans ?_
      exact vr_ret (ai := (35, 1, 3, 0, [])) rfl rfl
    · refine (vr_steps 2 (x' := (15, [(0, v0)], [(0, 1)], (K, M))) rfl).trans ?_
      exact vr_ret (ai := (35, 1, 3, 0, [])) rfl rfl

noncomputable def c_X6_isCrossing : Nat → Option dI := d_mcode m_X6_isCrossing
set_option maxRecDepth 100000 in
theorem e_X6_isCrossing_0 {sc : dS} {d : Nat} {K : List (Nat × Nat)} {M : dM} {v0 : Int} : vr sc d c_X6_isCrossing (0, [(0, v0)], [], (K, M)) = (if v0 < 0 then some ([(0, 0)], (K, M)) else (if 4 ≤ v0 then some ([(0, 0)], (K, M)) else some ([(0, 1)], (K, M)))) := by
  refine (vr_steps 1 (x' := (1, [(0, v0)], [(0, v0)], (K, M))) rfl).trans ?_
  refine (v_if (k := 2) (b := 13) (c := v0 < 0) rfl rfl).trans ?_
  refine c_congr (fun _ => ?_) (fun _ => ?_)
  · refine (vr_steps 1 (x' := (14, [(0, v0)], [(0, 0)], (K, M))) rfl).trans ?_
    exact vr_ret (ai := (35, 1, 3, 0, [])) rfl rfl
  · refine (vr_steps 2 (x' := (6, [(0, v0)], [(0, 4), (0, v0)], (K, M))) rfl).trans ?_
    refine (v_icmp (k := 3) (b := 13) (c := 4 ≤ v0) rfl rfl).trans ?_
    refine c_congr (fun _ => ?_) (fun _ => ?_)
    · refine (vr_steps 1 (x' := (14, [(0, v0)], [(0, 0)], (K, M))) rfl).trans ?_
      exact vr_ret (ai := (35, 1, 3, 0, [])) rfl rfl
    · refine (vr_steps 2 (x' := (14, [(0, v0)], [(0, 1)], (K, M))) rfl).trans ?_
      exact vr_ret (ai := (35, 1, 3, 0, [])) rfl rfl

noncomputable def c_X6_isSheet : Nat → Option dI := d_mcode m_X6_isSheet
set_option maxRecDepth 100000 in
theorem e_X6_isSheet_0 {sc : dS} {d : Nat} {K : List (Nat × Nat)} {M : dM} {v0 : Int} : vr sc d c_X6_isSheet (0, [(0, v0)], [], (K, M)) = (if v0 < 0 then some ([(0, 0)], (K, M)) else (if 4 ≤ v0 then some ([(0, 0)], (K, M)) else some ([(0, 1)], (K, M)))) := by
  refine (vr_steps 1 (x' := (1, [(0, v0)], [(0, v0)], (K, M))) rfl).trans ?_
  refine (v_if (k := 2) (b := 13) (c := v0 < 0) rfl rfl).trans ?_
  refine c_congr (fun _ => ?_) (fun _ => ?_)
  · refine (vr_steps 1 (x' := (14, [(0, v0)], [(0, 0)], (K, M))) rfl).trans ?_
    exact vr_ret (ai := (35, 1, 3, 0, [])) rfl rfl
  · refine (vr_steps 2 (x' := (6, [(0, v0)], [(0, 4), (0, v0)], (K, M))) rfl).trans ?_
    refine (v_icmp (k := 3) (b := 13) (c := 4 ≤ v0) rfl rfl).trans ?_
    refine c_congr (fun _ => ?_) (fun _ => ?_)
    · refine (vr_steps 1 (x' := (14, [(0, v0)], [(0, 0)], (K, M))) rfl).trans ?_
      exact vr_ret (ai := (35, 1, 3, 0, [])) rfl rfl
    · refine (vr_steps 2 (x' := (14, [(0, v0)], [(0, 1)], (K, M))) rfl).trans ?_
      exact vr_ret (ai := (35, 1, 3, 0, [])) rfl rfl

noncomputable def c_X6_isSort : Nat → Option dI := d_mcode m_X6_isSort
set_option maxRecDepth 100000 in
theorem e_X6_isSort_0 {sc : dS} {d : Nat} {K : List (Nat × Nat)} {M : dM} {v0 : Int} : vr sc d c_X6_isSort (0, [(0, v0)], [], (K, M)) = (if v0 < 0 then some ([(0, 0)], (K, M)) else (if 2 < v0 then some ([(0, 0)], (K, M)) else some ([(0, 1)], (K, M)))) := by
  refine (vr_steps 1 (x' := (1, [(0, v0)], [(0, v0)], (K, M))) rfl).trans ?_
  refine (v_if (k := 2) (b := 13) (c := v0 < 0) rfl rfl).trans ?_
  refine c_congr (fun _ => ?_) (fun _ => ?_)
  · refine (vr_steps 1 (x' := (14, [(0, v0)], [(0, 0)], (K, M))) rfl).trans ?_
    exact vr_ret (ai := (35, 1, 3, 0, [])) rfl rfl
  · refine (vr_steps 2 (x' := (6, [(0, v0)], [(0, 2), (0, v0)], (K, M))) rfl).trans ?_
    refine (v_icmp (k := 4) (b := 13) (c := 2 < v0) rfl rfl).trans ?_
    refine c_congr (fun _ => ?_) (fun _ => ?_)
    · refine (vr_steps 1 (x' := (14, [(0, v0)], [(0, 0)], (K, M))) rfl).trans ?_
      exact vr_ret (ai := (35, 1, 3, 0, [])) rfl rfl
    · refine (vr_steps 2 (x' := (14, [(0, v0)], [(0, 1)], (K, M))) rfl).trans ?_
      exact vr_ret (ai := (35, 1, 3, 0, [])) rfl rfl

noncomputable def c_X6_bounded : Nat → Option dI := d_mcode m_X6_bounded
set_option maxRecDepth 100000 in
theorem e_X6_bounded_0 {sc : dS} {d : Nat} {K : List (Nat × Nat)} {M : dM} {v0 v1 v2 : Int} : vr sc d c_X6_bounded (0, [(0, v0), (0, v1), (0, v2)], [], (K, M)) = (if v1 ≤ v0 then (if v0 ≤ v2 then some ([(0, v0)], (K, M)) else some ([(0, v2)], (K, M))) else some ([(0, v1)], (K, M))) := by
  refine (vr_steps 2 (x' := (2, [(0, v0), (0, v1), (0, v2)], [(0, v1), (0, v0)], (K, M))) rfl).trans ?_
  refine (v_icmp (k := 3) (b := 7) (c := v1 ≤ v0) rfl rfl).trans ?_
  refine c_congr (fun _ => ?_) (fun _ => ?_)
  · refine (vr_steps 2 (x' := (9, [(0, v0), (0, v1), (0, v2)], [(0, v2), (0, v0)], (K, M))) rfl).trans ?_
    refine (v_icmp (k := 5) (b := 16) (c := v0 ≤ v2) rfl rfl).trans ?_
    refine c_congr (fun _ => ?_) (fun _ => ?_)
    · refine (vr_steps 1 (x' := (17, [(0, v0), (0, v1), (0, v2)], [(0, v0)], (K, M))) rfl).trans ?_
      exact vr_ret (ai := (35, 1, 1, 0, [])) rfl rfl
    · refine (vr_steps 2 (x' := (17, [(0, v0), (0, v1), (0, v2)], [(0, v2)], (K, M))) rfl).trans ?_
      exact vr_ret (ai := (35, 1, 1, 0, [])) rfl rfl
  · refine (vr_steps 1 (x' := (6, [(0, v0), (0, v1), (0, v2)], [(0, v1)], (K, M))) rfl).trans ?_
    exact vr_ret (ai := (35, 1, 1, 0, [])) rfl rfl

noncomputable def c_X7_in : Nat → Option dI := d_mcode m_X7_in
set_option maxRecDepth 100000 in
theorem e_X7_in_0 {sc : dS} {d : Nat} {K : List (Nat × Nat)} {M : dM} {v0 v2 v4 : Int} : vr sc d c_X7_in (0, [(1, v0), (3, 0), (1, v2), (3, 0), (1, v4), (3, 0)], [], (K, M)) = (if (i_cmp v0 v2) < 0 then some ([(0, 0)], (K, M)) else (if 0 < (i_cmp v0 v4) then some ([(0, 0)], (K, M)) else some ([(0, 1)], (K, M)))) := by
  refine (vr_steps 3 (x' := (3, [(1, v0), (3, 0), (1, v2), (3, 0), (1, v4), (3, 0)], [(0, i_cmp v0 v2)], (K, M))) rfl).trans ?_
  refine (v_if (k := 2) (b := 17) (c := (i_cmp v0 v2) < 0) rfl rfl).trans ?_
  refine c_congr (fun _ => ?_) (fun _ => ?_)
  · refine (vr_steps 1 (x' := (18, [(1, v0), (3, 0), (1, v2), (3, 0), (1, v4), (3, 0)], [(0, 0)], (K, M))) rfl).trans ?_
    exact vr_ret (ai := (35, 1, 3, 0, [])) rfl rfl
  · refine (vr_steps 3 (x' := (10, [(1, v0), (3, 0), (1, v2), (3, 0), (1, v4), (3, 0)], [(0, i_cmp v0 v4)], (K, M))) rfl).trans ?_
    refine (v_if (k := 4) (b := 17) (c := 0 < (i_cmp v0 v4)) rfl rfl).trans ?_
    refine c_congr (fun _ => ?_) (fun _ => ?_)
    · refine (vr_steps 1 (x' := (18, [(1, v0), (3, 0), (1, v2), (3, 0), (1, v4), (3, 0)], [(0, 0)], (K, M))) rfl).trans ?_
      exact vr_ret (ai := (35, 1, 3, 0, [])) rfl rfl
    · refine (vr_steps 2 (x' := (18, [(1, v0), (3, 0), (1, v2), (3, 0), (1, v4), (3, 0)], [(0, 1)], (K, M))) rfl).trans ?_
      exact vr_ret (ai := (35, 1, 3, 0, [])) rfl rfl

noncomputable def c_X7_within : Nat → Option dI := d_mcode m_X7_within
set_option maxRecDepth 100000 in
theorem e_X7_within_0 {sc : dS} {d : Nat} {K : List (Nat × Nat)} {M : dM} {v0 v1 v2 : Int} : vr sc d c_X7_within (0, [(0, v0), (0, v1), (0, v2)], [], (K, M)) = (if v1 ≤ v0 then (if v0 ≤ v2 then some ([(0, v0)], (K, M)) else some ([(0, v2)], (K, M))) else some ([(0, v1)], (K, M))) := by
  refine (vr_steps 2 (x' := (2, [(0, v0), (0, v1), (0, v2)], [(0, v1), (0, v0)], (K, M))) rfl).trans ?_
  refine (v_icmp (k := 3) (b := 9) (c := v1 ≤ v0) rfl rfl).trans ?_
  refine c_congr (fun _ => ?_) (fun _ => ?_)
  · refine (vr_steps 2 (x' := (11, [(0, v0), (0, v1), (0, v2)], [(0, v2), (0, v0)], (K, M))) rfl).trans ?_
    refine (v_icmp (k := 5) (b := 18) (c := v0 ≤ v2) rfl rfl).trans ?_
    refine c_congr (fun _ => ?_) (fun _ => ?_)
    · refine (vr_steps 1 (x' := (19, [(0, v0), (0, v1), (0, v2)], [(0, v0)], (K, M))) rfl).trans ?_
      exact vr_ret (ai := (35, 1, 1, 0, [])) rfl rfl
    · refine (vr_steps 2 (x' := (19, [(0, v0), (0, v1), (0, v2)], [(0, v2)], (K, M))) rfl).trans ?_
      exact vr_ret (ai := (35, 1, 1, 0, [])) rfl rfl
  · refine (vr_steps 2 (x' := (19, [(0, v0), (0, v1), (0, v2)], [(0, v1)], (K, M))) rfl).trans ?_
    exact vr_ret (ai := (35, 1, 1, 0, [])) rfl rfl

noncomputable def c_X7_spell : Nat → Option dI := d_mcode m_X7_spell
set_option maxRecDepth 100000 in
theorem e_X7_spell_0 {sc : dS} {d : Nat} {K : List (Nat × Nat)} {M : dM} {v0 v1 v2 v3 v4 v5 v6 v7 v8 v9 : Int} : vr sc d c_X7_spell (0, [(2, v0), (0, v1), (0, v2), (0, v3), (0, v4), (0, v5), (0, v6), (0, v7), (0, v8), (0, v9)], [], (K, M)) = (if og K 7 v0 1 = true then (if ag K 8 (M v0 1) v1 = true then (if og K 7 v0 1 = true then (if ag K 8 ((d_up M (M v0 1) v1 v2) v0 1) (w32 (v1 + 1)) = true then (if og K 7 v0 1 = true then (if ag K 8 ((d_up (d_up M (M v0 1) v1 v2) ((d_up M (M v0 1) v1 v2) v0 1) (w32 (v1 + 1)) v3) v0 1) (w32 (v1 + 2)) = true then (if og K 7 v0 1 = true then (if ag K 8 ((d_up (d_up (d_up M (M v0 1) v1 v2) ((d_up M (M v0 1) v1 v2) v0 1) (w32 (v1 + 1)) v3) ((d_up (d_up M (M v0 1) v1 v2) ((d_up M (M v0 1) v1 v2) v0 1) (w32 (v1 + 1)) v3) v0 1) (w32 (v1 + 2)) v4) v0 1) (w32 (v1 + 3)) = true then (if og K 7 v0 1 = true then (if ag K 8 ((d_up (d_up (d_up (d_up M (M v0 1) v1 v2) ((d_up M (M v0 1) v1 v2) v0 1) (w32 (v1 + 1)) v3) ((d_up (d_up M (M v0 1) v1 v2) ((d_up M (M v0 1) v1 v2) v0 1) (w32 (v1 + 1)) v3) v0 1) (w32 (v1 + 2)) v4) ((d_up (d_up (d_up M (M v0 1) v1 v2) ((d_up M (M v0 1) v1 v2) v0 1) (w32 (v1 + 1)) v3) ((d_up (d_up M (M v0 1) v1 v2) ((d_up M (M v0 1) v1 v2) v0 1) (w32 (v1 + 1)) v3) v0 1) (w32 (v1 + 2)) v4) v0 1) (w32 (v1 + 3)) v5) v0 1) (w32 (v1 + 4)) = true then (if og K 7 v0 1 = true then (if ag K 8 ((d_up (d_up (d_up (d_up (d_up M (M v0 1) v1 v2) ((d_up M (M v0 1) v1 v2) v0 1) (w32 (v1 + 1)) v3) ((d_up (d_up M (M v0 1) v1 v2) ((d_up M (M v0 1) v1 v2) v0 1) (w32 (v1 + 1)) v3) v0 1) (w32 (v1 + 2)) v4) ((d_up (d_up (d_up M (M v0 1) v1 v2) ((d_up M (M v0 1) v1 v2) v0 1) (w32 (v1 + 1)) v3) ((d_up (d_up M (M v0 1) v1 v2) ((d_up M (M v0 1) v1 v2) v0 1) (w32 (v1 + 1)) v3) v0 1) (w32 (v1 + 2)) v4) v0 1) (w32 (v1 + 3)) v5) ((d_up (d_up (d_up (d_up M (M v0 1) v1 v2) ((d_up M (M v0 1) v1 v2) v0 1) (w32 (v1 + 1)) v3) ((d_up (d_up M (M v0 1) v1 v2) ((d_up M (M v0 1) v1 v2) v0 1) (w32 (v1 + 1)) v3) v0 1) (w32 (v1 + 2)) v4) ((d_up (d_up (d_up M (M v0 1) v1 v2) ((d_up M (M v0 1) v1 v2) v0 1) (w32 (v1 + 1)) v3) ((d_up (d_up M (M v0 1) v1 v2) ((d_up M (M v0 1) v1 v2) v0 1) (w32 (v1 + 1)) v3) v0 1) (w32 (v1 + 2)) v4) v0 1) (w32 (v1 + 3)) v5) v0 1) (w32 (v1 + 4)) v6) v0 1) (w32 (v1 + 5)) = true then (if og K 7 v0 1 = true then (if ag K 8 ((d_up (d_up (d_up (d_up (d_up (d_up M (M v0 1) v1 v2) ((d_up M (M v0 1) v1 v2) v0 1) (w32 (v1 + 1)) v3) ((d_up (d_up M (M v0 1) v1 v2) ((d_up M (M v0 1) v1 v2) v0 1) (w32 (v1 + 1)) v3) v0 1) (w32 (v1 + 2)) v4) ((d_up (d_up (d_up M (M v0 1) v1 v2) ((d_up M (M v0 1) v1 v2) v0 1) (w32 (v1 + 1)) v3) ((d_up (d_up M (M v0 1) v1 v2) ((d_up M (M v0 1) v1 v2) v0 1) (w32 (v1 + 1)) v3) v0 1) (w32 (v1 + 2)) v4) v0 1) (w32 (v1 + 3)) v5) ((d_up (d_up (d_up (d_up M (M v0 1) v1 v2) ((d_up M (M v0 1) v1 v2) v0 1) (w32 (v1 + 1)) v3) ((d_up (d_up M (M v0 1) v1 v2) ((d_up M (M v0 1) v1 v2) v0 1) (w32 (v1 + 1)) v3) v0 1) (w32 (v1 + 2)) v4) ((d_up (d_up (d_up M (M v0 1) v1 v2) ((d_up M (M v0 1) v1 v2) v0 1) (w32 (v1 + 1)) v3) ((d_up (d_up M (M v0 1) v1 v2) ((d_up M (M v0 1) v1 v2) v0 1) (w32 (v1 + 1)) v3) v0 1) (w32 (v1 + 2)) v4) v0 1) (w32 (v1 + 3)) v5) v0 1) (w32 (v1 + 4)) v6) ((d_up (d_up (d_up (d_up (d_up M (M v0 1) v1 v2) ((d_up M (M v0 1) v1 v2) v0 1) (w32 (v1 + 1)) v3) ((d_up (d_up M (M v0 1) v1 v2) ((d_up M (M v0 1) v1 v2) v0 1) (w32 (v1 + 1)) v3) v0 1) (w32 (v1 + 2)) v4) ((d_up (d_up (d_up M (M v0 1) v1 v2) ((d_up M (M v0 1) v1 v2) v0 1) (w32 (v1 + 1)) v3) ((d_up (d_up M (M v0 1) v1 v2) ((d_up M (M v0 1) v1 v2) v0 1) (w32 (v1 + 1)) v3) v0 1) (w32 (v1 + 2)) v4) v0 1) (w32 (v1 + 3)) v5) ((d_up (d_up (d_up (d_up M (M v0 1) v1 v2) ((d_up M (M v0 1) v1 v2) v0 1) (w32 (v1 + 1)) v3) ((d_up (d_up M (M v0 1) v1 v2) ((d_up M (M v0 1) v1 v2) v0 1) (w32 (v1 + 1)) v3) v0 1) (w32 (v1 + 2)) v4) ((d_up (d_up (d_up M (M v0 1) v1 v2) ((d_up M (M v0 1) v1 v2) v0 1) (w32 (v1 + 1)) v3) ((d_up (d_up M (M v0 1) v1 v2) ((d_up M (M v0 1) v1 v2) v0 1) (w32 (v1 + 1)) v3) v0 1) (w32 (v1 + 2)) v4) v0 1) (w32 (v1 + 3)) v5) v0 1) (w32 (v1 + 4)) v6) v0 1) (w32 (v1 + 5)) v7) v0 1) (w32 (v1 + 6)) = true then (if og K 7 v0 1 = true then (if ag K 8 ((d_up (d_up (d_up (d_up (d_up (d_up (d_up M (M v0 1) v1 v2) ((d_up M (M v0 1) v1 v2) v0 1) (w32 (v1 + 1)) v3) ((d_up (d_up M (M v0 1) v1 v2) ((d_up M (M v0 1) v1 v2) v0 1) (w32 (v1 + 1)) v3) v0 1) (w32 (v1 + 2)) v4) ((d_up (d_up (d_up M (M v0 1) v1 v2) ((d_up M (M v0 1) v1 v2) v0 1) (w32 (v1 + 1)) v3) ((d_up (d_up M (M v0 1) v1 v2) ((d_up M (M v0 1) v1 v2) v0 1) (w32 (v1 + 1)) v3) v0 1) (w32 (v1 + 2)) v4) v0 1) (w32 (v1 + 3)) v5) ((d_up (d_up (d_up (d_up M (M v0 1) v1 v2) ((d_up M (M v0 1) v1 v2) v0 1) (w32 (v1 + 1)) v3) ((d_up (d_up M (M v0 1) v1 v2) ((d_up M (M v0 1) v1 v2) v0 1) (w32 (v1 + 1)) v3) v0 1) (w32 (v1 + 2)) v4) ((d_up (d_up (d_up M (M v0 1) v1 v2) ((d_up M (M v0 1) v1 v2) v0 1) (w32 (v1 + 1)) v3) ((d_up (d_up M (M v0 1) v1 v2) ((d_up M (M v0 1) v1 v2) v0 1) (w32 (v1 + 1)) v3) v0 1) (w32 (v1 + 2)) v4) v0 1) (w32 (v1 + 3)) v5) v0 1) (w32 (v1 + 4)) v6) ((d_up (d_up (d_up (d_up (d_up M (M v0 1) v1 v2) ((d_up M (M v0 1) v1 v2) v0 1) (w32 (v1 + 1)) v3) ((d_up (d_up M (M v0 1) v1 v2) ((d_up M (M v0 1) v1 v2) v0 1) (w32 (v1 + 1)) v3) v0 1) (w32 (v1 + 2)) v4) ((d_up (d_up (d_up M (M v0 1) v1 v2) ((d_up M (M v0 1) v1 v2) v0 1) (w32 (v1 + 1)) v3) ((d_up (d_up M (M v0 1) v1 v2) ((d_up M (M v0 1) v1 v2) v0 1) (w32 (v1 + 1)) v3) v0 1) (w32 (v1 + 2)) v4) v0 1) (w32 (v1 + 3)) v5) ((d_up (d_up (d_up (d_up M (M v0 1) v1 v2) ((d_up M (M v0 1) v1 v2) v0 1) (w32 (v1 + 1)) v3) ((d_up (d_up M (M v0 1) v1 v2) ((d_up M (M v0 1) v1 v2) v0 1) (w32 (v1 + 1)) v3) v0 1) (w32 (v1 + 2)) v4) ((d_up (d_up (d_up M (M v0 1) v1 v2) ((d_up M (M v0 1) v1 v2) v0 1) (w32 (v1 + 1)) v3) ((d_up (d_up M (M v0 1) v1 v2) ((d_up M (M v0 1) v1 v2) v0 1) (w32 (v1 + 1)) v3) v0 1) (w32 (v1 + 2)) v4) v0 1) (w32 (v1 + 3)) v5) v0 1) (w32 (v1 + 4)) v6) v0 1) (w32 (v1 + 5)) v7) ((d_up (d_up (d_up (d_up (d_up (d_up M (M v0 1) v1 v2) ((d_up M (M v0 1) v1 v2) v0 1) (w32 (v1 + 1)) v3) ((d_up (d_up M (M v0 1) v1 v2) ((d_up M (M v0 1) v1 v2) v0 1) (w32 (v1 + 1)) v3) v0 1) (w32 (v1 + 2)) v4) ((d_up (d_up (d_up M (M v0 1) v1 v2) ((d_up M (M v0 1) v1 v2) v0 1) (w32 (v1 + 1)) v3) ((d_up (d_up M (M v0 1) v1 v2) ((d_up M (M v0 1) v1 v2) v0 1) (w32 (v1 + 1)) v3) v0 1) (w32 (v1 + 2)) v4) v0 1) (w32 (v1 + 3)) v5) ((d_up (d_up (d_up (d_up M (M v0 1) v1 v2) ((d_up M (M v0 1) v1 v2) v0 1) (w32 (v1 + 1)) v3) ((d_up (d_up M (M v0 1) v1 v2) ((d_up M (M v0 1) v1 v2) v0 1) (w32 (v1 + 1)) v3) v0 1) (w32 (v1 + 2)) v4) ((d_up (d_up (d_up M (M v0 1) v1 v2) ((d_up M (M v0 1) v1 v2) v0 1) (w32 (v1 + 1)) v3) ((d_up (d_up M (M v0 1) v1 v2) ((d_up M (M v0 1) v1 v2) v0 1) (w32 (v1 + 1)) v3) v0 1) (w32 (v1 + 2)) v4) v0 1) (w32 (v1 + 3)) v5) v0 1) (w32 (v1 + 4)) v6) ((d_up (d_up (d_up (d_up (d_up M (M v0 1) v1 v2) ((d_up M (M v0 1) v1 v2) v0 1) (w32 (v1 + 1)) v3) ((d_up (d_up M (M v0 1) v1 v2) ((d_up M (M v0 1) v1 v2) v0 1) (w32 (v1 + 1)) v3) v0 1) (w32 (v1 + 2)) v4) ((d_up (d_up (d_up M (M v0 1) v1 v2) ((d_up M (M v0 1) v1 v2) v0 1) (w32 (v1 + 1)) v3) ((d_up (d_up M (M v0 1) v1 v2) ((d_up M (M v0 1) v1 v2) v0 1) (w32 (v1 + 1)) v3) v0 1) (w32 (v1 + 2)) v4) v0 1) (w32 (v1 + 3)) v5) ((d_up (d_up (d_up (d_up M (M v0 1) v1 v2) ((d_up M (M v0 1) v1 v2) v0 1) (w32 (v1 + 1)) v3) ((d_up (d_up M (M v0 1) v1 v2) ((d_up M (M v0 1) v1 v2) v0 1) (w32 (v1 + 1)) v3) v0 1) (w32 (v1 + 2)) v4) ((d_up (d_up (d_up M (M v0 1) v1 v2) ((d_up M (M v0 1) v1 v2) v0 1) (w32 (v1 + 1)) v3) ((d_up (d_up M (M v0 1) v1 v2) ((d_up M (M v0 1) v1 v2) v0 1) (w32 (v1 + 1)) v3) v0 1) (w32 (v1 + 2)) v4) v0 1) (w32 (v1 + 3)) v5) v0 1) (w32 (v1 + 4)) v6) v0 1) (w32 (v1 + 5)) v7) v0 1) (w32 (v1 + 6)) v8) v0 1) (w32 (v1 + 7)) = true then some ([], (K, d_up (d_up (d_up (d_up (d_up (d_up (d_up (d_up M (M v0 1) v1 v2) ((d_up M (M v0 1) v1 v2) v0 1) (w32 (v1 + 1)) v3) ((d_up (d_up M (M v0 1) v1 v2) ((d_up M (M v0 1) v1 v2) v0 1) (w32 (v1 + 1)) v3) v0 1) (w32 (v1 + 2)) v4) ((d_up (d_up (d_up M (M v0 1) v1 v2) ((d_up M (M v0 1) v1 v2) v0 1) (w32 (v1 + 1)) v3) ((d_up (d_up M (M v0 1) v1 v2) ((d_up M (M v0 1) v1 v2) v0 1) (w32 (v1 + 1)) v3) v0 1) (w32 (v1 + 2)) v4) v0 1) (w32 (v1 + 3)) v5) ((d_up (d_up (d_up (d_up M (M v0 1) v1 v2) ((d_up M (M v0 1) v1 v2) v0 1) (w32 (v1 + 1)) v3) ((d_up (d_up M (M v0 1) v1 v2) ((d_up M (M v0 1) v1 v2) v0 1) (w32 (v1 + 1)) v3) v0 1) (w32 (v1 + 2)) v4) ((d_up (d_up (d_up M (M v0 1) v1 v2) ((d_up M (M v0 1) v1 v2) v0 1) (w32 (v1 + 1)) v3) ((d_up (d_up M (M v0 1) v1 v2) ((d_up M (M v0 1) v1 v2) v0 1) (w32 (v1 + 1)) v3) v0 1) (w32 (v1 + 2)) v4) v0 1) (w32 (v1 + 3)) v5) v0 1) (w32 (v1 + 4)) v6) ((d_up (d_up (d_up (d_up (d_up M (M v0 1) v1 v2) ((d_up M (M v0 1) v1 v2) v0 1) (w32 (v1 + 1)) v3) ((d_up (d_up M (M v0 1) v1 v2) ((d_up M (M v0 1) v1 v2) v0 1) (w32 (v1 + 1)) v3) v0 1) (w32 (v1 + 2)) v4) ((d_up (d_up (d_up M (M v0 1) v1 v2) ((d_up M (M v0 1) v1 v2) v0 1) (w32 (v1 + 1)) v3) ((d_up (d_up M (M v0 1) v1 v2) ((d_up M (M v0 1) v1 v2) v0 1) (w32 (v1 + 1)) v3) v0 1) (w32 (v1 + 2)) v4) v0 1) (w32 (v1 + 3)) v5) ((d_up (d_up (d_up (d_up M (M v0 1) v1 v2) ((d_up M (M v0 1) v1 v2) v0 1) (w32 (v1 + 1)) v3) ((d_up (d_up M (M v0 1) v1 v2) ((d_up M (M v0 1) v1 v2) v0 1) (w32 (v1 + 1)) v3) v0 1) (w32 (v1 + 2)) v4) ((d_up (d_up (d_up M (M v0 1) v1 v2) ((d_up M (M v0 1) v1 v2) v0 1) (w32 (v1 + 1)) v3) ((d_up (d_up M (M v0 1) v1 v2) ((d_up M (M v0 1) v1 v2) v0 1) (w32 (v1 + 1)) v3) v0 1) (w32 (v1 + 2)) v4) v0 1) (w32 (v1 + 3)) v5) v0 1) (w32 (v1 + 4)) v6) v0 1) (w32 (v1 + 5)) v7) ((d_up (d_up (d_up (d_up (d_up (d_up M (M v0 1) v1 v2) ((d_up M (M v0 1) v1 v2) v0 1) (w32 (v1 + 1)) v3) ((d_up (d_up M (M v0 1) v1 v2) ((d_up M (M v0 1) v1 v2) v0 1) (w32 (v1 + 1)) v3) v0 1) (w32 (v1 + 2)) v4) ((d_up (d_up (d_up M (M v0 1) v1 v2) ((d_up M (M v0 1) v1 v2) v0 1) (w32 (v1 + 1)) v3) ((d_up (d_up M (M v0 1) v1 v2) ((d_up M (M v0 1) v1 v2) v0 1) (w32 (v1 + 1)) v3) v0 1) (w32 (v1 + 2)) v4) v0 1) (w32 (v1 + 3)) v5) ((d_up (d_up (d_up (d_up M (M v0 1) v1 v2) ((d_up M (M v0 1) v1 v2) v0 1) (w32 (v1 + 1)) v3) ((d_up (d_up M (M v0 1) v1 v2) ((d_up M (M v0 1) v1 v2) v0 1) (w32 (v1 + 1)) v3) v0 1) (w32 (v1 + 2)) v4) ((d_up (d_up (d_up M (M v0 1) v1 v2) ((d_up M (M v0 1) v1 v2) v0 1) (w32 (v1 + 1)) v3) ((d_up (d_up M (M v0 1) v1 v2) ((d_up M (M v0 1) v1 v2) v0 1) (w32 (v1 + 1)) v3) v0 1) (w32 (v1 + 2)) v4) v0 1) (w32 (v1 + 3)) v5) v0 1) (w32 (v1 + 4)) v6) ((d_up (d_up (d_up (d_up (d_up M (M v0 1) v1 v2) ((d_up M (M v0 1) v1 v2) v0 1) (w32 (v1 + 1)) v3) ((d_up (d_up M (M v0 1) v1 v2) ((d_up M (M v0 1) v1 v2) v0 1) (w32 (v1 + 1)) v3) v0 1) (w32 (v1 + 2)) v4) ((d_up (d_up (d_up M (M v0 1) v1 v2) ((d_up M (M v0 1) v1 v2) v0 1) (w32 (v1 + 1)) v3) ((d_up (d_up M (M v0 1) v1 v2) ((d_up M (M v0 1) v1 v2) v0 1) (w32 (v1 + 1)) v3) v0 1) (w32 (v1 + 2)) v4) v0 1) (w32 (v1 + 3)) v5) ((d_up (d_up (d_up (d_up M (M v0 1) v1 v2) ((d_up M (M v0 1) v1 v2) v0 1) (w32 (v1 + 1)) v3) ((d_up (d_up M (M v0 1) v1 v2) ((d_up M (M v0 1) v1 v2) v0 1) (w32 (v1 + 1)) v3) v0 1) (w32 (v1 + 2)) v4) ((d_up (d_up (d_up M (M v0 1) v1 v2) ((d_up M (M v0 1) v1 v2) v0 1) (w32 (v1 + 1)) v3) ((d_up (d_up M (M v0 1) v1 v2) ((d_up M (M v0 1) v1 v2) v0 1) (w32 (v1 + 1)) v3) v0 1) (w32 (v1 + 2)) v4) v0 1) (w32 (v1 + 3)) v5) v0 1) (w32 (v1 + 4)) v6) v0 1) (w32 (v1 + 5)) v7) v0 1) (w32 (v1 + 6)) v8) ((d_up (d_up (d_up (d_up (d_up (d_up (d_up M (M v0 1) v1 v2) ((d_up M (M v0 1) v1 v2) v0 1) (w32 (v1 + 1)) v3) ((d_up (d_up M (M v0 1) v1 v2) ((d_up M (M v0 1) v1 v2) v0 1) (w32 (v1 + 1)) v3) v0 1) (w32 (v1 + 2)) v4) ((d_up (d_up (d_up M (M v0 1) v1 v2) ((d_up M (M v0 1) v1 v2) v0 1) (w32 (v1 + 1)) v3) ((d_up (d_up M (M v0 1) v1 v2) ((d_up M (M v0 1) v1 v2) v0 1) (w32 (v1 + 1)) v3) v0 1) (w32 (v1 + 2)) v4) v0 1) (w32 (v1 + 3)) v5) ((d_up (d_up (d_up (d_up M (M v0 1) v1 v2) ((d_up M (M v0 1) v1 v2) v0 1) (w32 (v1 + 1)) v3) ((d_up (d_up M (M v0 1) v1 v2) ((d_up M (M v0 1) v1 v2) v0 1) (w32 (v1 + 1)) v3) v0 1) (w32 (v1 + 2)) v4) ((d_up (d_up (d_up M (M v0 1) v1 v2) ((d_up M (M v0 1) v1 v2) v0 1) (w32 (v1 + 1)) v3) ((d_up (d_up M (M v0 1) v1 v2) ((d_up M (M v0 1) v1 v2) v0 1) (w32 (v1 + 1)) v3) v0 1) (w32 (v1 + 2)) v4) v0 1) (w32 (v1 + 3)) v5) v0 1) (w32 (v1 + 4)) v6) ((d_up (d_up (d_up (d_up (d_up M (M v0 1) v1 v2) ((d_up M (M v0 1) v1 v2) v0 1) (w32 (v1 + 1)) v3) ((d_up (d_up M (M v0 1) v1 v2) ((d_up M (M v0 1) v1 v2) v0 1) (w32 (v1 + 1)) v3) v0 1) (w32 (v1 + 2)) v4) ((d_up (d_up (d_up M (M v0 1) v1 v2) ((d_up M (M v0 1) v1 v2) v0 1) (w32 (v1 + 1)) v3) ((d_up (d_up M (M v0 1) v1 v2) ((d_up M (M v0 1) v1 v2) v0 1) (w32 (v1 + 1)) v3) v0 1) (w32 (v1 + 2)) v4) v0 1) (w32 (v1 + 3)) v5) ((d_up (d_up (d_up (d_up M (M v0 1) v1 v2) ((d_up M (M v0 1) v1 v2) v0 1) (w32 (v1 + 1)) v3) ((d_up (d_up M (M v0 1) v1 v2) ((d_up M (M v0 1) v1 v2) v0 1) (w32 (v1 + 1)) v3) v0 1) (w32 (v1 + 2)) v4) ((d_up (d_up (d_up M (M v0 1) v1 v2) ((d_up M (M v0 1) v1 v2) v0 1) (w32 (v1 + 1)) v3) ((d_up (d_up M (M v0 1) v1 v2) ((d_up M (M v0 1) v1 v2) v0 1) (w32 (v1 + 1)) v3) v0 1) (w32 (v1 + 2)) v4) v0 1) (w32 (v1 + 3)) v5) v0 1) (w32 (v1 + 4)) v6) v0 1) (w32 (v1 + 5)) v7) ((d_up (d_up (d_up (d_up (d_up (d_up M (M v0 1) v1 v2) ((d_up M (M v0 1) v1 v2) v0 1) (w32 (v1 + 1)) v3) ((d_up (d_up M (M v0 1) v1 v2) ((d_up M (M v0 1) v1 v2) v0 1) (w32 (v1 + 1)) v3) v0 1) (w32 (v1 + 2)) v4) ((d_up (d_up (d_up M (M v0 1) v1 v2) ((d_up M (M v0 1) v1 v2) v0 1) (w32 (v1 + 1)) v3) ((d_up (d_up M (M v0 1) v1 v2) ((d_up M (M v0 1) v1 v2) v0 1) (w32 (v1 + 1)) v3) v0 1) (w32 (v1 + 2)) v4) v0 1) (w32 (v1 + 3)) v5) ((d_up (d_up (d_up (d_up M (M v0 1) v1 v2) ((d_up M (M v0 1) v1 v2) v0 1) (w32 (v1 + 1)) v3) ((d_up (d_up M (M v0 1) v1 v2) ((d_up M (M v0 1) v1 v2) v0 1) (w32 (v1 + 1)) v3) v0 1) (w32 (v1 + 2)) v4) ((d_up (d_up (d_up M (M v0 1) v1 v2) ((d_up M (M v0 1) v1 v2) v0 1) (w32 (v1 + 1)) v3) ((d_up (d_up M (M v0 1) v1 v2) ((d_up M (M v0 1) v1 v2) v0 1) (w32 (v1 + 1)) v3) v0 1) (w32 (v1 + 2)) v4) v0 1) (w32 (v1 + 3)) v5) v0 1) (w32 (v1 + 4)) v6) ((d_up (d_up (d_up (d_up (d_up M (M v0 1) v1 v2) ((d_up M (M v0 1) v1 v2) v0 1) (w32 (v1 + 1)) v3) ((d_up (d_up M (M v0 1) v1 v2) ((d_up M (M v0 1) v1 v2) v0 1) (w32 (v1 + 1)) v3) v0 1) (w32 (v1 + 2)) v4) ((d_up (d_up (d_up M (M v0 1) v1 v2) ((d_up M (M v0 1) v1 v2) v0 1) (w32 (v1 + 1)) v3) ((d_up (d_up M (M v0 1) v1 v2) ((d_up M (M v0 1) v1 v2) v0 1) (w32 (v1 + 1)) v3) v0 1) (w32 (v1 + 2)) v4) v0 1) (w32 (v1 + 3)) v5) ((d_up (d_up (d_up (d_up M (M v0 1) v1 v2) ((d_up M (M v0 1) v1 v2) v0 1) (w32 (v1 + 1)) v3) ((d_up (d_up M (M v0 1) v1 v2) ((d_up M (M v0 1) v1 v2) v0 1) (w32 (v1 + 1)) v3) v0 1) (w32 (v1 + 2)) v4) ((d_up (d_up (d_up M (M v0 1) v1 v2) ((d_up M (M v0 1) v1 v2) v0 1) (w32 (v1 + 1)) v3) ((d_up (d_up M (M v0 1) v1 v2) ((d_up M (M v0 1) v1 v2) v0 1) (w32 (v1 + 1)) v3) v0 1) (w32 (v1 + 2)) v4) v0 1) (w32 (v1 + 3)) v5) v0 1) (w32 (v1 + 4)) v6) v0 1) (w32 (v1 + 5)) v7) v0 1) (w32 (v1 + 6)) v8) v0 1) (w32 (v1 + 7)) v9)) else none) else none) else none) else none) else none) else none) else none) else none) else none) else none) else none) else none) else none) else none) else none) else none) := by
  refine (vr_steps 1 (x' := (1, [(2, v0), (0, v1), (0, v2), (0, v3), (0, v4), (0, v5), (0, v6), (0, v7), (0, v8), (0, v9)], [(2, v0)], (K, M))) rfl).trans ?_
  refine (v_getf (a := 7) (b := 1) (t := 2) rfl rfl).trans ?_
  refine g_congr (fun _ => ?_)
  refine (vr_steps 2 (x' := (6, [(2, v0), (0, v1), (0, v2), (0, v3), (0, v4), (0, v5), (0, v6), (0, v7), (0, v8), (0, v9)], [(0, v2), (0, v1), (2, M v0 1)], (K, M))) rfl).trans ?_
  refine (v_ast rfl).trans ?_
  refine g_congr (fun _ => ?_)
  refine (vr_steps 1 (x' := (8, [(2, v0), (0, v1), (0, v2), (0, v3), (0, v4), (0, v5), (0, v6), (0, v7), (0, v8), (0, v9)], [(2, v0)], (K, d_up M (M v0 1) v1 v2))) rfl).trans ?_
  refine (v_getf (a := 7) (b := 1) (t := 2) rfl rfl).trans ?_
  refine g_congr (fun _ => ?_)
  refine (vr_steps 4 (x' := (15, [(2, v0), (0, v1), (0, v2), (0, v3), (0, v4), (0, v5), (0, v6), (0, v7), (0, v8), (0, v9)], [(0, v3), (0, w32 (v1 + 1)), (2, (d_up M (M v0 1) v1 v2) v0 1)], (K, d_up M (M v0 1) v1 v2))) rfl).trans ?_
  refine (v_ast rfl).trans ?_
  refine g_congr (fun _ => ?_)
  refine (vr_steps 1 (x' := (17, [(2, v0), (0, v1), (0, v2), (0, v3), (0, v4), (0, v5), (0, v6), (0, v7), (0, v8), (0, v9)], [(2, v0)], (K, d_up (d_up M (M v0 1) v1 v2) ((d_up M (M v0 1) v1 v2) v0 1) (w32 (v1 + 1)) v3))) rfl).trans ?_
  refine (v_getf (a := 7) (b := 1) (t := 2) rfl rfl).trans ?_
  refine g_congr (fun _ => ?_)
  refine (vr_steps 4 (x' := (25, [(2, v0), (0, v1), (0, v2), (0, v3), (0, v4), (0, v5), (0, v6), (0, v7), (0, v8), (0, v9)], [(0, v4), (0, w32 (v1 + 2)), (2, (d_up (d_up M (M v0 1) v1 v2) ((d_up M (M v0 1) v1 v2) v0 1) (w32 (v1 + 1)) v3) v0 1)], (K, d_up (d_up M (M v0 1) v1 v2) ((d_up M (M v0 1) v1 v2) v0 1) (w32 (v1 + 1)) v3))) rfl).trans ?_
  refine (v_ast rfl).trans ?_
  refine g_congr (fun _ => ?_)
  refine (vr_steps 1 (x' := (27, [(2, v0), (0, v1), (0, v2), (0, v3), (0, v4), (0, v5), (0, v6), (0, v7), (0, v8), (0, v9)], [(2, v0)], (K, d_up (d_up (d_up M (M v0 1) v1 v2) ((d_up M (M v0 1) v1 v2) v0 1) (w32 (v1 + 1)) v3) ((d_up (d_up M (M v0 1) v1 v2) ((d_up M (M v0 1) v1 v2) v0 1) (w32 (v1 + 1)) v3) v0 1) (w32 (v1 + 2)) v4))) rfl).trans ?_
  refine (v_getf (a := 7) (b := 1) (t := 2) rfl rfl).trans ?_
  refine g_congr (fun _ => ?_)
  refine (vr_steps 4 (x' := (35, [(2, v0), (0, v1), (0, v2), (0, v3), (0, v4), (0, v5), (0, v6), (0, v7), (0, v8), (0, v9)], [(0, v5), (0, w32 (v1 + 3)), (2, (d_up (d_up (d_up M (M v0 1) v1 v2) ((d_up M (M v0 1) v1 v2) v0 1) (w32 (v1 + 1)) v3) ((d_up (d_up M (M v0 1) v1 v2) ((d_up M (M v0 1) v1 v2) v0 1) (w32 (v1 + 1)) v3) v0 1) (w32 (v1 + 2)) v4) v0 1)], (K, d_up (d_up (d_up M (M v0 1) v1 v2) ((d_up M (M v0 1) v1 v2) v0 1) (w32 (v1 + 1)) v3) ((d_up (d_up M (M v0 1) v1 v2) ((d_up M (M v0 1) v1 v2) v0 1) (w32 (v1 + 1)) v3) v0 1) (w32 (v1 + 2)) v4))) rfl).trans ?_
  refine (v_ast rfl).trans ?_
  refine g_congr (fun _ => ?_)
  refine (vr_steps 1 (x' := (37, [(2, v0), (0, v1), (0, v2), (0, v3), (0, v4), (0, v5), (0, v6), (0, v7), (0, v8), (0, v9)], [(2, v0)], (K, d_up (d_up (d_up (d_up M (M v0 1) v1 v2) ((d_up M (M v0 1) v1 v2) v0 1) (w32 (v1 + 1)) v3) ((d_up (d_up M (M v0 1) v1 v2) ((d_up M (M v0 1) v1 v2) v0 1) (w32 (v1 + 1)) v3) v0 1) (w32 (v1 + 2)) v4) ((d_up (d_up (d_up M (M v0 1) v1 v2) ((d_up M (M v0 1) v1 v2) v0 1) (w32 (v1 + 1)) v3) ((d_up (d_up M (M v0 1) v1 v2) ((d_up M (M v0 1) v1 v2) v0 1) (w32 (v1 + 1)) v3) v0 1) (w32 (v1 + 2)) v4) v0 1) (w32 (v1 + 3)) v5))) rfl).trans ?_
  refine (v_getf (a := 7) (b := 1) (t := 2) rfl rfl).trans ?_
  refine g_congr (fun _ => ?_)
  refine (vr_steps 4 (x' := (45, [(2, v0), (0, v1), (0, v2), (0, v3), (0, v4), (0, v5), (0, v6), (0, v7), (0, v8), (0, v9)], [(0, v6), (0, w32 (v1 + 4)), (2, (d_up (d_up (d_up (d_up M (M v0 1) v1 v2) ((d_up M (M v0 1) v1 v2) v0 1) (w32 (v1 + 1)) v3) ((d_up (d_up M (M v0 1) v1 v2) ((d_up M (M v0 1) v1 v2) v0 1) (w32 (v1 + 1)) v3) v0 1) (w32 (v1 + 2)) v4) ((d_up (d_up (d_up M (M v0 1) v1 v2) ((d_up M (M v0 1) v1 v2) v0 1) (w32 (v1 + 1)) v3) ((d_up (d_up M (M v0 1) v1 v2) ((d_up M (M v0 1) v1 v2) v0 1) (w32 (v1 + 1)) v3) v0 1) (w32 (v1 + 2)) v4) v0 1) (w32 (v1 + 3)) v5) v0 1)], (K, d_up (d_up (d_up (d_up M (M v0 1) v1 v2) ((d_up M (M v0 1) v1 v2) v0 1) (w32 (v1 + 1)) v3) ((d_up (d_up M (M v0 1) v1 v2) ((d_up M (M v0 1) v1 v2) v0 1) (w32 (v1 + 1)) v3) v0 1) (w32 (v1 + 2)) v4) ((d_up (d_up (d_up M (M v0 1) v1 v2) ((d_up M (M v0 1) v1 v2) v0 1) (w32 (v1 + 1)) v3) ((d_up (d_up M (M v0 1) v1 v2) ((d_up M (M v0 1) v1 v2) v0 1) (w32 (v1 + 1)) v3) v0 1) (w32 (v1 + 2)) v4) v0 1) (w32 (v1 + 3)) v5))) rfl).trans ?_
  refine (v_ast rfl).trans ?_
  refine g_congr (fun _ => ?_)
  refine (vr_steps 1 (x' := (47, [(2, v0), (0, v1), (0, v2), (0, v3), (0, v4), (0, v5), (0, v6), (0, v7), (0, v8), (0, v9)], [(2, v0)], (K, d_up (d_up (d_up (d_up (d_up M (M v0 1) v1 v2) ((d_up M (M v0 1) v1 v2) v0 1) (w32 (v1 + 1)) v3) ((d_up (d_up M (M v0 1) v1 v2) ((d_up M (M v0 1) v1 v2) v0 1) (w32 (v1 + 1)) v3) v0 1) (w32 (v1 + 2)) v4) ((d_up (d_up (d_up M (M v0 1) v1 v2) ((d_up M (M v0 1) v1 v2) v0 1) (w32 (v1 + 1)) v3) ((d_up (d_up M (M v0 1) v1 v2) ((d_up M (M v0 1) v1 v2) v0 1) (w32 (v1 + 1)) v3) v0 1) (w32 (v1 + 2)) v4) v0 1) (w32 (v1 + 3)) v5) ((d_up (d_up (d_up (d_up M (M v0 1) v1 v2) ((d_up M (M v0 1) v1 v2) v0 1) (w32 (v1 + 1)) v3) ((d_up (d_up M (M v0 1) v1 v2) ((d_up M (M v0 1) v1 v2) v0 1) (w32 (v1 + 1)) v3) v0 1) (w32 (v1 + 2)) v4) ((d_up (d_up (d_up M (M v0 1) v1 v2) ((d_up M (M v0 1) v1 v2) v0 1) (w32 (v1 + 1)) v3) ((d_up (d_up M (M v0 1) v1 v2) ((d_up M (M v0 1) v1 v2) v0 1) (w32 (v1 + 1)) v3) v0 1) (w32 (v1 + 2)) v4) v0 1) (w32 (v1 + 3)) v5) v0 1) (w32 (v1 + 4)) v6))) rfl).trans ?_
  refine (v_getf (a := 7) (b := 1) (t := 2) rfl rfl).trans ?_
  refine g_congr (fun _ => ?_)
  refine (vr_steps 4 (x' := (55, [(2, v0), (0, v1), (0, v2), (0, v3), (0, v4), (0, v5), (0, v6), (0, v7), (0, v8), (0, v9)], [(0, v7), (0, w32 (v1 + 5)), (2, (d_up (d_up (d_up (d_up (d_up M (M v0 1) v1 v2) ((d_up M (M v0 1) v1 v2) v0 1) (w32 (v1 + 1)) v3) ((d_up (d_up M (M v0 1) v1 v2) ((d_up M (M v0 1) v1 v2) v0 1) (w32 (v1 + 1)) v3) v0 1) (w32 (v1 + 2)) v4) ((d_up (d_up (d_up M (M v0 1) v1 v2) ((d_up M (M v0 1) v1 v2) v0 1) (w32 (v1 + 1)) v3) ((d_up (d_up M (M v0 1) v1 v2) ((d_up M (M v0 1) v1 v2) v0 1) (w32 (v1 + 1)) v3) v0 1) (w32 (v1 + 2)) v4) v0 1) (w32 (v1 + 3)) v5) ((d_up (d_up (d_up (d_up M (M v0 1) v1 v2) ((d_up M (M v0 1) v1 v2) v0 1) (w32 (v1 + 1)) v3) ((d_up (d_up M (M v0 1) v1 v2) ((d_up M (M v0 1) v1 v2) v0 1) (w32 (v1 + 1)) v3) v0 1) (w32 (v1 + 2)) v4) ((d_up (d_up (d_up M (M v0 1) v1 v2) ((d_up M (M v0 1) v1 v2) v0 1) (w32 (v1 + 1)) v3) ((d_up (d_up M (M v0 1) v1 v2) ((d_up M (M v0 1) v1 v2) v0 1) (w32 (v1 + 1)) v3) v0 1) (w32 (v1 + 2)) v4) v0 1) (w32 (v1 + 3)) v5) v0 1) (w32 (v1 + 4)) v6) v0 1)], (K, d_up (d_up (d_up (d_up (d_up M (M v0 1) v1 v2) ((d_up M (M v0 1) v1 v2) v0 1) (w32 (v1 + 1)) v3) ((d_up (d_up M (M v0 1) v1 v2) ((d_up M (M v0 1) v1 v2) v0 1) (w32 (v1 + 1)) v3) v0 1) (w32 (v1 + 2)) v4) ((d_up (d_up (d_up M (M v0 1) v1 v2) ((d_up M (M v0 1) v1 v2) v0 1) (w32 (v1 + 1)) v3) ((d_up (d_up M (M v0 1) v1 v2) ((d_up M (M v0 1) v1 v2) v0 1) (w32 (v1 + 1)) v3) v0 1) (w32 (v1 + 2)) v4) v0 1) (w32 (v1 + 3)) v5) ((d_up (d_up (d_up (d_up M (M v0 1) v1 v2) ((d_up M (M v0 1) v1 v2) v0 1) (w32 (v1 + 1)) v3) ((d_up (d_up M (M v0 1) v1 v2) ((d_up M (M v0 1) v1 v2) v0 1) (w32 (v1 + 1)) v3) v0 1) (w32 (v1 + 2)) v4) ((d_up (d_up (d_up M (M v0 1) v1 v2) ((d_up M (M v0 1) v1 v2) v0 1) (w32 (v1 + 1)) v3) ((d_up (d_up M (M v0 1) v1 v2) ((d_up M (M v0 1) v1 v2) v0 1) (w32 (v1 + 1)) v3) v0 1) (w32 (v1 + 2)) v4) v0 1) (w32 (v1 + 3)) v5) v0 1) (w32 (v1 + 4)) v6))) rfl).trans ?_
  refine (v_ast rfl).trans ?_
  refine g_congr (fun _ => ?_)
  refine (vr_steps 1 (x' := (57, [(2, v0), (0, v1), (0, v2), (0, v3), (0, v4), (0, v5), (0, v6), (0, v7), (0, v8), (0, v9)], [(2, v0)], (K, d_up (d_up (d_up (d_up (d_up (d_up M (M v0 1) v1 v2) ((d_up M (M v0 1) v1 v2) v0 1) (w32 (v1 + 1)) v3) ((d_up (d_up M (M v0 1) v1 v2) ((d_up M (M v0 1) v1 v2) v0 1) (w32 (v1 + 1)) v3) v0 1) (w32 (v1 + 2)) v4) ((d_up (d_up (d_up M (M v0 1) v1 v2) ((d_up M (M v0 1) v1 v2) v0 1) (w32 (v1 + 1)) v3) ((d_up (d_up M (M v0 1) v1 v2) ((d_up M (M v0 1) v1 v2) v0 1) (w32 (v1 + 1)) v3) v0 1) (w32 (v1 + 2)) v4) v0 1) (w32 (v1 + 3)) v5) ((d_up (d_up (d_up (d_up M (M v0 1) v1 v2) ((d_up M (M v0 1) v1 v2) v0 1) (w32 (v1 + 1)) v3) ((d_up (d_up M (M v0 1) v1 v2) ((d_up M (M v0 1) v1 v2) v0 1) (w32 (v1 + 1)) v3) v0 1) (w32 (v1 + 2)) v4) ((d_up (d_up (d_up M (M v0 1) v1 v2) ((d_up M (M v0 1) v1 v2) v0 1) (w32 (v1 + 1)) v3) ((d_up (d_up M (M v0 1) v1 v2) ((d_up M (M v0 1) v1 v2) v0 1) (w32 (v1 + 1)) v3) v0 1) (w32 (v1 + 2)) v4) v0 1) (w32 (v1 + 3)) v5) v0 1) (w32 (v1 + 4)) v6) ((d_up (d_up (d_up (d_up (d_up M (M v0 1) v1 v2) ((d_up M (M v0 1) v1 v2) v0 1) (w32 (v1 + 1)) v3) ((d_up (d_up M (M v0 1) v1 v2) ((d_up M (M v0 1) v1 v2) v0 1) (w32 (v1 + 1)) v3) v0 1) (w32 (v1 + 2)) v4) ((d_up (d_up (d_up M (M v0 1) v1 v2) ((d_up M (M v0 1) v1 v2) v0 1) (w32 (v1 + 1)) v3) ((d_up (d_up M (M v0 1) v1 v2) ((d_up M (M v0 1) v1 v2) v0 1) (w32 (v1 + 1)) v3) v0 1) (w32 (v1 + 2)) v4) v0 1) (w32 (v1 + 3)) v5) ((d_up (d_up (d_up (d_up M (M v0 1) v1 v2) ((d_up M (M v0 1) v1 v2) v0 1) (w32 (v1 + 1)) v3) ((d_up (d_up M (M v0 1) v1 v2) ((d_up M (M v0 1) v1 v2) v0 1) (w32 (v1 + 1)) v3) v0 1) (w32 (v1 + 2)) v4) ((d_up (d_up (d_up M (M v0 1) v1 v2) ((d_up M (M v0 1) v1 v2) v0 1) (w32 (v1 + 1)) v3) ((d_up (d_up M (M v0 1) v1 v2) ((d_up M (M v0 1) v1 v2) v0 1) (w32 (v1 + 1)) v3) v0 1) (w32 (v1 + 2)) v4) v0 1) (w32 (v1 + 3)) v5) v0 1) (w32 (v1 + 4)) v6) v0 1) (w32 (v1 + 5)) v7))) rfl).trans ?_
  refine (v_getf (a := 7) (b := 1) (t := 2) rfl rfl).trans ?_
  refine g_congr (fun _ => ?_)
  refine (vr_steps 4 (x' := (66, [(2, v0), (0, v1), (0, v2), (0, v3), (0, v4), (0, v5), (0, v6), (0, v7), (0, v8), (0, v9)], [(0, v8), (0, w32 (v1 + 6)), (2, (d_up (d_up (d_up (d_up (d_up (d_up M (M v0 1) v1 v2) ((d_up M (M v0 1) v1 v2) v0 1) (w32 (v1 + 1)) v3) ((d_up (d_up M (M v0 1) v1 v2) ((d_up M (M v0 1) v1 v2) v0 1) (w32 (v1 + 1)) v3) v0 1) (w32 (v1 + 2)) v4) ((d_up (d_up (d_up M (M v0 1) v1 v2) ((d_up M (M v0 1) v1 v2) v0 1) (w32 (v1 + 1)) v3) ((d_up (d_up M (M v0 1) v1 v2) ((d_up M (M v0 1) v1 v2) v0 1) (w32 (v1 + 1)) v3) v0 1) (w32 (v1 + 2)) v4) v0 1) (w32 (v1 + 3)) v5) ((d_up (d_up (d_up (d_up M (M v0 1) v1 v2) ((d_up M (M v0 1) v1 v2) v0 1) (w32 (v1 + 1)) v3) ((d_up (d_up M (M v0 1) v1 v2) ((d_up M (M v0 1) v1 v2) v0 1) (w32 (v1 + 1)) v3) v0 1) (w32 (v1 + 2)) v4) ((d_up (d_up (d_up M (M v0 1) v1 v2) ((d_up M (M v0 1) v1 v2) v0 1) (w32 (v1 + 1)) v3) ((d_up (d_up M (M v0 1) v1 v2) ((d_up M (M v0 1) v1 v2) v0 1) (w32 (v1 + 1)) v3) v0 1) (w32 (v1 + 2)) v4) v0 1) (w32 (v1 + 3)) v5) v0 1) (w32 (v1 + 4)) v6) ((d_up (d_up (d_up (d_up (d_up M (M v0 1) v1 v2) ((d_up M (M v0 1) v1 v2) v0 1) (w32 (v1 + 1)) v3) ((d_up (d_up M (M v0 1) v1 v2) ((d_up M (M v0 1) v1 v2) v0 1) (w32 (v1 + 1)) v3) v0 1) (w32 (v1 + 2)) v4) ((d_up (d_up (d_up M (M v0 1) v1 v2) ((d_up M (M v0 1) v1 v2) v0 1) (w32 (v1 + 1)) v3) ((d_up (d_up M (M v0 1) v1 v2) ((d_up M (M v0 1) v1 v2) v0 1) (w32 (v1 + 1)) v3) v0 1) (w32 (v1 + 2)) v4) v0 1) (w32 (v1 + 3)) v5) ((d_up (d_up (d_up (d_up M (M v0 1) v1 v2) ((d_up M (M v0 1) v1 v2) v0 1) (w32 (v1 + 1)) v3) ((d_up (d_up M (M v0 1) v1 v2) ((d_up M (M v0 1) v1 v2) v0 1) (w32 (v1 + 1)) v3) v0 1) (w32 (v1 + 2)) v4) ((d_up (d_up (d_up M (M v0 1) v1 v2) ((d_up M (M v0 1) v1 v2) v0 1) (w32 (v1 + 1)) v3) ((d_up (d_up M (M v0 1) v1 v2) ((d_up M (M v0 1) v1 v2) v0 1) (w32 (v1 + 1)) v3) v0 1) (w32 (v1 + 2)) v4) v0 1) (w32 (v1 + 3)) v5) v0 1) (w32 (v1 + 4)) v6) v0 1) (w32 (v1 + 5)) v7) v0 1)], (K, d_up (d_up (d_up (d_up (d_up (d_up M (M v0 1) v1 v2) ((d_up M (M v0 1) v1 v2) v0 1) (w32 (v1 + 1)) v3) ((d_up (d_up M (M v0 1) v1 v2) ((d_up M (M v0 1) v1 v2) v0 1) (w32 (v1 + 1)) v3) v0 1) (w32 (v1 + 2)) v4) ((d_up (d_up (d_up M (M v0 1) v1 v2) ((d_up M (M v0 1) v1 v2) v0 1) (w32 (v1 + 1)) v3) ((d_up (d_up M (M v0 1) v1 v2) ((d_up M (M v0 1) v1 v2) v0 1) (w32 (v1 + 1)) v3) v0 1) (w32 (v1 + 2)) v4) v0 1) (w32 (v1 + 3)) v5) ((d_up (d_up (d_up (d_up M (M v0 1) v1 v2) ((d_up M (M v0 1) v1 v2) v0 1) (w32 (v1 + 1)) v3) ((d_up (d_up M (M v0 1) v1 v2) ((d_up M (M v0 1) v1 v2) v0 1) (w32 (v1 + 1)) v3) v0 1) (w32 (v1 + 2)) v4) ((d_up (d_up (d_up M (M v0 1) v1 v2) ((d_up M (M v0 1) v1 v2) v0 1) (w32 (v1 + 1)) v3) ((d_up (d_up M (M v0 1) v1 v2) ((d_up M (M v0 1) v1 v2) v0 1) (w32 (v1 + 1)) v3) v0 1) (w32 (v1 + 2)) v4) v0 1) (w32 (v1 + 3)) v5) v0 1) (w32 (v1 + 4)) v6) ((d_up (d_up (d_up (d_up (d_up M (M v0 1) v1 v2) ((d_up M (M v0 1) v1 v2) v0 1) (w32 (v1 + 1)) v3) ((d_up (d_up M (M v0 1) v1 v2) ((d_up M (M v0 1) v1 v2) v0 1) (w32 (v1 + 1)) v3) v0 1) (w32 (v1 + 2)) v4) ((d_up (d_up (d_up M (M v0 1) v1 v2) ((d_up M (M v0 1) v1 v2) v0 1) (w32 (v1 + 1)) v3) ((d_up (d_up M (M v0 1) v1 v2) ((d_up M (M v0 1) v1 v2) v0 1) (w32 (v1 + 1)) v3) v0 1) (w32 (v1 + 2)) v4) v0 1) (w32 (v1 + 3)) v5) ((d_up (d_up (d_up (d_up M (M v0 1) v1 v2) ((d_up M (M v0 1) v1 v2) v0 1) (w32 (v1 + 1)) v3) ((d_up (d_up M (M v0 1) v1 v2) ((d_up M (M v0 1) v1 v2) v0 1) (w32 (v1 + 1)) v3) v0 1) (w32 (v1 + 2)) v4) ((d_up (d_up (d_up M (M v0 1) v1 v2) ((d_up M (M v0 1) v1 v2) v0 1) (w32 (v1 + 1)) v3) ((d_up (d_up M (M v0 1) v1 v2) ((d_up M (M v0 1) v1 v2) v0 1) (w32 (v1 + 1)) v3) v0 1) (w32 (v1 + 2)) v4) v0 1) (w32 (v1 + 3)) v5) v0 1) (w32 (v1 + 4)) v6) v0 1) (w32 (v1 + 5)) v7))) rfl).trans ?_
  refine (v_ast rfl).trans ?_
  refine g_congr (fun _ => ?_)
  refine (vr_steps 1 (x' := (68, [(2, v0), (0, v1), (0, v2), (0, v3), (0, v4), (0, v5), (0, v6), (0, v7), (0, v8), (0, v9)], [(2, v0)], (K, d_up (d_up (d_up (d_up (d_up (d_up (d_up M (M v0 1) v1 v2) ((d_up M (M v0 1) v1 v2) v0 1) (w32 (v1 + 1)) v3) ((d_up (d_up M (M v0 1) v1 v2) ((d_up M (M v0 1) v1 v2) v0 1) (w32 (v1 + 1)) v3) v0 1) (w32 (v1 + 2)) v4) ((d_up (d_up (d_up M (M v0 1) v1 v2) ((d_up M (M v0 1) v1 v2) v0 1) (w32 (v1 + 1)) v3) ((d_up (d_up M (M v0 1) v1 v2) ((d_up M (M v0 1) v1 v2) v0 1) (w32 (v1 + 1)) v3) v0 1) (w32 (v1 + 2)) v4) v0 1) (w32 (v1 + 3)) v5) ((d_up (d_up (d_up (d_up M (M v0 1) v1 v2) ((d_up M (M v0 1) v1 v2) v0 1) (w32 (v1 + 1)) v3) ((d_up (d_up M (M v0 1) v1 v2) ((d_up M (M v0 1) v1 v2) v0 1) (w32 (v1 + 1)) v3) v0 1) (w32 (v1 + 2)) v4) ((d_up (d_up (d_up M (M v0 1) v1 v2) ((d_up M (M v0 1) v1 v2) v0 1) (w32 (v1 + 1)) v3) ((d_up (d_up M (M v0 1) v1 v2) ((d_up M (M v0 1) v1 v2) v0 1) (w32 (v1 + 1)) v3) v0 1) (w32 (v1 + 2)) v4) v0 1) (w32 (v1 + 3)) v5) v0 1) (w32 (v1 + 4)) v6) ((d_up (d_up (d_up (d_up (d_up M (M v0 1) v1 v2) ((d_up M (M v0 1) v1 v2) v0 1) (w32 (v1 + 1)) v3) ((d_up (d_up M (M v0 1) v1 v2) ((d_up M (M v0 1) v1 v2) v0 1) (w32 (v1 + 1)) v3) v0 1) (w32 (v1 + 2)) v4) ((d_up (d_up (d_up M (M v0 1) v1 v2) ((d_up M (M v0 1) v1 v2) v0 1) (w32 (v1 + 1)) v3) ((d_up (d_up M (M v0 1) v1 v2) ((d_up M (M v0 1) v1 v2) v0 1) (w32 (v1 + 1)) v3) v0 1) (w32 (v1 + 2)) v4) v0 1) (w32 (v1 + 3)) v5) ((d_up (d_up (d_up (d_up M (M v0 1) v1 v2) ((d_up M (M v0 1) v1 v2) v0 1) (w32 (v1 + 1)) v3) ((d_up (d_up M (M v0 1) v1 v2) ((d_up M (M v0 1) v1 v2) v0 1) (w32 (v1 + 1)) v3) v0 1) (w32 (v1 + 2)) v4) ((d_up (d_up (d_up M (M v0 1) v1 v2) ((d_up M (M v0 1) v1 v2) v0 1) (w32 (v1 + 1)) v3) ((d_up (d_up M (M v0 1) v1 v2) ((d_up M (M v0 1) v1 v2) v0 1) (w32 (v1 + 1)) v3) v0 1) (w32 (v1 + 2)) v4) v0 1) (w32 (v1 + 3)) v5) v0 1) (w32 (v1 + 4)) v6) v0 1) (w32 (v1 + 5)) v7) ((d_up (d_up (d_up (d_up (d_up (d_up M (M v0 1) v1 v2) ((d_up M (M v0 1) v1 v2) v0 1) (w32 (v1 + 1)) v3) ((d_up (d_up M (M v0 1) v1 v2) ((d_up M (M v0 1) v1 v2) v0 1) (w32 (v1 + 1)) v3) v0 1) (w32 (v1 + 2)) v4) ((d_up (d_up (d_up M (M v0 1) v1 v2) ((d_up M (M v0 1) v1 v2) v0 1) (w32 (v1 + 1)) v3) ((d_up (d_up M (M v0 1) v1 v2) ((d_up M (M v0 1) v1 v2) v0 1) (w32 (v1 + 1)) v3) v0 1) (w32 (v1 + 2)) v4) v0 1) (w32 (v1 + 3)) v5) ((d_up (d_up (d_up (d_up M (M v0 1) v1 v2) ((d_up M (M v0 1) v1 v2) v0 1) (w32 (v1 + 1)) v3) ((d_up (d_up M (M v0 1) v1 v2) ((d_up M (M v0 1) v1 v2) v0 1) (w32 (v1 + 1)) v3) v0 1) (w32 (v1 + 2)) v4) ((d_up (d_up (d_up M (M v0 1) v1 v2) ((d_up M (M v0 1) v1 v2) v0 1) (w32 (v1 + 1)) v3) ((d_up (d_up M (M v0 1) v1 v2) ((d_up M (M v0 1) v1 v2) v0 1) (w32 (v1 + 1)) v3) v0 1) (w32 (v1 + 2)) v4) v0 1) (w32 (v1 + 3)) v5) v0 1) (w32 (v1 + 4)) v6) ((d_up (d_up (d_up (d_up (d_up M (M v0 1) v1 v2) ((d_up M (M v0 1) v1 v2) v0 1) (w32 (v1 + 1)) v3) ((d_up (d_up M (M v0 1) v1 v2) ((d_up M (M v0 1) v1 v2) v0 1) (w32 (v1 + 1)) v3) v0 1) (w32 (v1 + 2)) v4) ((d_up (d_up (d_up M (M v0 1) v1 v2) ((d_up M (M v0 1) v1 v2) v0 1) (w32 (v1 + 1)) v3) ((d_up (d_up M (M v0 1) v1 v2) ((d_up M (M v0 1) v1 v2) v0 1) (w32 (v1 + 1)) v3) v0 1) (w32 (v1 + 2)) v4) v0 1) (w32 (v1 + 3)) v5) ((d_up (d_up (d_up (d_up M (M v0 1) v1 v2) ((d_up M (M v0 1) v1 v2) v0 1) (w32 (v1 + 1)) v3) ((d_up (d_up M (M v0 1) v1 v2) ((d_up M (M v0 1) v1 v2) v0 1) (w32 (v1 + 1)) v3) v0 1) (w32 (v1 + 2)) v4) ((d_up (d_up (d_up M (M v0 1) v1 v2) ((d_up M (M v0 1) v1 v2) v0 1) (w32 (v1 + 1)) v3) ((d_up (d_up M (M v0 1) v1 v2) ((d_up M (M v0 1) v1 v2) v0 1) (w32 (v1 + 1)) v3) v0 1) (w32 (v1 + 2)) v4) v0 1) (w32 (v1 + 3)) v5) v0 1) (w32 (v1 + 4)) v6) v0 1) (w32 (v1 + 5)) v7) v0 1) (w32 (v1 + 6)) v8))) rfl).trans ?_
  refine (v_getf (a := 7) (b := 1) (t := 2) rfl rfl).trans ?_
  refine g_congr (fun _ => ?_)
  refine (vr_steps 4 (x' := (77, [(2, v0), (0, v1), (0, v2), (0, v3), (0, v4), (0, v5), (0, v6), (0, v7), (0, v8), (0, v9)], [(0, v9), (0, w32 (v1 + 7)), (2, (d_up (d_up (d_up (d_up (d_up (d_up (d_up M (M v0 1) v1 v2) ((d_up M (M v0 1) v1 v2) v0 1) (w32 (v1 + 1)) v3) ((d_up (d_up M (M v0 1) v1 v2) ((d_up M (M v0 1) v1 v2) v0 1) (w32 (v1 + 1)) v3) v0 1) (w32 (v1 + 2)) v4) ((d_up (d_up (d_up M (M v0 1) v1 v2) ((d_up M (M v0 1) v1 v2) v0 1) (w32 (v1 + 1)) v3) ((d_up (d_up M (M v0 1) v1 v2) ((d_up M (M v0 1) v1 v2) v0 1) (w32 (v1 + 1)) v3) v0 1) (w32 (v1 + 2)) v4) v0 1) (w32 (v1 + 3)) v5) ((d_up (d_up (d_up (d_up M (M v0 1) v1 v2) ((d_up M (M v0 1) v1 v2) v0 1) (w32 (v1 + 1)) v3) ((d_up (d_up M (M v0 1) v1 v2) ((d_up M (M v0 1) v1 v2) v0 1) (w32 (v1 + 1)) v3) v0 1) (w32 (v1 + 2)) v4) ((d_up (d_up (d_up M (M v0 1) v1 v2) ((d_up M (M v0 1) v1 v2) v0 1) (w32 (v1 + 1)) v3) ((d_up (d_up M (M v0 1) v1 v2) ((d_up M (M v0 1) v1 v2) v0 1) (w32 (v1 + 1)) v3) v0 1) (w32 (v1 + 2)) v4) v0 1) (w32 (v1 + 3)) v5) v0 1) (w32 (v1 + 4)) v6) ((d_up (d_up (d_up (d_up (d_up M (M v0 1) v1 v2) ((d_up M (M v0 1) v1 v2) v0 1) (w32 (v1 + 1)) v3) ((d_up (d_up M (M v0 1) v1 v2) ((d_up M (M v0 1) v1 v2) v0 1) (w32 (v1 + 1)) v3) v0 1) (w32 (v1 + 2)) v4) ((d_up (d_up (d_up M (M v0 1) v1 v2) ((d_up M (M v0 1) v1 v2) v0 1) (w32 (v1 + 1)) v3) ((d_up (d_up M (M v0 1) v1 v2) ((d_up M (M v0 1) v1 v2) v0 1) (w32 (v1 + 1)) v3) v0 1) (w32 (v1 + 2)) v4) v0 1) (w32 (v1 + 3)) v5) ((d_up (d_up (d_up (d_up M (M v0 1) v1 v2) ((d_up M (M v0 1) v1 v2) v0 1) (w32 (v1 + 1)) v3) ((d_up (d_up M (M v0 1) v1 v2) ((d_up M (M v0 1) v1 v2) v0 1) (w32 (v1 + 1)) v3) v0 1) (w32 (v1 + 2)) v4) ((d_up (d_up (d_up M (M v0 1) v1 v2) ((d_up M (M v0 1) v1 v2) v0 1) (w32 (v1 + 1)) v3) ((d_up (d_up M (M v0 1) v1 v2) ((d_up M (M v0 1) v1 v2) v0 1) (w32 (v1 + 1)) v3) v0 1) (w32 (v1 + 2)) v4) v0 1) (w32 (v1 + 3)) v5) v0 1) (w32 (v1 + 4)) v6) v0 1) (w32 (v1 + 5)) v7) ((d_up (d_up (d_up (d_up (d_up (d_up M (M v0 1) v1 v2) ((d_up M (M v0 1) v1 v2) v0 1) (w32 (v1 + 1)) v3) ((d_up (d_up M (M v0 1) v1 v2) ((d_up M (M v0 1) v1 v2) v0 1) (w32 (v1 + 1)) v3) v0 1) (w32 (v1 + 2)) v4) ((d_up (d_up (d_up M (M v0 1) v1 v2) ((d_up M (M v0 1) v1 v2) v0 1) (w32 (v1 + 1)) v3) ((d_up (d_up M (M v0 1) v1 v2) ((d_up M (M v0 1) v1 v2) v0 1) (w32 (v1 + 1)) v3) v0 1) (w32 (v1 + 2)) v4) v0 1) (w32 (v1 + 3)) v5) ((d_up (d_up (d_up (d_up M (M v0 1) v1 v2) ((d_up M (M v0 1) v1 v2) v0 1) (w32 (v1 + 1)) v3) ((d_up (d_up M (M v0 1) v1 v2) ((d_up M (M v0 1) v1 v2) v0 1) (w32 (v1 + 1)) v3) v0 1) (w32 (v1 + 2)) v4) ((d_up (d_up (d_up M (M v0 1) v1 v2) ((d_up M (M v0 1) v1 v2) v0 1) (w32 (v1 + 1)) v3) ((d_up (d_up M (M v0 1) v1 v2) ((d_up M (M v0 1) v1 v2) v0 1) (w32 (v1 + 1)) v3) v0 1) (w32 (v1 + 2)) v4) v0 1) (w32 (v1 + 3)) v5) v0 1) (w32 (v1 + 4)) v6) ((d_up (d_up (d_up (d_up (d_up M (M v0 1) v1 v2) ((d_up M (M v0 1) v1 v2) v0 1) (w32 (v1 + 1)) v3) ((d_up (d_up M (M v0 1) v1 v2) ((d_up M (M v0 1) v1 v2) v0 1) (w32 (v1 + 1)) v3) v0 1) (w32 (v1 + 2)) v4) ((d_up (d_up (d_up M (M v0 1) v1 v2) ((d_up M (M v0 1) v1 v2) v0 1) (w32 (v1 + 1)) v3) ((d_up (d_up M (M v0 1) v1 v2) ((d_up M (M v0 1) v1 v2) v0 1) (w32 (v1 + 1)) v3) v0 1) (w32 (v1 + 2)) v4) v0 1) (w32 (v1 + 3)) v5) ((d_up (d_up (d_up (d_up M (M v0 1) v1 v2) ((d_up M (M v0 1) v1 v2) v0 1) (w32 (v1 + 1)) v3) ((d_up (d_up M (M v0 1) v1 v2) ((d_up M (M v0 1) v1 v2) v0 1) (w32 (v1 + 1)) v3) v0 1) (w32 (v1 + 2)) v4) ((d_up (d_up (d_up M (M v0 1) v1 v2) ((d_up M (M v0 1) v1 v2) v0 1) (w32 (v1 + 1)) v3) ((d_up (d_up M (M v0 1) v1 v2) ((d_up M (M v0 1) v1 v2) v0 1) (w32 (v1 + 1)) v3) v0 1) (w32 (v1 + 2)) v4) v0 1) (w32 (v1 + 3)) v5) v0 1) (w32 (v1 + 4)) v6) v0 1) (w32 (v1 + 5)) v7) v0 1) (w32 (v1 + 6)) v8) v0 1)], (K, d_up (d_up (d_up (d_up (d_up (d_up (d_up M (M v0 1) v1 v2) ((d_up M (M v0 1) v1 v2) v0 1) (w32 (v1 + 1)) v3) ((d_up (d_up M (M v0 1) v1 v2) ((d_up M (M v0 1) v1 v2) v0 1) (w32 (v1 + 1)) v3) v0 1) (w32 (v1 + 2)) v4) ((d_up (d_up (d_up M (M v0 1) v1 v2) ((d_up M (M v0 1) v1 v2) v0 1) (w32 (v1 + 1)) v3) ((d_up (d_up M (M v0 1) v1 v2) ((d_up M (M v0 1) v1 v2) v0 1) (w32 (v1 + 1)) v3) v0 1) (w32 (v1 + 2)) v4) v0 1) (w32 (v1 + 3)) v5) ((d_up (d_up (d_up (d_up M (M v0 1) v1 v2) ((d_up M (M v0 1) v1 v2) v0 1) (w32 (v1 + 1)) v3) ((d_up (d_up M (M v0 1) v1 v2) ((d_up M (M v0 1) v1 v2) v0 1) (w32 (v1 + 1)) v3) v0 1) (w32 (v1 + 2)) v4) ((d_up (d_up (d_up M (M v0 1) v1 v2) ((d_up M (M v0 1) v1 v2) v0 1) (w32 (v1 + 1)) v3) ((d_up (d_up M (M v0 1) v1 v2) ((d_up M (M v0 1) v1 v2) v0 1) (w32 (v1 + 1)) v3) v0 1) (w32 (v1 + 2)) v4) v0 1) (w32 (v1 + 3)) v5) v0 1) (w32 (v1 + 4)) v6) ((d_up (d_up (d_up (d_up (d_up M (M v0 1) v1 v2) ((d_up M (M v0 1) v1 v2) v0 1) (w32 (v1 + 1)) v3) ((d_up (d_up M (M v0 1) v1 v2) ((d_up M (M v0 1) v1 v2) v0 1) (w32 (v1 + 1)) v3) v0 1) (w32 (v1 + 2)) v4) ((d_up (d_up (d_up M (M v0 1) v1 v2) ((d_up M (M v0 1) v1 v2) v0 1) (w32 (v1 + 1)) v3) ((d_up (d_up M (M v0 1) v1 v2) ((d_up M (M v0 1) v1 v2) v0 1) (w32 (v1 + 1)) v3) v0 1) (w32 (v1 + 2)) v4) v0 1) (w32 (v1 + 3)) v5) ((d_up (d_up (d_up (d_up M (M v0 1) v1 v2) ((d_up M (M v0 1) v1 v2) v0 1) (w32 (v1 + 1)) v3) ((d_up (d_up M (M v0 1) v1 v2) ((d_up M (M v0 1) v1 v2) v0 1) (w32 (v1 + 1)) v3) v0 1) (w32 (v1 + 2)) v4) ((d_up (d_up (d_up M (M v0 1) v1 v2) ((d_up M (M v0 1) v1 v2) v0 1) (w32 (v1 + 1)) v3) ((d_up (d_up M (M v0 1) v1 v2) ((d_up M (M v0 1) v1 v2) v0 1) (w32 (v1 + 1)) v3) v0 1) (w32 (v1 + 2)) v4) v0 1) (w32 (v1 + 3)) v5) v0 1) (w32 (v1 + 4)) v6) v0 1) (w32 (v1 + 5)) v7) ((d_up (d_up (d_up (d_up (d_up (d_up M (M v0 1) v1 v2) ((d_up M (M v0 1) v1 v2) v0 1) (w32 (v1 + 1)) v3) ((d_up (d_up M (M v0 1) v1 v2) ((d_up M (M v0 1) v1 v2) v0 1) (w32 (v1 + 1)) v3) v0 1) (w32 (v1 + 2)) v4) ((d_up (d_up (d_up M (M v0 1) v1 v2) ((d_up M (M v0 1) v1 v2) v0 1) (w32 (v1 + 1)) v3) ((d_up (d_up M (M v0 1) v1 v2) ((d_up M (M v0 1) v1 v2) v0 1) (w32 (v1 + 1)) v3) v0 1) (w32 (v1 + 2)) v4) v0 1) (w32 (v1 + 3)) v5) ((d_up (d_up (d_up (d_up M (M v0 1) v1 v2) ((d_up M (M v0 1) v1 v2) v0 1) (w32 (v1 + 1)) v3) ((d_up (d_up M (M v0 1) v1 v2) ((d_up M (M v0 1) v1 v2) v0 1) (w32 (v1 + 1)) v3) v0 1) (w32 (v1 + 2)) v4) ((d_up (d_up (d_up M (M v0 1) v1 v2) ((d_up M (M v0 1) v1 v2) v0 1) (w32 (v1 + 1)) v3) ((d_up (d_up M (M v0 1) v1 v2) ((d_up M (M v0 1) v1 v2) v0 1) (w32 (v1 + 1)) v3) v0 1) (w32 (v1 + 2)) v4) v0 1) (w32 (v1 + 3)) v5) v0 1) (w32 (v1 + 4)) v6) ((d_up (d_up (d_up (d_up (d_up M (M v0 1) v1 v2) ((d_up M (M v0 1) v1 v2) v0 1) (w32 (v1 + 1)) v3) ((d_up (d_up M (M v0 1) v1 v2) ((d_up M (M v0 1) v1 v2) v0 1) (w32 (v1 + 1)) v3) v0 1) (w32 (v1 + 2)) v4) ((d_up (d_up (d_up M (M v0 1) v1 v2) ((d_up M (M v0 1) v1 v2) v0 1) (w32 (v1 + 1)) v3) ((d_up (d_up M (M v0 1) v1 v2) ((d_up M (M v0 1) v1 v2) v0 1) (w32 (v1 + 1)) v3) v0 1) (w32 (v1 + 2)) v4) v0 1) (w32 (v1 + 3)) v5) ((d_up (d_up (d_up (d_up M (M v0 1) v1 v2) ((d_up M (M v0 1) v1 v2) v0 1) (w32 (v1 + 1)) v3) ((d_up (d_up M (M v0 1) v1 v2) ((d_up M (M v0 1) v1 v2) v0 1) (w32 (v1 + 1)) v3) v0 1) (w32 (v1 + 2)) v4) ((d_up (d_up (d_up M (M v0 1) v1 v2) ((d_up M (M v0 1) v1 v2) v0 1) (w32 (v1 + 1)) v3) ((d_up (d_up M (M v0 1) v1 v2) ((d_up M (M v0 1) v1 v2) v0 1) (w32 (v1 + 1)) v3) v0 1) (w32 (v1 + 2)) v4) v0 1) (w32 (v1 + 3)) v5) v0 1) (w32 (v1 + 4)) v6) v0 1) (w32 (v1 + 5)) v7) v0 1) (w32 (v1 + 6)) v8))) rfl).trans ?_
  refine (v_ast rfl).trans ?_
  refine g_congr (fun _ => ?_)
  exact vr_ret (ai := (35, 1, 0, 0, [])) rfl rfl

noncomputable def c_X7_isLad : Nat → Option dI := d_mcode m_X7_isLad
set_option maxRecDepth 100000 in
theorem e_X7_isLad_0 {sc : dS} {d : Nat} {K : List (Nat × Nat)} {M : dM} {v0 v1 : Int} : vr sc d c_X7_isLad (0, [(2, v0), (0, v1)], [], (K, M)) = (if og K 7 v0 12 = true then (vc sc d 114 [(1, v1), (1, 0), (1, w32 ((M v0 12) - 1))] (K, M)).bind (fun r => vr sc d c_X7_isLad (13, [(2, v0), (0, v1)], r.1 ++ [], r.2)) else none) := by
  refine (vr_steps 4 (x' := (4, [(2, v0), (0, v1)], [(2, v0), (1, 0), (1, v1)], (K, M))) rfl).trans ?_
  refine (v_getf (a := 7) (b := 12) (t := 0) rfl rfl).trans ?_
  refine g_congr (fun _ => ?_)
  refine (vr_steps 3 (x' := (10, [(2, v0), (0, v1)], [(1, w32 ((M v0 12) - 1)), (1, 0), (1, v1)], (K, M))) rfl).trans ?_
  exact (v_stat (k := 114) (n := 3) (code := c_X7_isLad) (pc := 10) (len := 3) (L := [(2, v0), (0, v1)]) (st := [(1, w32 ((M v0 12) - 1)), (1, 0), (1, v1)]) rfl (Nat.le_of_ble_eq_true rfl) (Nat.le_of_ble_eq_true rfl)).trans rfl
set_option maxRecDepth 100000 in
theorem e_X7_isLad_13 {sc : dS} {d : Nat} {K : List (Nat × Nat)} {M : dM} {v0 v1 s0 : Int} : vr sc d c_X7_isLad (13, [(2, v0), (0, v1)], [(0, s0)], (K, M)) = (d_ret 3 [(0, s0)] (K, M)) := by
  exact vr_ret (ai := (35, 1, 3, 0, [])) rfl rfl

noncomputable def c_X7_isFoot : Nat → Option dI := d_mcode m_X7_isFoot
set_option maxRecDepth 100000 in
theorem e_X7_isFoot_0 {sc : dS} {d : Nat} {K : List (Nat × Nat)} {M : dM} {v0 : Int} : vr sc d c_X7_isFoot (0, [(0, v0)], [], (K, M)) = ((vc sc d 114 [(1, v0), (1, 0), (1, 5)] (K, M)).bind (fun r => vr sc d c_X7_isFoot (9, [(0, v0)], r.1 ++ [], r.2))) := by
  refine (vr_steps 4 (x' := (6, [(0, v0)], [(1, 5), (1, 0), (1, v0)], (K, M))) rfl).trans ?_
  exact (v_stat (k := 114) (n := 3) (code := c_X7_isFoot) (pc := 6) (len := 3) (L := [(0, v0)]) (st := [(1, 5), (1, 0), (1, v0)]) rfl (Nat.le_of_ble_eq_true rfl) (Nat.le_of_ble_eq_true rfl)).trans rfl
set_option maxRecDepth 100000 in
theorem e_X7_isFoot_9 {sc : dS} {d : Nat} {K : List (Nat × Nat)} {M : dM} {v0 s0 : Int} : vr sc d c_X7_isFoot (9, [(0, v0)], [(0, s0)], (K, M)) = (d_ret 3 [(0, s0)] (K, M)) := by
  exact vr_ret (ai := (35, 1, 3, 0, [])) rfl rfl

noncomputable def c_X7_isOf : Nat → Option dI := d_mcode m_X7_isOf
set_option maxRecDepth 100000 in
theorem e_X7_isOf_0 {sc : dS} {d : Nat} {K : List (Nat × Nat)} {M : dM} {v0 v1 v2 : Int} : vr sc d c_X7_isOf (0, [(2, v0), (0, v1), (0, v2)], [], (K, M)) = (if v1 < 2 then some ([(0, 1)], (K, M)) else (if v1 = 4 then (vc sc d 119 [(0, v2)] (K, M)).bind (fun r => vr sc d c_X7_isOf (20, [(2, v0), (0, v1), (0, v2)], r.1 ++ [], r.2)) else (if v1 ≤ 6 then (if rg K 7 v0 = true then (vc sc d 118 [(2, v0), (0, v2)] (K, M)).bind (fun r => vr sc d c_X7_isOf (31, [(2, v0), (0, v1), (0, v2)], r.1 ++ [], r.2)) else none) else (vc sc d 119 [(0, v2)] (K, M)).bind (fun r => vr sc d c_X7_isOf (20, [(2, v0), (0, v1), (0, v2)], r.1 ++ [], r.2))))) := by
  refine (vr_steps 2 (x' := (2, [(2, v0), (0, v1), (0, v2)], [(0, 2), (0, v1)], (K, M))) rfl).trans ?_
  refine (v_icmp (k := 2) (b := 34) (c := v1 < 2) rfl rfl).trans ?_
  refine c_congr (fun _ => ?_) (fun _ => ?_)
  · refine (vr_steps 2 (x' := (39, [(2, v0), (0, v1), (0, v2)], [(0, 1)], (K, M))) rfl).trans ?_
    exact vr_ret (ai := (35, 1, 3, 0, [])) rfl rfl
  · refine (vr_steps 2 (x' := (7, [(2, v0), (0, v1), (0, v2)], [(0, 4), (0, v1)], (K, M))) rfl).trans ?_
    refine (v_icmp (k := 0) (b := 16) (c := v1 = 4) rfl rfl).trans ?_
    refine c_congr (fun _ => ?_) (fun _ => ?_)
    · refine (vr_steps 1 (x' := (17, [(2, v0), (0, v1), (0, v2)], [(0, v2)], (K, M))) rfl).trans ?_
      exact (v_stat (k := 119) (n := 1) (code := c_X7_isOf) (pc := 17) (len := 3) (L := [(2, v0), (0, v1), (0, v2)]) (st := [(0, v2)]) rfl (Nat.le_of_ble_eq_true rfl) (Nat.le_of_ble_eq_true rfl)).trans rfl
    · refine (vr_steps 2 (x' := (13, [(2, v0), (0, v1), (0, v2)], [(0, 6), (0, v1)], (K, M))) rfl).trans ?_
      refine (v_icmp (k := 5) (b := 26) (c := v1 ≤ 6) rfl rfl).trans ?_
      refine c_congr (fun _ => ?_) (fun _ => ?_)
      · refine (vr_steps 2 (x' := (28, [(2, v0), (0, v1), (0, v2)], [(0, v2), (2, v0)], (K, M))) rfl).trans ?_
        exact (v_virt (k := 118) (n := 2) (tag := 7) (r := v0) (av := [(0, v2)]) (code := c_X7_isOf) (pc := 28) (len := 3) (L := [(2, v0), (0, v1), (0, v2)]) (st := [(0, v2), (2, v0)]) rfl (Nat.le_of_ble_eq_true rfl) (Nat.le_of_ble_eq_true rfl) rfl).trans rfl
      · refine (vr_steps 1 (x' := (17, [(2, v0), (0, v1), (0, v2)], [(0, v2)], (K, M))) rfl).trans ?_
        exact (v_stat (k := 119) (n := 1) (code := c_X7_isOf) (pc := 17) (len := 3) (L := [(2, v0), (0, v1), (0, v2)]) (st := [(0, v2)]) rfl (Nat.le_of_ble_eq_true rfl) (Nat.le_of_ble_eq_true rfl)).trans rfl
set_option maxRecDepth 100000 in
theorem e_X7_isOf_20 {sc : dS} {d : Nat} {K : List (Nat × Nat)} {M : dM} {v0 v1 v2 s0 : Int} : vr sc d c_X7_isOf (20, [(2, v0), (0, v1), (0, v2)], [(0, s0)], (K, M)) = (if s0 = 0 then some ([(0, 0)], (K, M)) else some ([(0, 1)], (K, M))) := by
  refine (v_if (k := 0) (b := 38) (c := s0 = 0) rfl rfl).trans ?_
  refine c_congr (fun _ => ?_) (fun _ => ?_)
  · refine (vr_steps 1 (x' := (39, [(2, v0), (0, v1), (0, v2)], [(0, 0)], (K, M))) rfl).trans ?_
    exact vr_ret (ai := (35, 1, 3, 0, [])) rfl rfl
  · refine (vr_steps 3 (x' := (39, [(2, v0), (0, v1), (0, v2)], [(0, 1)], (K, M))) rfl).trans ?_
    exact vr_ret (ai := (35, 1, 3, 0, [])) rfl rfl
set_option maxRecDepth 100000 in
theorem e_X7_isOf_31 {sc : dS} {d : Nat} {K : List (Nat × Nat)} {M : dM} {v0 v1 v2 s0 : Int} : vr sc d c_X7_isOf (31, [(2, v0), (0, v1), (0, v2)], [(0, s0)], (K, M)) = (if s0 = 0 then some ([(0, 0)], (K, M)) else some ([(0, 1)], (K, M))) := by
  refine (v_if (k := 0) (b := 38) (c := s0 = 0) rfl rfl).trans ?_
  refine c_congr (fun _ => ?_) (fun _ => ?_)
  · refine (vr_steps 1 (x' := (39, [(2, v0), (0, v1), (0, v2)], [(0, 0)], (K, M))) rfl).trans ?_
    exact vr_ret (ai := (35, 1, 3, 0, [])) rfl rfl
  · refine (vr_steps 2 (x' := (39, [(2, v0), (0, v1), (0, v2)], [(0, 1)], (K, M))) rfl).trans ?_
    exact vr_ret (ai := (35, 1, 3, 0, [])) rfl rfl

noncomputable def c_X7_mostOf : Nat → Option dI := d_mcode m_X7_mostOf
set_option maxRecDepth 100000 in
theorem e_X7_mostOf_0 {sc : dS} {d : Nat} {K : List (Nat × Nat)} {M : dM} {v0 : Int} : vr sc d c_X7_mostOf (0, [(0, v0)], [], (K, M)) = (if ¬ v0 = 0 then (if ¬ v0 = 1 then (if ¬ v0 = 2 then some ([(0, 99)], (K, M)) else some ([(0, 9)], (K, M))) else some ([(0, 1)], (K, M))) else some ([(0, 999)], (K, M))) := by
  refine (vr_steps 1 (x' := (1, [(0, v0)], [(0, v0)], (K, M))) rfl).trans ?_
  refine (v_if (k := 1) (b := 10) (c := ¬ v0 = 0) rfl rfl).trans ?_
  refine c_congr (fun _ => ?_) (fun _ => ?_)
  · refine (vr_steps 2 (x' := (12, [(0, v0)], [(0, 1), (0, v0)], (K, M))) rfl).trans ?_
    refine (v_icmp (k := 1) (b := 19) (c := ¬ v0 = 1) rfl rfl).trans ?_
    refine c_congr (fun _ => ?_) (fun _ => ?_)
    · refine (vr_steps 2 (x' := (21, [(0, v0)], [(0, 2), (0, v0)], (K, M))) rfl).trans ?_
      refine (v_icmp (k := 1) (b := 29) (c := ¬ v0 = 2) rfl rfl).trans ?_
      refine c_congr (fun _ => ?_) (fun _ => ?_)
      · refine (vr_steps 1 (x' := (31, [(0, v0)], [(0, 99)], (K, M))) rfl).trans ?_
        exact vr_ret (ai := (35, 1, 1, 0, [])) rfl rfl
      · refine (vr_steps 2 (x' := (31, [(0, v0)], [(0, 9)], (K, M))) rfl).trans ?_
        exact vr_ret (ai := (35, 1, 1, 0, [])) rfl rfl
    · refine (vr_steps 2 (x' := (31, [(0, v0)], [(0, 1)], (K, M))) rfl).trans ?_
      exact vr_ret (ai := (35, 1, 1, 0, [])) rfl rfl
  · refine (vr_steps 2 (x' := (31, [(0, v0)], [(0, 999)], (K, M))) rfl).trans ?_
    exact vr_ret (ai := (35, 1, 1, 0, [])) rfl rfl

noncomputable def c_X7_set : Nat → Option dI := d_mcode m_X7_set
set_option maxRecDepth 100000 in
theorem e_X7_set_0 {sc : dS} {d : Nat} {K : List (Nat × Nat)} {M : dM} {v0 v1 v2 v3 : Int} {q4 : dV} : vr sc d c_X7_set (0, [(2, v0), (0, v1), (0, v2), (0, v3), q4], [], (K, M)) = ((vc sc d 114 [(1, v1), (1, 0), (1, 4)] (K, M)).bind (fun r => vr sc d c_X7_set (9, [(2, v0), (0, v1), (0, v2), (0, v3), q4], r.1 ++ [], r.2))) := by
  refine (vr_steps 4 (x' := (6, [(2, v0), (0, v1), (0, v2), (0, v3), q4], [(1, 4), (1, 0), (1, v1)], (K, M))) rfl).trans ?_
  exact (v_stat (k := 114) (n := 3) (code := c_X7_set) (pc := 6) (len := 3) (L := [(2, v0), (0, v1), (0, v2), (0, v3), q4]) (st := [(1, 4), (1, 0), (1, v1)]) rfl (Nat.le_of_ble_eq_true rfl) (Nat.le_of_ble_eq_true rfl)).trans rfl
set_option maxRecDepth 100000 in
theorem e_X7_set_9 {sc : dS} {d : Nat} {K : List (Nat × Nat)} {M : dM} {v0 v1 v2 v3 s0 : Int} {q4 : dV} : vr sc d c_X7_set (9, [(2, v0), (0, v1), (0, v2), (0, v3), q4], [(0, s0)], (K, M)) = (if s0 = 0 then some ([(0, (-2))], (K, M)) else (if rg K 7 v0 = true then (vc sc d 120 [(2, v0), (0, v1), (0, v2)] (K, M)).bind (fun r => vr sc d c_X7_set (18, [(2, v0), (0, v1), (0, v2), (0, v3), q4], r.1 ++ [], r.2)) else none)) := by
  refine (v_if (k := 0) (b := 35) (c := s0 = 0) rfl rfl).trans ?_
  refine c_congr (fun _ => ?_) (fun _ => ?_)
  · refine (vr_steps 1 (x' := (37, [(2, v0), (0, v1), (0, v2), (0, v3), q4], [(0, (-2))], (K, M))) rfl).trans ?_
    exact vr_ret (ai := (35, 1, 1, 0, [])) rfl rfl
  · refine (vr_steps 3 (x' := (15, [(2, v0), (0, v1), (0, v2), (0, v3), q4], [(0, v2), (0, v1), (2, v0)], (K, M))) rfl).trans ?_
    exact (v_virt (k := 120) (n := 3) (tag := 7) (r := v0) (av := [(0, v1), (0, v2)]) (code := c_X7_set) (pc := 15) (len := 3) (L := [(2, v0), (0, v1), (0, v2), (0, v3), q4]) (st := [(0, v2), (0, v1), (2, v0)]) rfl (Nat.le_of_ble_eq_true rfl) (Nat.le_of_ble_eq_true rfl) rfl).trans rfl
set_option maxRecDepth 100000 in
theorem e_X7_set_18 {sc : dS} {d : Nat} {K : List (Nat × Nat)} {M : dM} {v0 v1 v2 v3 s0 : Int} {q4 : dV} : vr sc d c_X7_set (18, [(2, v0), (0, v1), (0, v2), (0, v3), q4], [(0, s0)], (K, M)) = (if s0 = 0 then some ([(0, (-2))], (K, M)) else (vc sc d 121 [(0, v1)] (K, M)).bind (fun r => vr sc d c_X7_set (28, [(2, v0), (0, v1), (0, v2), (0, v3), q4], r.1 ++ [(1, 0), (1, v3)], r.2))) := by
  refine (v_if (k := 0) (b := 35) (c := s0 = 0) rfl rfl).trans ?_
  refine c_congr (fun _ => ?_) (fun _ => ?_)
  · refine (vr_steps 1 (x' := (37, [(2, v0), (0, v1), (0, v2), (0, v3), q4], [(0, (-2))], (K, M))) rfl).trans ?_
    exact vr_ret (ai := (35, 1, 1, 0, [])) rfl rfl
  · refine (vr_steps 4 (x' := (25, [(2, v0), (0, v1), (0, v2), (0, v3), q4], [(0, v1), (1, 0), (1, v3)], (K, M))) rfl).trans ?_
    exact (v_stat (k := 121) (n := 1) (code := c_X7_set) (pc := 25) (len := 3) (L := [(2, v0), (0, v1), (0, v2), (0, v3), q4]) (st := [(0, v1), (1, 0), (1, v3)]) rfl (Nat.le_of_ble_eq_true rfl) (Nat.le_of_ble_eq_true rfl)).trans rfl
set_option maxRecDepth 100000 in
theorem e_X7_set_28 {sc : dS} {d : Nat} {K : List (Nat × Nat)} {M : dM} {v0 v1 v2 v3 s0 s1 s2 : Int} {q4 : dV} : vr sc d c_X7_set (28, [(2, v0), (0, v1), (0, v2), (0, v3), q4], [(0, s2), (1, s1), (1, s0)], (K, M)) = ((vc sc d 114 [(1, s0), (1, s1), (1, s2)] (K, M)).bind (fun r => vr sc d c_X7_set (32, [(2, v0), (0, v1), (0, v2), (0, v3), q4], r.1 ++ [], r.2))) := by
  refine (vr_steps 1 (x' := (29, [(2, v0), (0, v1), (0, v2), (0, v3), q4], [(1, s2), (1, s1), (1, s0)], (K, M))) rfl).trans ?_
  exact (v_stat (k := 114) (n := 3) (code := c_X7_set) (pc := 29) (len := 3) (L := [(2, v0), (0, v1), (0, v2), (0, v3), q4]) (st := [(1, s2), (1, s1), (1, s0)]) rfl (Nat.le_of_ble_eq_true rfl) (Nat.le_of_ble_eq_true rfl)).trans rfl
set_option maxRecDepth 100000 in
theorem e_X7_set_32 {sc : dS} {d : Nat} {K : List (Nat × Nat)} {M : dM} {v0 v1 v2 v3 s0 : Int} {q4 : dV} : vr sc d c_X7_set (32, [(2, v0), (0, v1), (0, v2), (0, v3), q4], [(0, s0)], (K, M)) = (if ¬ s0 = 0 then (if rg K 7 v0 = true then (vc sc d 125 [(2, v0), (0, v2), (0, v1)] (K, M)).bind (fun r => vr sc d c_X7_set (44, [(2, v0), (0, v1), (0, v2), (0, v3), q4], r.1 ++ [], r.2)) else none) else some ([(0, (-2))], (K, M))) := by
  refine (v_if (k := 1) (b := 38) (c := ¬ s0 = 0) rfl rfl).trans ?_
  refine c_congr (fun _ => ?_) (fun _ => ?_)
  · refine (vr_steps 3 (x' := (41, [(2, v0), (0, v1), (0, v2), (0, v3), q4], [(0, v1), (0, v2), (2, v0)], (K, M))) rfl).trans ?_
    exact (v_virt (k := 125) (n := 3) (tag := 7) (r := v0) (av := [(0, v2), (0, v1)]) (code := c_X7_set) (pc := 41) (len := 3) (L := [(2, v0), (0, v1), (0, v2), (0, v3), q4]) (st := [(0, v1), (0, v2), (2, v0)]) rfl (Nat.le_of_ble_eq_true rfl) (Nat.le_of_ble_eq_true rfl) rfl).trans rfl
  · refine (vr_steps 1 (x' := (37, [(2, v0), (0, v1), (0, v2), (0, v3), q4], [(0, (-2))], (K, M))) rfl).trans ?_
    exact vr_ret (ai := (35, 1, 1, 0, [])) rfl rfl
set_option maxRecDepth 100000 in
theorem e_X7_set_44 {sc : dS} {d : Nat} {K : List (Nat × Nat)} {M : dM} {v0 v1 v2 v3 s0 : Int} {q4 : dV} : vr sc d c_X7_set (44, [(2, v0), (0, v1), (0, v2), (0, v3), q4], [(0, s0)], (K, M)) = (if rg K 7 v0 = true then (vc sc d 123 [(2, v0), (0, v1), (0, v2), (0, v3)] (K, M)).bind (fun r => vr sc d c_X7_set (53, [(2, v0), (0, v1), (0, v2), (0, v3), (0, s0)], r.1 ++ [], r.2)) else none) := by
  refine (vr_steps 5 (x' := (50, [(2, v0), (0, v1), (0, v2), (0, v3), (0, s0)], [(0, v3), (0, v2), (0, v1), (2, v0)], (K, M))) rfl).trans ?_
  exact (v_virt (k := 123) (n := 4) (tag := 7) (r := v0) (av := [(0, v1), (0, v2), (0, v3)]) (code := c_X7_set) (pc := 50) (len := 3) (L := [(2, v0), (0, v1), (0, v2), (0, v3), (0, s0)]) (st := [(0, v3), (0, v2), (0, v1), (2, v0)]) rfl (Nat.le_of_ble_eq_true rfl) (Nat.le_of_ble_eq_true rfl) rfl).trans rfl
set_option maxRecDepth 100000 in
theorem e_X7_set_53 {sc : dS} {d : Nat} {K : List (Nat × Nat)} {M : dM} {v0 v1 v2 v3 v4 : Int} : vr sc d c_X7_set (53, [(2, v0), (0, v1), (0, v2), (0, v3), (0, v4)], [], (K, M)) = (some ([(0, v4)], (K, M))) := by
  refine (vr_steps 1 (x' := (55, [(2, v0), (0, v1), (0, v2), (0, v3), (0, v4)], [(0, v4)], (K, M))) rfl).trans ?_
  exact vr_ret (ai := (35, 1, 1, 0, [])) rfl rfl

noncomputable def c_X7_lays : Nat → Option dI := d_mcode m_X7_lays
set_option maxRecDepth 100000 in
theorem e_X7_lays_0 {sc : dS} {d : Nat} {K : List (Nat × Nat)} {M : dM} {v0 v1 v2 v3 : Int} : vr sc d c_X7_lays (0, [(2, v0), (0, v1), (0, v2), (0, v3)], [], (K, M)) = (if 2 ≤ v1 then (if 4 ≤ v1 then (if ¬ v1 = 4 then (if ¬ v1 = 5 then (if og K 7 v0 4 = true then (if -2147483648 ≤ v3 ∧ v3 < 2147483648 then some ([], (K, d_up M v0 4 v3)) else none) else none) else (if og K 7 v0 9 = true then (if ag K 8 (M v0 9) (w32 ((w32 (3 * v2)) + 2)) = true then some ([], (K, d_up M (M v0 9) (w32 ((w32 (3 * v2)) + 2)) v3)) else none) else none)) else (if og K 7 v0 10 = true then (if ag K 8 (M v0 10) (w32 (3 * v2)) = true then some ([], (K, d_up M (M v0 10) (w32 (3 * v2)) v3)) else none) else none)) else (if og K 7 v0 9 = true then (if ag K 8 (M v0 9) (w32 ((w32 ((w32 (3 * v2)) + v1)) - 2)) = true then some ([], (K, d_up M (M v0 9) (w32 ((w32 ((w32 (3 * v2)) + v1)) - 2)) v3)) else none) else none)) else (if ¬ v1 = 0 then (if og K 7 v0 7 = true then (if og K 7 v0 7 = true then (if -2147483648 ≤ (M v0 7) ∧ (M v0 7) < 2147483648 then (if ¬ v1 = 1 then (if og K 7 v0 8 = true then (if og K 7 v0 8 = true then (if -2147483648 ≤ ((d_up M v0 7 (M v0 7)) v0 8) ∧ ((d_up M v0 7 (M v0 7)) v0 8) < 2147483648 then some ([], (K, d_up (d_up M v0 7 (M v0 7)) v0 8 ((d_up M v0 7 (M v0 7)) v0 8))) else none) else none) else none) else (if og K 7 v0 8 = true then (if -2147483648 ≤ v3 ∧ v3 < 2147483648 then some ([], (K, d_up (d_up M v0 7 (M v0 7)) v0 8 v3)) else none) else none)) else none) else none) else none) else (if og K 7 v0 7 = true then (if -2147483648 ≤ v3 ∧ v3 < 2147483648 then (if ¬ v1 = 1 then (if og K 7 v0 8 = true then (if og K 7 v0 8 = true then (if -2147483648 ≤ ((d_up M v0 7 v3) v0 8) ∧ ((d_up M v0 7 v3) v0 8) < 2147483648 then some ([], (K, d_up (d_up M v0 7 v3) v0 8 ((d_up M v0 7 v3) v0 8))) else none) else none) else none) else (if og K 7 v0 8 = true then (if -2147483648 ≤ v3 ∧ v3 < 2147483648 then some ([], (K, d_up (d_up M v0 7 v3) v0 8 v3)) else none) else none)) else none) else none))) := by
  refine (vr_steps 2 (x' := (2, [(2, v0), (0, v1), (0, v2), (0, v3)], [(0, 2), (0, v1)], (K, M))) rfl).trans ?_
  refine (v_icmp (k := 3) (b := 41) (c := 2 ≤ v1) rfl rfl).trans ?_
  refine c_congr (fun _ => ?_) (fun _ => ?_)
  · refine (vr_steps 2 (x' := (43, [(2, v0), (0, v1), (0, v2), (0, v3)], [(0, 4), (0, v1)], (K, M))) rfl).trans ?_
    refine (v_icmp (k := 3) (b := 62) (c := 4 ≤ v1) rfl rfl).trans ?_
    refine c_congr (fun _ => ?_) (fun _ => ?_)
    · refine (vr_steps 2 (x' := (64, [(2, v0), (0, v1), (0, v2), (0, v3)], [(0, 4), (0, v1)], (K, M))) rfl).trans ?_
      refine (v_icmp (k := 1) (b := 79) (c := ¬ v1 = 4) rfl rfl).trans ?_
      refine c_congr (fun _ => ?_) (fun _ => ?_)
      · refine (vr_steps 2 (x' := (81, [(2, v0), (0, v1), (0, v2), (0, v3)], [(0, 5), (0, v1)], (K, M))) rfl).trans ?_
        refine (v_icmp (k := 1) (b := 98) (c := ¬ v1 = 5) rfl rfl).trans ?_
        refine c_congr (fun _ => ?_) (fun _ => ?_)
        · refine (vr_steps 2 (x' := (100, [(2, v0), (0, v1), (0, v2), (0, v3)], [(0, v3), (2, v0)], (K, M))) rfl).trans ?_
          refine (v_putf (a := 7) (b := 4) (t := 0) rfl rfl (by intro q; cases q)).trans ?_
          refine g_congr (fun _ => ?_)
          refine p_congr (fun _ => ?_)
          exact vr_ret (ai := (35, 1, 0, 0, [])) rfl rfl
        · refine (vr_steps 1 (x' := (85, [(2, v0), (0, v1), (0, v2), (0, v3)], [(2, v0)], (K, M))) rfl).trans ?_
          refine (v_getf (a := 7) (b := 9) (t := 2) rfl rfl).trans ?_
          refine g_congr (fun _ => ?_)
          refine (vr_steps 6 (x' := (94, [(2, v0), (0, v1), (0, v2), (0, v3)], [(0, v3), (0, w32 ((w32 (3 * v2)) + 2)), (2, M v0 9)], (K, M))) rfl).trans ?_
          refine (v_ast rfl).trans ?_
          refine g_congr (fun _ => ?_)
          refine (vr_steps 1 (x' := (103, [(2, v0), (0, v1), (0, v2), (0, v3)], [], (K, d_up M (M v0 9) (w32 ((w32 (3 * v2)) + 2)) v3))) rfl).trans ?_
          exact vr_ret (ai := (35, 1, 0, 0, [])) rfl rfl
      · refine (vr_steps 1 (x' := (68, [(2, v0), (0, v1), (0, v2), (0, v3)], [(2, v0)], (K, M))) rfl).trans ?_
        refine (v_getf (a := 7) (b := 10) (t := 2) rfl rfl).trans ?_
        refine g_congr (fun _ => ?_)
        refine (vr_steps 4 (x' := (75, [(2, v0), (0, v1), (0, v2), (0, v3)], [(0, v3), (0, w32 (3 * v2)), (2, M v0 10)], (K, M))) rfl).trans ?_
        refine (v_ast rfl).trans ?_
        refine g_congr (fun _ => ?_)
        refine (vr_steps 1 (x' := (103, [(2, v0), (0, v1), (0, v2), (0, v3)], [], (K, d_up M (M v0 10) (w32 (3 * v2)) v3))) rfl).trans ?_
        exact vr_ret (ai := (35, 1, 0, 0, [])) rfl rfl
    · refine (vr_steps 1 (x' := (47, [(2, v0), (0, v1), (0, v2), (0, v3)], [(2, v0)], (K, M))) rfl).trans ?_
      refine (v_getf (a := 7) (b := 9) (t := 2) rfl rfl).trans ?_
      refine g_congr (fun _ => ?_)
      refine (vr_steps 8 (x' := (58, [(2, v0), (0, v1), (0, v2), (0, v3)], [(0, v3), (0, w32 ((w32 ((w32 (3 * v2)) + v1)) - 2)), (2, M v0 9)], (K, M))) rfl).trans ?_
      refine (v_ast rfl).trans ?_
      refine g_congr (fun _ => ?_)
      refine (vr_steps 1 (x' := (103, [(2, v0), (0, v1), (0, v2), (0, v3)], [], (K, d_up M (M v0 9) (w32 ((w32 ((w32 (3 * v2)) + v1)) - 2)) v3))) rfl).trans ?_
      exact vr_ret (ai := (35, 1, 0, 0, [])) rfl rfl
  · refine (vr_steps 2 (x' := (7, [(2, v0), (0, v1), (0, v2), (0, v3)], [(0, v1), (2, v0)], (K, M))) rfl).trans ?_
    refine (v_if (k := 1) (b := 14) (c := ¬ v1 = 0) rfl rfl).trans ?_
    refine c_congr (fun _ => ?_) (fun _ => ?_)
    · refine (vr_steps 1 (x' := (15, [(2, v0), (0, v1), (0, v2), (0, v3)], [(2, v0), (2, v0)], (K, M))) rfl).trans ?_
      refine (v_getf (a := 7) (b := 7) (t := 0) rfl rfl).trans ?_
      refine g_congr (fun _ => ?_)
      refine (v_putf (a := 7) (b := 7) (t := 0) rfl rfl (by intro q; cases q)).trans ?_
      refine g_congr (fun _ => ?_)
      refine p_congr (fun _ => ?_)
      refine (vr_steps 3 (x' := (24, [(2, v0), (0, v1), (0, v2), (0, v3)], [(0, 1), (0, v1), (2, v0)], (K, d_up M v0 7 (M v0 7)))) rfl).trans ?_
      refine (v_icmp (k := 1) (b := 31) (c := ¬ v1 = 1) rfl rfl).trans ?_
      refine c_congr (fun _ => ?_) (fun _ => ?_)
      · refine (vr_steps 1 (x' := (32, [(2, v0), (0, v1), (0, v2), (0, v3)], [(2, v0), (2, v0)], (K, d_up M v0 7 (M v0 7)))) rfl).trans ?_
        refine (v_getf (a := 7) (b := 8) (t := 0) rfl rfl).trans ?_
        refine g_congr (fun _ => ?_)
        refine (v_putf (a := 7) (b := 8) (t := 0) rfl rfl (by intro q; cases q)).trans ?_
        refine g_congr (fun _ => ?_)
        refine p_congr (fun _ => ?_)
        refine (vr_steps 1 (x' := (103, [(2, v0), (0, v1), (0, v2), (0, v3)], [], (K, d_up (d_up M v0 7 (M v0 7)) v0 8 ((d_up M v0 7 (M v0 7)) v0 8)))) rfl).trans ?_
        exact vr_ret (ai := (35, 1, 0, 0, [])) rfl rfl
      · refine (vr_steps 2 (x' := (35, [(2, v0), (0, v1), (0, v2), (0, v3)], [(0, v3), (2, v0)], (K, d_up M v0 7 (M v0 7)))) rfl).trans ?_
        refine (v_putf (a := 7) (b := 8) (t := 0) rfl rfl (by intro q; cases q)).trans ?_
        refine g_congr (fun _ => ?_)
        refine p_congr (fun _ => ?_)
        refine (vr_steps 1 (x' := (103, [(2, v0), (0, v1), (0, v2), (0, v3)], [], (K, d_up (d_up M v0 7 (M v0 7)) v0 8 v3))) rfl).trans ?_
        exact vr_ret (ai := (35, 1, 0, 0, [])) rfl rfl
    · refine (vr_steps 2 (x' := (18, [(2, v0), (0, v1), (0, v2), (0, v3)], [(0, v3), (2, v0)], (K, M))) rfl).trans ?_
      refine (v_putf (a := 7) (b := 7) (t := 0) rfl rfl (by intro q; cases q)).trans ?_
      refine g_congr (fun _ => ?_)
      refine p_congr (fun _ => ?_)
      refine (vr_steps 3 (x' := (24, [(2, v0), (0, v1), (0, v2), (0, v3)], [(0, 1), (0, v1), (2, v0)], (K, d_up M v0 7 v3))) rfl).trans ?_
      refine (v_icmp (k := 1) (b := 31) (c := ¬ v1 = 1) rfl rfl).trans ?_
      refine c_congr (fun _ => ?_) (fun _ => ?_)
      · refine (vr_steps 1 (x' := (32, [(2, v0), (0, v1), (0, v2), (0, v3)], [(2, v0), (2, v0)], (K, d_up M v0 7 v3))) rfl).trans ?_
        refine (v_getf (a := 7) (b := 8) (t := 0) rfl rfl).trans ?_
        refine g_congr (fun _ => ?_)
        refine (v_putf (a := 7) (b := 8) (t := 0) rfl rfl (by intro q; cases q)).trans ?_
        refine g_congr (fun _ => ?_)
        refine p_congr (fun _ => ?_)
        refine (vr_steps 1 (x' := (103, [(2, v0), (0, v1), (0, v2), (0, v3)], [], (K, d_up (d_up M v0 7 v3) v0 8 ((d_up M v0 7 v3) v0 8)))) rfl).trans ?_
        exact vr_ret (ai := (35, 1, 0, 0, [])) rfl rfl
      · refine (vr_steps 2 (x' := (35, [(2, v0), (0, v1), (0, v2), (0, v3)], [(0, v3), (2, v0)], (K, d_up M v0 7 v3))) rfl).trans ?_
        refine (v_putf (a := 7) (b := 8) (t := 0) rfl rfl (by intro q; cases q)).trans ?_
        refine g_congr (fun _ => ?_)
        refine p_congr (fun _ => ?_)
        refine (vr_steps 1 (x' := (103, [(2, v0), (0, v1), (0, v2), (0, v3)], [], (K, d_up (d_up M v0 7 v3) v0 8 v3))) rfl).trans ?_
        exact vr_ret (ai := (35, 1, 0, 0, [])) rfl rfl

