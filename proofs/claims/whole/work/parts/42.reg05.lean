noncomputable def c_X7_tells : Nat → Option dI := d_mcode m_X7_tells
set_option maxRecDepth 100000 in
theorem e_X7_tells_0 {sc : dS} {d : Nat} {K : List (Nat × Nat)} {M : dM} {v0 v1 v2 v3 : Int} {q4 q5 q6 q7 q8 q9 q10 q11 : dV} : vr sc d c_X7_tells (0, [(2, v0), (0, v1), (0, v2), (0, v3), q4, q5, q6, q7, q8, q9, q10, q11], [], (K, M)) = ((vc sc d 196 [(0, v1)] (K, M)).bind (fun r => vr sc d c_X7_tells (4, [(2, v0), (0, v1), (0, v2), (0, v3), q4, q5, q6, q7, q8, q9, q10, q11], r.1 ++ [], r.2))) := by
  refine (vr_steps 1 (x' := (1, [(2, v0), (0, v1), (0, v2), (0, v3), q4, q5, q6, q7, q8, q9, q10, q11], [(0, v1)], (K, M))) rfl).trans ?_
  exact (v_stat (k := 196) (n := 1) (code := c_X7_tells) (pc := 1) (len := 3) (L := [(2, v0), (0, v1), (0, v2), (0, v3), q4, q5, q6, q7, q8, q9, q10, q11]) (st := [(0, v1)]) rfl (Nat.le_of_ble_eq_true rfl) (Nat.le_of_ble_eq_true rfl)).trans rfl
set_option maxRecDepth 100000 in
theorem e_X7_tells_4 {sc : dS} {d : Nat} {K : List (Nat × Nat)} {M : dM} {v0 v1 v2 v3 s0 : Int} {q4 q5 q6 q7 q8 q9 q10 q11 : dV} : vr sc d c_X7_tells (4, [(2, v0), (0, v1), (0, v2), (0, v3), q4, q5, q6, q7, q8, q9, q10, q11], [(0, s0)], (K, M)) = (if s0 = 0 then some ([(0, (-2))], (K, M)) else (if rg K 7 v0 = true then (vc sc d 118 [(2, v0), (0, v2)] (K, M)).bind (fun r => vr sc d c_X7_tells (12, [(2, v0), (0, v1), (0, v2), (0, v3), q4, q5, q6, q7, q8, q9, q10, q11], r.1 ++ [], r.2)) else none)) := by
  refine (v_if (k := 0) (b := 27) (c := s0 = 0) rfl rfl).trans ?_
  refine c_congr (fun _ => ?_) (fun _ => ?_)
  · refine (vr_steps 1 (x' := (29, [(2, v0), (0, v1), (0, v2), (0, v3), q4, q5, q6, q7, q8, q9, q10, q11], [(0, (-2))], (K, M))) rfl).trans ?_
    exact vr_ret (ai := (35, 1, 1, 0, [])) rfl rfl
  · refine (vr_steps 2 (x' := (9, [(2, v0), (0, v1), (0, v2), (0, v3), q4, q5, q6, q7, q8, q9, q10, q11], [(0, v2), (2, v0)], (K, M))) rfl).trans ?_
    exact (v_virt (k := 118) (n := 2) (tag := 7) (r := v0) (av := [(0, v2)]) (code := c_X7_tells) (pc := 9) (len := 3) (L := [(2, v0), (0, v1), (0, v2), (0, v3), q4, q5, q6, q7, q8, q9, q10, q11]) (st := [(0, v2), (2, v0)]) rfl (Nat.le_of_ble_eq_true rfl) (Nat.le_of_ble_eq_true rfl) rfl).trans rfl
set_option maxRecDepth 100000 in
theorem e_X7_tells_12 {sc : dS} {d : Nat} {K : List (Nat × Nat)} {M : dM} {v0 v1 v2 v3 s0 : Int} {q4 q5 q6 q7 q8 q9 q10 q11 : dV} : vr sc d c_X7_tells (12, [(2, v0), (0, v1), (0, v2), (0, v3), q4, q5, q6, q7, q8, q9, q10, q11], [(0, s0)], (K, M)) = (if s0 = 0 then some ([(0, (-2))], (K, M)) else (vc sc d 114 [(1, v3), (1, 0), (1, 8)] (K, M)).bind (fun r => vr sc d c_X7_tells (24, [(2, v0), (0, v1), (0, v2), (0, v3), q4, q5, q6, q7, q8, q9, q10, q11], r.1 ++ [], r.2))) := by
  refine (v_if (k := 0) (b := 27) (c := s0 = 0) rfl rfl).trans ?_
  refine c_congr (fun _ => ?_) (fun _ => ?_)
  · refine (vr_steps 1 (x' := (29, [(2, v0), (0, v1), (0, v2), (0, v3), q4, q5, q6, q7, q8, q9, q10, q11], [(0, (-2))], (K, M))) rfl).trans ?_
    exact vr_ret (ai := (35, 1, 1, 0, [])) rfl rfl
  · refine (vr_steps 4 (x' := (21, [(2, v0), (0, v1), (0, v2), (0, v3), q4, q5, q6, q7, q8, q9, q10, q11], [(1, 8), (1, 0), (1, v3)], (K, M))) rfl).trans ?_
    exact (v_stat (k := 114) (n := 3) (code := c_X7_tells) (pc := 21) (len := 3) (L := [(2, v0), (0, v1), (0, v2), (0, v3), q4, q5, q6, q7, q8, q9, q10, q11]) (st := [(1, 8), (1, 0), (1, v3)]) rfl (Nat.le_of_ble_eq_true rfl) (Nat.le_of_ble_eq_true rfl)).trans rfl
set_option maxRecDepth 100000 in
theorem e_X7_tells_24 {sc : dS} {d : Nat} {K : List (Nat × Nat)} {M : dM} {v0 v1 v2 v3 s0 : Int} {q4 q5 q6 q7 q8 q9 q10 q11 : dV} : vr sc d c_X7_tells (24, [(2, v0), (0, v1), (0, v2), (0, v3), q4, q5, q6, q7, q8, q9, q10, q11], [(0, s0)], (K, M)) = (if ¬ s0 = 0 then (if og K 7 v0 42 = true then (if ag K 9 (M v0 42) v1 = true then (if ¬ (M (M v0 42) v1) = 0 then (if og K 7 v0 44 = true then (if ag K 8 (M v0 44) v1 = true then (if (M (M v0 44) v1) ≤ 13 then (if v3 = 0 then (if ¬ v3 = 0 then (if rg K 7 v0 = true then (vc sc d 187 [(2, v0), (0, v1)] (K, M)).bind (fun r => vr sc d c_X7_tells (84, [(2, v0), (0, v1), (0, v2), (0, v3), q4, q5, q6, q7, q8, q9, q10, q11], r.1 ++ [], r.2)) else none) else (if rg K 7 v0 = true then (vc sc d 186 [(2, v0), (0, v1), (0, v2)] (K, M)).bind (fun r => vr sc d c_X7_tells (76, [(2, v0), (0, v1), (0, v2), (0, v3), q4, q5, q6, q7, q8, q9, q10, q11], r.1 ++ [], r.2)) else none)) else (if ¬ v3 = 8 then (if ¬ v3 = 1 then (if ¬ v3 = 2 then (if 5 ≤ v3 then (if 7 ≤ v3 then vr sc d c_X7_tells (124, [(2, v0), (0, v1), (0, v2), (0, v3), q4, q5, q6, q7, q8, q9, q10, q11], [(0, 6)], (K, M)) else vr sc d c_X7_tells (124, [(2, v0), (0, v1), (0, v2), (0, v3), q4, q5, q6, q7, q8, q9, q10, q11], [(0, 4)], (K, M))) else vr sc d c_X7_tells (124, [(2, v0), (0, v1), (0, v2), (0, v3), q4, q5, q6, q7, q8, q9, q10, q11], [(0, 3)], (K, M))) else vr sc d c_X7_tells (124, [(2, v0), (0, v1), (0, v2), (0, v3), q4, q5, q6, q7, q8, q9, q10, q11], [(0, 2)], (K, M))) else vr sc d c_X7_tells (124, [(2, v0), (0, v1), (0, v2), (0, v3), q4, q5, q6, q7, q8, q9, q10, q11], [(0, 5)], (K, M))) else (if ¬ v3 = 0 then (if rg K 7 v0 = true then (vc sc d 187 [(2, v0), (0, v1)] (K, M)).bind (fun r => vr sc d c_X7_tells (84, [(2, v0), (0, v1), (0, v2), (0, v3), q4, q5, q6, q7, q8, q9, q10, q11], r.1 ++ [], r.2)) else none) else (if rg K 7 v0 = true then (vc sc d 186 [(2, v0), (0, v1), (0, v2)] (K, M)).bind (fun r => vr sc d c_X7_tells (76, [(2, v0), (0, v1), (0, v2), (0, v3), q4, q5, q6, q7, q8, q9, q10, q11], r.1 ++ [], r.2)) else none)))) else some ([(0, (-2))], (K, M))) else none) else none) else some ([(0, (-11))], (K, M))) else none) else none) else some ([(0, (-2))], (K, M))) := by
  refine (v_if (k := 1) (b := 30) (c := ¬ s0 = 0) rfl rfl).trans ?_
  refine c_congr (fun _ => ?_) (fun _ => ?_)
  · refine (vr_steps 1 (x' := (31, [(2, v0), (0, v1), (0, v2), (0, v3), q4, q5, q6, q7, q8, q9, q10, q11], [(2, v0)], (K, M))) rfl).trans ?_
    refine (v_getf (a := 7) (b := 42) (t := 2) rfl rfl).trans ?_
    refine g_congr (fun _ => ?_)
    refine (vr_steps 1 (x' := (35, [(2, v0), (0, v1), (0, v2), (0, v3), q4, q5, q6, q7, q8, q9, q10, q11], [(0, v1), (2, M v0 42)], (K, M))) rfl).trans ?_
    refine (v_ald (a := 9) rfl (by decide)).trans ?_
    refine g_congr (fun _ => ?_)
    refine (v_if (k := 1) (b := 42) (c := ¬ (M (M v0 42) v1) = 0) rfl rfl).trans ?_
    refine c_congr (fun _ => ?_) (fun _ => ?_)
    · refine (vr_steps 1 (x' := (43, [(2, v0), (0, v1), (0, v2), (0, v3), q4, q5, q6, q7, q8, q9, q10, q11], [(2, v0)], (K, M))) rfl).trans ?_
      refine (v_getf (a := 7) (b := 44) (t := 2) rfl rfl).trans ?_
      refine g_congr (fun _ => ?_)
      refine (vr_steps 1 (x' := (47, [(2, v0), (0, v1), (0, v2), (0, v3), q4, q5, q6, q7, q8, q9, q10, q11], [(0, v1), (2, M v0 44)], (K, M))) rfl).trans ?_
      refine (v_ald (a := 8) rfl (by decide)).trans ?_
      refine g_congr (fun _ => ?_)
      refine (vr_steps 1 (x' := (50, [(2, v0), (0, v1), (0, v2), (0, v3), q4, q5, q6, q7, q8, q9, q10, q11], [(0, 13), (0, M (M v0 44) v1)], (K, M))) rfl).trans ?_
      refine (v_icmp (k := 5) (b := 56) (c := (M (M v0 44) v1) ≤ 13) rfl rfl).trans ?_
      refine c_congr (fun _ => ?_) (fun _ => ?_)
      · refine (vr_steps 1 (x' := (57, [(2, v0), (0, v1), (0, v2), (0, v3), q4, q5, q6, q7, q8, q9, q10, q11], [(0, v3)], (K, M))) rfl).trans ?_
        refine (v_if (k := 0) (b := 66) (c := v3 = 0) rfl rfl).trans ?_
        refine c_congr (fun _ => ?_) (fun _ => ?_)
        · refine (vr_steps 1 (x' := (67, [(2, v0), (0, v1), (0, v2), (0, v3), q4, q5, q6, q7, q8, q9, q10, q11], [(0, v3)], (K, M))) rfl).trans ?_
          refine (v_if (k := 1) (b := 79) (c := ¬ v3 = 0) rfl rfl).trans ?_
          refine c_congr (fun _ => ?_) (fun _ => ?_)
          · refine (vr_steps 2 (x' := (81, [(2, v0), (0, v1), (0, v2), (0, v3), q4, q5, q6, q7, q8, q9, q10, q11], [(0, v1), (2, v0)], (K, M))) rfl).trans ?_
            exact (v_virt (k := 187) (n := 2) (tag := 7) (r := v0) (av := [(0, v1)]) (code := c_X7_tells) (pc := 81) (len := 3) (L := [(2, v0), (0, v1), (0, v2), (0, v3), q4, q5, q6, q7, q8, q9, q10, q11]) (st := [(0, v1), (2, v0)]) rfl (Nat.le_of_ble_eq_true rfl) (Nat.le_of_ble_eq_true rfl) rfl).trans rfl
          · refine (vr_steps 3 (x' := (73, [(2, v0), (0, v1), (0, v2), (0, v3), q4, q5, q6, q7, q8, q9, q10, q11], [(0, v2), (0, v1), (2, v0)], (K, M))) rfl).trans ?_
            exact (v_virt (k := 186) (n := 3) (tag := 7) (r := v0) (av := [(0, v1), (0, v2)]) (code := c_X7_tells) (pc := 73) (len := 3) (L := [(2, v0), (0, v1), (0, v2), (0, v3), q4, q5, q6, q7, q8, q9, q10, q11]) (st := [(0, v2), (0, v1), (2, v0)]) rfl (Nat.le_of_ble_eq_true rfl) (Nat.le_of_ble_eq_true rfl) rfl).trans rfl
        · refine (vr_steps 2 (x' := (63, [(2, v0), (0, v1), (0, v2), (0, v3), q4, q5, q6, q7, q8, q9, q10, q11], [(0, 8), (0, v3)], (K, M))) rfl).trans ?_
          refine (v_icmp (k := 1) (b := 85) (c := ¬ v3 = 8) rfl rfl).trans ?_
          refine c_congr (fun _ => ?_) (fun _ => ?_)
          · refine (vr_steps 2 (x' := (87, [(2, v0), (0, v1), (0, v2), (0, v3), q4, q5, q6, q7, q8, q9, q10, q11], [(0, 1), (0, v3)], (K, M))) rfl).trans ?_
            refine (v_icmp (k := 1) (b := 94) (c := ¬ v3 = 1) rfl rfl).trans ?_
            refine c_congr (fun _ => ?_) (fun _ => ?_)
            · refine (vr_steps 2 (x' := (96, [(2, v0), (0, v1), (0, v2), (0, v3), q4, q5, q6, q7, q8, q9, q10, q11], [(0, 2), (0, v3)], (K, M))) rfl).trans ?_
              refine (v_icmp (k := 1) (b := 103) (c := ¬ v3 = 2) rfl rfl).trans ?_
              refine c_congr (fun _ => ?_) (fun _ => ?_)
              · refine (vr_steps 2 (x' := (105, [(2, v0), (0, v1), (0, v2), (0, v3), q4, q5, q6, q7, q8, q9, q10, q11], [(0, 5), (0, v3)], (K, M))) rfl).trans ?_
                refine (v_icmp (k := 3) (b := 112) (c := 5 ≤ v3) rfl rfl).trans ?_
                refine c_congr (fun _ => ?_) (fun _ => ?_)
                · refine (vr_steps 2 (x' := (115, [(2, v0), (0, v1), (0, v2), (0, v3), q4, q5, q6, q7, q8, q9, q10, q11], [(0, 7), (0, v3)], (K, M))) rfl).trans ?_
                  refine (v_icmp (k := 3) (b := 122) (c := 7 ≤ v3) rfl rfl).trans ?_
                  refine c_congr (fun _ => ?_) (fun _ => ?_)
                  · exact vr_steps 1 rfl
                  · exact vr_steps 2 rfl
                · exact vr_steps 2 rfl
              · exact vr_steps 2 rfl
            · exact vr_steps 2 rfl
          · refine (vr_steps 1 (x' := (67, [(2, v0), (0, v1), (0, v2), (0, v3), q4, q5, q6, q7, q8, q9, q10, q11], [(0, v3)], (K, M))) rfl).trans ?_
            refine (v_if (k := 1) (b := 79) (c := ¬ v3 = 0) rfl rfl).trans ?_
            refine c_congr (fun _ => ?_) (fun _ => ?_)
            · refine (vr_steps 2 (x' := (81, [(2, v0), (0, v1), (0, v2), (0, v3), q4, q5, q6, q7, q8, q9, q10, q11], [(0, v1), (2, v0)], (K, M))) rfl).trans ?_
              exact (v_virt (k := 187) (n := 2) (tag := 7) (r := v0) (av := [(0, v1)]) (code := c_X7_tells) (pc := 81) (len := 3) (L := [(2, v0), (0, v1), (0, v2), (0, v3), q4, q5, q6, q7, q8, q9, q10, q11]) (st := [(0, v1), (2, v0)]) rfl (Nat.le_of_ble_eq_true rfl) (Nat.le_of_ble_eq_true rfl) rfl).trans rfl
            · refine (vr_steps 3 (x' := (73, [(2, v0), (0, v1), (0, v2), (0, v3), q4, q5, q6, q7, q8, q9, q10, q11], [(0, v2), (0, v1), (2, v0)], (K, M))) rfl).trans ?_
              exact (v_virt (k := 186) (n := 3) (tag := 7) (r := v0) (av := [(0, v1), (0, v2)]) (code := c_X7_tells) (pc := 73) (len := 3) (L := [(2, v0), (0, v1), (0, v2), (0, v3), q4, q5, q6, q7, q8, q9, q10, q11]) (st := [(0, v2), (0, v1), (2, v0)]) rfl (Nat.le_of_ble_eq_true rfl) (Nat.le_of_ble_eq_true rfl) rfl).trans rfl
      · refine (vr_steps 1 (x' := (55, [(2, v0), (0, v1), (0, v2), (0, v3), q4, q5, q6, q7, q8, q9, q10, q11], [(0, (-2))], (K, M))) rfl).trans ?_
        exact vr_ret (ai := (35, 1, 1, 0, [])) rfl rfl
    · refine (vr_steps 1 (x' := (41, [(2, v0), (0, v1), (0, v2), (0, v3), q4, q5, q6, q7, q8, q9, q10, q11], [(0, (-11))], (K, M))) rfl).trans ?_
      exact vr_ret (ai := (35, 1, 1, 0, [])) rfl rfl
  · refine (vr_steps 1 (x' := (29, [(2, v0), (0, v1), (0, v2), (0, v3), q4, q5, q6, q7, q8, q9, q10, q11], [(0, (-2))], (K, M))) rfl).trans ?_
    exact vr_ret (ai := (35, 1, 1, 0, [])) rfl rfl
set_option maxRecDepth 100000 in
theorem e_X7_tells_76 {sc : dS} {d : Nat} {K : List (Nat × Nat)} {M : dM} {v0 v1 v2 v3 s0 : Int} {q4 q5 q6 q7 q8 q9 q10 q11 : dV} : vr sc d c_X7_tells (76, [(2, v0), (0, v1), (0, v2), (0, v3), q4, q5, q6, q7, q8, q9, q10, q11], [(0, s0)], (K, M)) = (vr sc d c_X7_tells (84, [(2, v0), (0, v1), (0, v2), (0, v3), q4, q5, q6, q7, q8, q9, q10, q11], [(0, s0)], (K, M))) := by
  exact vr_steps 1 rfl
set_option maxRecDepth 100000 in
theorem e_X7_tells_84 {sc : dS} {d : Nat} {K : List (Nat × Nat)} {M : dM} {v0 v1 v2 v3 s0 : Int} {q4 q5 q6 q7 q8 q9 q10 q11 : dV} : vr sc d c_X7_tells (84, [(2, v0), (0, v1), (0, v2), (0, v3), q4, q5, q6, q7, q8, q9, q10, q11], [(0, s0)], (K, M)) = (some ([(0, s0)], (K, M))) := by
  exact vr_ret (ai := (35, 1, 1, 0, [])) rfl rfl
set_option maxRecDepth 100000 in
theorem e_X7_tells_124 {sc : dS} {d : Nat} {K : List (Nat × Nat)} {M : dM} {v0 v1 v2 v3 s0 : Int} {q4 q5 q6 q7 q8 q9 q10 q11 : dV} : vr sc d c_X7_tells (124, [(2, v0), (0, v1), (0, v2), (0, v3), q4, q5, q6, q7, q8, q9, q10, q11], [(0, s0)], (K, M)) = (if ¬ s0 = 4 then (if ¬ s0 = 6 then (if rg K 7 v0 = true then (vc sc d 125 [(2, v0), (0, v2), (0, s0)] (K, M)).bind (fun r => vr sc d c_X7_tells (161, [(2, v0), (0, v1), (0, v2), (0, v3), (0, s0), (0, v2), q6, q7, q8, q9, q10, q11], r.1 ++ [], r.2)) else none) else (if og K 7 v0 4 = true then vr sc d c_X7_tells (161, [(2, v0), (0, v1), (0, v2), (0, v3), (0, s0), (0, v2), q6, q7, q8, q9, q10, q11], [(0, M v0 4)], (K, M)) else none)) else (if ¬ s0 = 6 then (if rg K 7 v0 = true then (vc sc d 125 [(2, v0), (0, 0), (0, s0)] (K, M)).bind (fun r => vr sc d c_X7_tells (161, [(2, v0), (0, v1), (0, v2), (0, v3), (0, s0), (0, 0), q6, q7, q8, q9, q10, q11], r.1 ++ [], r.2)) else none) else (if og K 7 v0 4 = true then vr sc d c_X7_tells (161, [(2, v0), (0, v1), (0, v2), (0, v3), (0, s0), (0, 0), q6, q7, q8, q9, q10, q11], [(0, M v0 4)], (K, M)) else none))) := by
  refine (vr_steps 3 (x' := (129, [(2, v0), (0, v1), (0, v2), (0, v3), (0, s0), q5, q6, q7, q8, q9, q10, q11], [(0, 4), (0, s0)], (K, M))) rfl).trans ?_
  refine (v_icmp (k := 1) (b := 136) (c := ¬ s0 = 4) rfl rfl).trans ?_
  refine c_congr (fun _ => ?_) (fun _ => ?_)
  · refine (vr_steps 4 (x' := (143, [(2, v0), (0, v1), (0, v2), (0, v3), (0, s0), (0, v2), q6, q7, q8, q9, q10, q11], [(0, 6), (0, s0)], (K, M))) rfl).trans ?_
    refine (v_icmp (k := 1) (b := 153) (c := ¬ s0 = 6) rfl rfl).trans ?_
    refine c_congr (fun _ => ?_) (fun _ => ?_)
    · refine (vr_steps 3 (x' := (158, [(2, v0), (0, v1), (0, v2), (0, v3), (0, s0), (0, v2), q6, q7, q8, q9, q10, q11], [(0, s0), (0, v2), (2, v0)], (K, M))) rfl).trans ?_
      exact (v_virt (k := 125) (n := 3) (tag := 7) (r := v0) (av := [(0, v2), (0, s0)]) (code := c_X7_tells) (pc := 158) (len := 3) (L := [(2, v0), (0, v1), (0, v2), (0, v3), (0, s0), (0, v2), q6, q7, q8, q9, q10, q11]) (st := [(0, s0), (0, v2), (2, v0)]) rfl (Nat.le_of_ble_eq_true rfl) (Nat.le_of_ble_eq_true rfl) rfl).trans rfl
    · refine (vr_steps 1 (x' := (147, [(2, v0), (0, v1), (0, v2), (0, v3), (0, s0), (0, v2), q6, q7, q8, q9, q10, q11], [(2, v0)], (K, M))) rfl).trans ?_
      refine (v_getf (a := 7) (b := 4) (t := 0) rfl rfl).trans ?_
      refine g_congr (fun _ => ?_)
      exact vr_steps 1 rfl
  · refine (vr_steps 5 (x' := (143, [(2, v0), (0, v1), (0, v2), (0, v3), (0, s0), (0, 0), q6, q7, q8, q9, q10, q11], [(0, 6), (0, s0)], (K, M))) rfl).trans ?_
    refine (v_icmp (k := 1) (b := 153) (c := ¬ s0 = 6) rfl rfl).trans ?_
    refine c_congr (fun _ => ?_) (fun _ => ?_)
    · refine (vr_steps 3 (x' := (158, [(2, v0), (0, v1), (0, v2), (0, v3), (0, s0), (0, 0), q6, q7, q8, q9, q10, q11], [(0, s0), (0, 0), (2, v0)], (K, M))) rfl).trans ?_
      exact (v_virt (k := 125) (n := 3) (tag := 7) (r := v0) (av := [(0, 0), (0, s0)]) (code := c_X7_tells) (pc := 158) (len := 3) (L := [(2, v0), (0, v1), (0, v2), (0, v3), (0, s0), (0, 0), q6, q7, q8, q9, q10, q11]) (st := [(0, s0), (0, 0), (2, v0)]) rfl (Nat.le_of_ble_eq_true rfl) (Nat.le_of_ble_eq_true rfl) rfl).trans rfl
    · refine (vr_steps 1 (x' := (147, [(2, v0), (0, v1), (0, v2), (0, v3), (0, s0), (0, 0), q6, q7, q8, q9, q10, q11], [(2, v0)], (K, M))) rfl).trans ?_
      refine (v_getf (a := 7) (b := 4) (t := 0) rfl rfl).trans ?_
      refine g_congr (fun _ => ?_)
      exact vr_steps 1 rfl
set_option maxRecDepth 100000 in
theorem e_X7_tells_161 {sc : dS} {d : Nat} {K : List (Nat × Nat)} {M : dM} {v0 v1 v2 v3 v4 v5 s0 : Int} {q6 q7 q8 q9 q10 q11 : dV} : vr sc d c_X7_tells (161, [(2, v0), (0, v1), (0, v2), (0, v3), (0, v4), (0, v5), q6, q7, q8, q9, q10, q11], [(0, s0)], (K, M)) = (if ¬ v4 = 6 then (if ¬ v4 = 5 then (if ¬ v4 = 2 then vr sc d c_X7_tells (202, [(2, v0), (0, v1), (0, v2), (0, v3), (0, v4), (0, v5), (0, s0), q7, q8, q9, q10, q11], [(0, 99)], (K, M)) else vr sc d c_X7_tells (202, [(2, v0), (0, v1), (0, v2), (0, v3), (0, v4), (0, v5), (0, s0), q7, q8, q9, q10, q11], [(0, 9)], (K, M))) else vr sc d c_X7_tells (202, [(2, v0), (0, v1), (0, v2), (0, v3), (0, v4), (0, v5), (0, s0), q7, q8, q9, q10, q11], [(0, 5)], (K, M))) else (if og K 7 v0 3 = true then vr sc d c_X7_tells (202, [(2, v0), (0, v1), (0, v2), (0, v3), (0, v4), (0, v5), (0, s0), q7, q8, q9, q10, q11], [(0, w32 ((M v0 3) - 1))], (K, M)) else none)) := by
  refine (vr_steps 3 (x' := (167, [(2, v0), (0, v1), (0, v2), (0, v3), (0, v4), (0, v5), (0, s0), q7, q8, q9, q10, q11], [(0, 6), (0, v4)], (K, M))) rfl).trans ?_
  refine (v_icmp (k := 1) (b := 179) (c := ¬ v4 = 6) rfl rfl).trans ?_
  refine c_congr (fun _ => ?_) (fun _ => ?_)
  · refine (vr_steps 2 (x' := (182, [(2, v0), (0, v1), (0, v2), (0, v3), (0, v4), (0, v5), (0, s0), q7, q8, q9, q10, q11], [(0, 5), (0, v4)], (K, M))) rfl).trans ?_
    refine (v_icmp (k := 1) (b := 189) (c := ¬ v4 = 5) rfl rfl).trans ?_
    refine c_congr (fun _ => ?_) (fun _ => ?_)
    · refine (vr_steps 2 (x' := (192, [(2, v0), (0, v1), (0, v2), (0, v3), (0, v4), (0, v5), (0, s0), q7, q8, q9, q10, q11], [(0, 2), (0, v4)], (K, M))) rfl).trans ?_
      refine (v_icmp (k := 1) (b := 200) (c := ¬ v4 = 2) rfl rfl).trans ?_
      refine c_congr (fun _ => ?_) (fun _ => ?_)
      · exact vr_steps 1 rfl
      · exact vr_steps 2 rfl
    · exact vr_steps 2 rfl
  · refine (vr_steps 1 (x' := (171, [(2, v0), (0, v1), (0, v2), (0, v3), (0, v4), (0, v5), (0, s0), q7, q8, q9, q10, q11], [(2, v0)], (K, M))) rfl).trans ?_
    refine (v_getf (a := 7) (b := 3) (t := 0) rfl rfl).trans ?_
    refine g_congr (fun _ => ?_)
    exact vr_steps 3 rfl
set_option maxRecDepth 100000 in
theorem e_X7_tells_202 {sc : dS} {d : Nat} {K : List (Nat × Nat)} {M : dM} {v0 v1 v2 v3 v4 v5 v6 s0 : Int} {q7 q8 q9 q10 q11 : dV} : vr sc d c_X7_tells (202, [(2, v0), (0, v1), (0, v2), (0, v3), (0, v4), (0, v5), (0, v6), q7, q8, q9, q10, q11], [(0, s0)], (K, M)) = (vr sc d c_X7_tells (217, [(2, v0), (0, v1), (0, v2), (0, v3), (0, v4), (0, v5), (0, v6), (0, s0), (0, 0), (0, 0), (0, (-1)), (0, s0)], [], (K, M))) := by
  exact vr_steps 9 rfl
set_option maxRecDepth 100000 in
theorem e_X7_tells_217 {sc : dS} {d : Nat} {K : List (Nat × Nat)} {M : dM} {v0 v1 v2 v3 v4 v5 v6 v7 v8 v9 v10 v11 : Int} : vr sc d c_X7_tells (217, [(2, v0), (0, v1), (0, v2), (0, v3), (0, v4), (0, v5), (0, v6), (0, v7), (0, v8), (0, v9), (0, v10), (0, v11)], [], (K, M)) = (if v11 < 0 then (if rg K 7 v0 = true then (vc sc d 123 [(2, v0), (0, v4), (0, v5), (0, v6)] (K, M)).bind (fun r => vr sc d c_X7_tells (285, [(2, v0), (0, v1), (0, v2), (0, v3), (0, v4), (0, v5), (0, v6), (0, v7), (0, v8), (0, v9), (0, v10), (0, v11)], r.1 ++ [], r.2)) else none) else (if rg K 7 v0 = true then (vc sc d 123 [(2, v0), (0, v4), (0, v5), (0, v11)] (K, M)).bind (fun r => vr sc d c_X7_tells (232, [(2, v0), (0, v1), (0, v2), (0, v3), (0, v4), (0, v5), (0, v6), (0, v7), (0, v8), (0, v9), (0, v10), (0, v11)], r.1 ++ [], r.2)) else none)) := by
  refine (vr_steps 1 (x' := (219, [(2, v0), (0, v1), (0, v2), (0, v3), (0, v4), (0, v5), (0, v6), (0, v7), (0, v8), (0, v9), (0, v10), (0, v11)], [(0, v11)], (K, M))) rfl).trans ?_
  refine (v_if (k := 2) (b := 275) (c := v11 < 0) rfl rfl).trans ?_
  refine c_congr (fun _ => ?_) (fun _ => ?_)
  · refine (vr_steps 4 (x' := (282, [(2, v0), (0, v1), (0, v2), (0, v3), (0, v4), (0, v5), (0, v6), (0, v7), (0, v8), (0, v9), (0, v10), (0, v11)], [(0, v6), (0, v5), (0, v4), (2, v0)], (K, M))) rfl).trans ?_
    exact (v_virt (k := 123) (n := 4) (tag := 7) (r := v0) (av := [(0, v4), (0, v5), (0, v6)]) (code := c_X7_tells) (pc := 282) (len := 3) (L := [(2, v0), (0, v1), (0, v2), (0, v3), (0, v4), (0, v5), (0, v6), (0, v7), (0, v8), (0, v9), (0, v10), (0, v11)]) (st := [(0, v6), (0, v5), (0, v4), (2, v0)]) rfl (Nat.le_of_ble_eq_true rfl) (Nat.le_of_ble_eq_true rfl) rfl).trans rfl
  · refine (vr_steps 4 (x' := (229, [(2, v0), (0, v1), (0, v2), (0, v3), (0, v4), (0, v5), (0, v6), (0, v7), (0, v8), (0, v9), (0, v10), (0, v11)], [(0, v11), (0, v5), (0, v4), (2, v0)], (K, M))) rfl).trans ?_
    exact (v_virt (k := 123) (n := 4) (tag := 7) (r := v0) (av := [(0, v4), (0, v5), (0, v11)]) (code := c_X7_tells) (pc := 229) (len := 3) (L := [(2, v0), (0, v1), (0, v2), (0, v3), (0, v4), (0, v5), (0, v6), (0, v7), (0, v8), (0, v9), (0, v10), (0, v11)]) (st := [(0, v11), (0, v5), (0, v4), (2, v0)]) rfl (Nat.le_of_ble_eq_true rfl) (Nat.le_of_ble_eq_true rfl) rfl).trans rfl
set_option maxRecDepth 100000 in
theorem e_X7_tells_232 {sc : dS} {d : Nat} {K : List (Nat × Nat)} {M : dM} {v0 v1 v2 v3 v4 v5 v6 v7 v8 v9 v10 v11 : Int} : vr sc d c_X7_tells (232, [(2, v0), (0, v1), (0, v2), (0, v3), (0, v4), (0, v5), (0, v6), (0, v7), (0, v8), (0, v9), (0, v10), (0, v11)], [], (K, M)) = (if rg K 7 v0 = true then (vc sc d 186 [(2, v0), (0, v1), (0, v2)] (K, M)).bind (fun r => vr sc d c_X7_tells (238, [(2, v0), (0, v1), (0, v2), (0, v3), (0, v4), (0, v5), (0, v6), (0, v7), (0, v8), (0, v9), (0, v10), (0, v11)], r.1 ++ [], r.2)) else none) := by
  refine (vr_steps 3 (x' := (235, [(2, v0), (0, v1), (0, v2), (0, v3), (0, v4), (0, v5), (0, v6), (0, v7), (0, v8), (0, v9), (0, v10), (0, v11)], [(0, v2), (0, v1), (2, v0)], (K, M))) rfl).trans ?_
  exact (v_virt (k := 186) (n := 3) (tag := 7) (r := v0) (av := [(0, v1), (0, v2)]) (code := c_X7_tells) (pc := 235) (len := 3) (L := [(2, v0), (0, v1), (0, v2), (0, v3), (0, v4), (0, v5), (0, v6), (0, v7), (0, v8), (0, v9), (0, v10), (0, v11)]) (st := [(0, v2), (0, v1), (2, v0)]) rfl (Nat.le_of_ble_eq_true rfl) (Nat.le_of_ble_eq_true rfl) rfl).trans rfl
set_option maxRecDepth 100000 in
theorem e_X7_tells_238 {sc : dS} {d : Nat} {K : List (Nat × Nat)} {M : dM} {v0 v1 v2 v3 v4 v5 v6 v7 v8 v9 v10 v11 s0 : Int} : vr sc d c_X7_tells (238, [(2, v0), (0, v1), (0, v2), (0, v3), (0, v4), (0, v5), (0, v6), (0, v7), (0, v8), (0, v9), (0, v10), (0, v11)], [(0, s0)], (K, M)) = (if ¬ s0 = (-1) then vr sc d c_X7_tells (217, [(2, v0), (0, v1), (0, v2), (0, v3), (0, v4), (0, v5), (0, v6), (0, v7), (0, v8), (0, v9), (0, v10), (0, w32 (v11 + (-1)))], [], (K, M)) else (if 10 ≤ v11 then vr sc d c_X7_tells (217, [(2, v0), (0, v1), (0, v2), (0, v3), (0, v4), (0, v5), (0, v6), (0, v7), (0, i_or v8 0), (0, w32 (v9 + 1)), (0, v11), (0, w32 (v11 + (-1)))], [], (K, M)) else vr sc d c_X7_tells (217, [(2, v0), (0, v1), (0, v2), (0, v3), (0, v4), (0, v5), (0, v6), (0, v7), (0, i_or v8 (i_shl 1 v11)), (0, w32 (v9 + 1)), (0, v11), (0, w32 (v11 + (-1)))], [], (K, M)))) := by
  refine (vr_steps 1 (x' := (239, [(2, v0), (0, v1), (0, v2), (0, v3), (0, v4), (0, v5), (0, v6), (0, v7), (0, v8), (0, v9), (0, v10), (0, v11)], [(0, (-1)), (0, s0)], (K, M))) rfl).trans ?_
  refine (v_icmp (k := 1) (b := 269) (c := ¬ s0 = (-1)) rfl rfl).trans ?_
  refine c_congr (fun _ => ?_) (fun _ => ?_)
  · exact vr_steps 2 rfl
  · refine (vr_steps 3 (x' := (248, [(2, v0), (0, v1), (0, v2), (0, v3), (0, v4), (0, v5), (0, v6), (0, v7), (0, v8), (0, v9), (0, v10), (0, v11)], [(0, 10), (0, v11), (0, v8)], (K, M))) rfl).trans ?_
    refine (v_icmp (k := 3) (b := 258) (c := 10 ≤ v11) rfl rfl).trans ?_
    refine c_congr (fun _ => ?_) (fun _ => ?_)
    · exact vr_steps 8 rfl
    · exact vr_steps 11 rfl
set_option maxRecDepth 100000 in
theorem e_X7_tells_285 {sc : dS} {d : Nat} {K : List (Nat × Nat)} {M : dM} {v0 v1 v2 v3 v4 v5 v6 v7 v8 v9 v10 v11 : Int} : vr sc d c_X7_tells (285, [(2, v0), (0, v1), (0, v2), (0, v3), (0, v4), (0, v5), (0, v6), (0, v7), (0, v8), (0, v9), (0, v10), (0, v11)], [], (K, M)) = (if v3 = 3 then some ([(0, v9)], (K, M)) else (if ¬ v3 = 5 then (if v3 = 4 then some ([(0, v10)], (K, M)) else (if ¬ v3 = 6 then some ([(0, v8)], (K, M)) else some ([(0, v10)], (K, M)))) else some ([(0, v9)], (K, M)))) := by
  refine (vr_steps 2 (x' := (287, [(2, v0), (0, v1), (0, v2), (0, v3), (0, v4), (0, v5), (0, v6), (0, v7), (0, v8), (0, v9), (0, v10), (0, v11)], [(0, 3), (0, v3)], (K, M))) rfl).trans ?_
  refine (v_icmp (k := 0) (b := 295) (c := v3 = 3) rfl rfl).trans ?_
  refine c_congr (fun _ => ?_) (fun _ => ?_)
  · refine (vr_steps 2 (x' := (318, [(2, v0), (0, v1), (0, v2), (0, v3), (0, v4), (0, v5), (0, v6), (0, v7), (0, v8), (0, v9), (0, v10), (0, v11)], [(0, v9)], (K, M))) rfl).trans ?_
    exact vr_ret (ai := (35, 1, 1, 0, [])) rfl rfl
  · refine (vr_steps 2 (x' := (292, [(2, v0), (0, v1), (0, v2), (0, v3), (0, v4), (0, v5), (0, v6), (0, v7), (0, v8), (0, v9), (0, v10), (0, v11)], [(0, 5), (0, v3)], (K, M))) rfl).trans ?_
    refine (v_icmp (k := 1) (b := 300) (c := ¬ v3 = 5) rfl rfl).trans ?_
    refine c_congr (fun _ => ?_) (fun _ => ?_)
    · refine (vr_steps 2 (x' := (302, [(2, v0), (0, v1), (0, v2), (0, v3), (0, v4), (0, v5), (0, v6), (0, v7), (0, v8), (0, v9), (0, v10), (0, v11)], [(0, 4), (0, v3)], (K, M))) rfl).trans ?_
      refine (v_icmp (k := 0) (b := 311) (c := v3 = 4) rfl rfl).trans ?_
      refine c_congr (fun _ => ?_) (fun _ => ?_)
      · refine (vr_steps 2 (x' := (318, [(2, v0), (0, v1), (0, v2), (0, v3), (0, v4), (0, v5), (0, v6), (0, v7), (0, v8), (0, v9), (0, v10), (0, v11)], [(0, v10)], (K, M))) rfl).trans ?_
        exact vr_ret (ai := (35, 1, 1, 0, [])) rfl rfl
      · refine (vr_steps 2 (x' := (308, [(2, v0), (0, v1), (0, v2), (0, v3), (0, v4), (0, v5), (0, v6), (0, v7), (0, v8), (0, v9), (0, v10), (0, v11)], [(0, 6), (0, v3)], (K, M))) rfl).trans ?_
        refine (v_icmp (k := 1) (b := 316) (c := ¬ v3 = 6) rfl rfl).trans ?_
        refine c_congr (fun _ => ?_) (fun _ => ?_)
        · refine (vr_steps 1 (x' := (318, [(2, v0), (0, v1), (0, v2), (0, v3), (0, v4), (0, v5), (0, v6), (0, v7), (0, v8), (0, v9), (0, v10), (0, v11)], [(0, v8)], (K, M))) rfl).trans ?_
          exact vr_ret (ai := (35, 1, 1, 0, [])) rfl rfl
        · refine (vr_steps 2 (x' := (318, [(2, v0), (0, v1), (0, v2), (0, v3), (0, v4), (0, v5), (0, v6), (0, v7), (0, v8), (0, v9), (0, v10), (0, v11)], [(0, v10)], (K, M))) rfl).trans ?_
          exact vr_ret (ai := (35, 1, 1, 0, [])) rfl rfl
    · refine (vr_steps 2 (x' := (318, [(2, v0), (0, v1), (0, v2), (0, v3), (0, v4), (0, v5), (0, v6), (0, v7), (0, v8), (0, v9), (0, v10), (0, v11)], [(0, v9)], (K, M))) rfl).trans ?_
      exact vr_ret (ai := (35, 1, 1, 0, [])) rfl rfl

noncomputable def c_X7_film : Nat → Option dI := d_mcode m_X7_film
set_option maxRecDepth 100000 in
theorem e_X7_film_0 {sc : dS} {d : Nat} {K : List (Nat × Nat)} {M : dM} {v0 v1 v2 : Int} {q3 q4 : dV} : vr sc d c_X7_film (0, [(2, v0), (0, v1), (0, v2), q3, q4], [], (K, M)) = ((vc sc d 196 [(0, v1)] (K, M)).bind (fun r => vr sc d c_X7_film (4, [(2, v0), (0, v1), (0, v2), q3, q4], r.1 ++ [], r.2))) := by
  refine (vr_steps 1 (x' := (1, [(2, v0), (0, v1), (0, v2), q3, q4], [(0, v1)], (K, M))) rfl).trans ?_
  exact (v_stat (k := 196) (n := 1) (code := c_X7_film) (pc := 1) (len := 3) (L := [(2, v0), (0, v1), (0, v2), q3, q4]) (st := [(0, v1)]) rfl (Nat.le_of_ble_eq_true rfl) (Nat.le_of_ble_eq_true rfl)).trans rfl
set_option maxRecDepth 100000 in
theorem e_X7_film_4 {sc : dS} {d : Nat} {K : List (Nat × Nat)} {M : dM} {v0 v1 v2 s0 : Int} {q3 q4 : dV} : vr sc d c_X7_film (4, [(2, v0), (0, v1), (0, v2), q3, q4], [(0, s0)], (K, M)) = (if s0 = 0 then some ([(0, (-2))], (K, M)) else (if rg K 7 v0 = true then (vc sc d 118 [(2, v0), (0, v2)] (K, M)).bind (fun r => vr sc d c_X7_film (12, [(2, v0), (0, v1), (0, v2), q3, q4], r.1 ++ [], r.2)) else none)) := by
  refine (v_if (k := 0) (b := 15) (c := s0 = 0) rfl rfl).trans ?_
  refine c_congr (fun _ => ?_) (fun _ => ?_)
  · refine (vr_steps 1 (x' := (17, [(2, v0), (0, v1), (0, v2), q3, q4], [(0, (-2))], (K, M))) rfl).trans ?_
    exact vr_ret (ai := (35, 1, 1, 0, [])) rfl rfl
  · refine (vr_steps 2 (x' := (9, [(2, v0), (0, v1), (0, v2), q3, q4], [(0, v2), (2, v0)], (K, M))) rfl).trans ?_
    exact (v_virt (k := 118) (n := 2) (tag := 7) (r := v0) (av := [(0, v2)]) (code := c_X7_film) (pc := 9) (len := 3) (L := [(2, v0), (0, v1), (0, v2), q3, q4]) (st := [(0, v2), (2, v0)]) rfl (Nat.le_of_ble_eq_true rfl) (Nat.le_of_ble_eq_true rfl) rfl).trans rfl
set_option maxRecDepth 100000 in
theorem e_X7_film_12 {sc : dS} {d : Nat} {K : List (Nat × Nat)} {M : dM} {v0 v1 v2 s0 : Int} {q3 q4 : dV} : vr sc d c_X7_film (12, [(2, v0), (0, v1), (0, v2), q3, q4], [(0, s0)], (K, M)) = (if ¬ s0 = 0 then (if rg K 7 v0 = true then (vc sc d 197 [(2, v0), (0, v1), (0, 0), (0, 13)] (K, M)).bind (fun r => vr sc d c_X7_film (26, [(2, v0), (0, v1), (0, v2), q3, q4], r.1 ++ [], r.2)) else none) else some ([(0, (-2))], (K, M))) := by
  refine (v_if (k := 1) (b := 18) (c := ¬ s0 = 0) rfl rfl).trans ?_
  refine c_congr (fun _ => ?_) (fun _ => ?_)
  · refine (vr_steps 4 (x' := (23, [(2, v0), (0, v1), (0, v2), q3, q4], [(0, 13), (0, 0), (0, v1), (2, v0)], (K, M))) rfl).trans ?_
    exact (v_virt (k := 197) (n := 4) (tag := 7) (r := v0) (av := [(0, v1), (0, 0), (0, 13)]) (code := c_X7_film) (pc := 23) (len := 3) (L := [(2, v0), (0, v1), (0, v2), q3, q4]) (st := [(0, 13), (0, 0), (0, v1), (2, v0)]) rfl (Nat.le_of_ble_eq_true rfl) (Nat.le_of_ble_eq_true rfl) rfl).trans rfl
  · refine (vr_steps 1 (x' := (17, [(2, v0), (0, v1), (0, v2), q3, q4], [(0, (-2))], (K, M))) rfl).trans ?_
    exact vr_ret (ai := (35, 1, 1, 0, [])) rfl rfl
set_option maxRecDepth 100000 in
theorem e_X7_film_26 {sc : dS} {d : Nat} {K : List (Nat × Nat)} {M : dM} {v0 v1 v2 s0 : Int} {q3 q4 : dV} : vr sc d c_X7_film (26, [(2, v0), (0, v1), (0, v2), q3, q4], [(0, s0)], (K, M)) = (vr sc d c_X7_film (32, [(2, v0), (0, v1), (0, v2), (0, 0), (0, 0)], [], (K, M))) := by
  exact vr_steps 5 rfl
set_option maxRecDepth 100000 in
theorem e_X7_film_32 {sc : dS} {d : Nat} {K : List (Nat × Nat)} {M : dM} {v0 v1 v2 v3 v4 : Int} : vr sc d c_X7_film (32, [(2, v0), (0, v1), (0, v2), (0, v3), (0, v4)], [], (K, M)) = (if 13 ≤ v4 then some ([(0, v3)], (K, M)) else (if og K 7 v0 45 = true then (if rg K 7 v0 = true then (vc sc d 164 [(2, v0), (0, v2), (0, 0), (0, v4)] (K, M)).bind (fun r => vr sc d c_X7_film (58, [(2, v0), (0, v1), (0, v2), (0, v3), (0, v4)], r.1 ++ [(0, w32 ((w32 (40 * v1)) + v4)), (2, M v0 45)], r.2)) else none) else none)) := by
  refine (vr_steps 2 (x' := (36, [(2, v0), (0, v1), (0, v2), (0, v3), (0, v4)], [(0, 13), (0, v4)], (K, M))) rfl).trans ?_
  refine (v_icmp (k := 3) (b := 76) (c := 13 ≤ v4) rfl rfl).trans ?_
  refine c_congr (fun _ => ?_) (fun _ => ?_)
  · refine (vr_steps 1 (x' := (77, [(2, v0), (0, v1), (0, v2), (0, v3), (0, v4)], [(0, v3)], (K, M))) rfl).trans ?_
    exact vr_ret (ai := (35, 1, 1, 0, [])) rfl rfl
  · refine (vr_steps 1 (x' := (40, [(2, v0), (0, v1), (0, v2), (0, v3), (0, v4)], [(2, v0)], (K, M))) rfl).trans ?_
    refine (v_getf (a := 7) (b := 45) (t := 2) rfl rfl).trans ?_
    refine g_congr (fun _ => ?_)
    refine (vr_steps 9 (x' := (55, [(2, v0), (0, v1), (0, v2), (0, v3), (0, v4)], [(0, v4), (0, 0), (0, v2), (2, v0), (0, w32 ((w32 (40 * v1)) + v4)), (2, M v0 45)], (K, M))) rfl).trans ?_
    exact (v_virt (k := 164) (n := 4) (tag := 7) (r := v0) (av := [(0, v2), (0, 0), (0, v4)]) (code := c_X7_film) (pc := 55) (len := 3) (L := [(2, v0), (0, v1), (0, v2), (0, v3), (0, v4)]) (st := [(0, v4), (0, 0), (0, v2), (2, v0), (0, w32 ((w32 (40 * v1)) + v4)), (2, M v0 45)]) rfl (Nat.le_of_ble_eq_true rfl) (Nat.le_of_ble_eq_true rfl) rfl).trans rfl
set_option maxRecDepth 100000 in
theorem e_X7_film_58 {sc : dS} {d : Nat} {K : List (Nat × Nat)} {M : dM} {v0 v1 v2 v3 v4 s0 s1 s2 : Int} : vr sc d c_X7_film (58, [(2, v0), (0, v1), (0, v2), (0, v3), (0, v4)], [(0, s2), (0, s1), (2, s0)], (K, M)) = (if ag K 8 s0 s1 = true then (if rg K 7 v0 = true then (vc sc d 164 [(2, v0), (0, v2), (0, 0), (0, v4)] (K, d_up M s0 s1 s2)).bind (fun r => vr sc d c_X7_film (68, [(2, v0), (0, v1), (0, v2), (0, v3), (0, v4)], r.1 ++ [(0, v3)], r.2)) else none) else none) := by
  refine (v_ast rfl).trans ?_
  refine g_congr (fun _ => ?_)
  refine (vr_steps 5 (x' := (65, [(2, v0), (0, v1), (0, v2), (0, v3), (0, v4)], [(0, v4), (0, 0), (0, v2), (2, v0), (0, v3)], (K, d_up M s0 s1 s2))) rfl).trans ?_
  exact (v_virt (k := 164) (n := 4) (tag := 7) (r := v0) (av := [(0, v2), (0, 0), (0, v4)]) (code := c_X7_film) (pc := 65) (len := 3) (L := [(2, v0), (0, v1), (0, v2), (0, v3), (0, v4)]) (st := [(0, v4), (0, 0), (0, v2), (2, v0), (0, v3)]) rfl (Nat.le_of_ble_eq_true rfl) (Nat.le_of_ble_eq_true rfl) rfl).trans rfl
set_option maxRecDepth 100000 in
theorem e_X7_film_68 {sc : dS} {d : Nat} {K : List (Nat × Nat)} {M : dM} {v0 v1 v2 v3 v4 s0 s1 : Int} : vr sc d c_X7_film (68, [(2, v0), (0, v1), (0, v2), (0, v3), (0, v4)], [(0, s1), (0, s0)], (K, M)) = (vr sc d c_X7_film (32, [(2, v0), (0, v1), (0, v2), (0, w32 (s0 + s1)), (0, w32 (v4 + 1))], [], (K, M))) := by
  exact vr_steps 4 rfl

noncomputable def c_X7_sizeDrawn : Nat → Option dI := d_mcode m_X7_sizeDrawn
set_option maxRecDepth 100000 in
theorem e_X7_sizeDrawn_0 {sc : dS} {d : Nat} {K : List (Nat × Nat)} {M : dM} {v0 v1 v2 : Int} {q3 q4 : dV} : vr sc d c_X7_sizeDrawn (0, [(2, v0), (0, v1), (0, v2), q3, q4], [], (K, M)) = (if og K 7 v0 29 = true then (if -2147483648 ≤ v2 ∧ v2 < 2147483648 then vr sc d c_X7_sizeDrawn (10, [(2, v0), (0, v1), (0, v2), (0, v1), (0, 0)], [], (K, d_up M v0 29 v2)) else none) else none) := by
  refine (vr_steps 4 (x' := (4, [(2, v0), (0, v1), (0, v2), (0, v1), q4], [(0, v2), (2, v0)], (K, M))) rfl).trans ?_
  refine (v_putf (a := 7) (b := 29) (t := 0) rfl rfl (by intro q; cases q)).trans ?_
  refine g_congr (fun _ => ?_)
  refine p_congr (fun _ => ?_)
  exact vr_steps 2 rfl
set_option maxRecDepth 100000 in
theorem e_X7_sizeDrawn_10 {sc : dS} {d : Nat} {K : List (Nat × Nat)} {M : dM} {v0 v1 v2 v3 v4 : Int} : vr sc d c_X7_sizeDrawn (10, [(2, v0), (0, v1), (0, v2), (0, v3), (0, v4)], [], (K, M)) = (if v2 ≤ v4 then (if rg K 7 v0 = true then (vc sc d 154 [(2, v0)] (K, M)).bind (fun r => vr sc d c_X7_sizeDrawn (49, [(2, v0), (0, v1), (0, v2), (0, v3), (0, v4)], r.1 ++ [], r.2)) else none) else (if og K 7 v0 28 = true then (if ag K 8 (M v0 28) v4 = true then vr sc d c_X7_sizeDrawn (10, [(2, v0), (0, v1), (0, v2), (0, w32 ((w32 (v3 * 1103515245)) + 12345)), (0, w32 (v4 + 1))], [], (K, d_up M (M v0 28) v4 (w32 ((i_ushr (w32 ((w32 (v3 * 1103515245)) + 12345)) 9).tmod 4)))) else none) else none)) := by
  refine (vr_steps 2 (x' := (13, [(2, v0), (0, v1), (0, v2), (0, v3), (0, v4)], [(0, v2), (0, v4)], (K, M))) rfl).trans ?_
  refine (v_icmp (k := 3) (b := 45) (c := v2 ≤ v4) rfl rfl).trans ?_
  refine c_congr (fun _ => ?_) (fun _ => ?_)
  · refine (vr_steps 1 (x' := (46, [(2, v0), (0, v1), (0, v2), (0, v3), (0, v4)], [(2, v0)], (K, M))) rfl).trans ?_
    exact (v_virt (k := 154) (n := 1) (tag := 7) (r := v0) (av := []) (code := c_X7_sizeDrawn) (pc := 46) (len := 3) (L := [(2, v0), (0, v1), (0, v2), (0, v3), (0, v4)]) (st := [(2, v0)]) rfl (Nat.le_of_ble_eq_true rfl) (Nat.le_of_ble_eq_true rfl) rfl).trans rfl
  · refine (vr_steps 7 (x' := (27, [(2, v0), (0, v1), (0, v2), (0, w32 ((w32 (v3 * 1103515245)) + 12345)), (0, v4)], [(2, v0)], (K, M))) rfl).trans ?_
    refine (v_getf (a := 7) (b := 28) (t := 2) rfl rfl).trans ?_
    refine g_congr (fun _ => ?_)
    refine (vr_steps 6 (x' := (38, [(2, v0), (0, v1), (0, v2), (0, w32 ((w32 (v3 * 1103515245)) + 12345)), (0, v4)], [(0, w32 ((i_ushr (w32 ((w32 (v3 * 1103515245)) + 12345)) 9).tmod 4)), (0, v4), (2, M v0 28)], (K, M))) rfl).trans ?_
    refine (v_ast rfl).trans ?_
    refine g_congr (fun _ => ?_)
    exact vr_steps 2 rfl
set_option maxRecDepth 100000 in
theorem e_X7_sizeDrawn_49 {sc : dS} {d : Nat} {K : List (Nat × Nat)} {M : dM} {v0 v1 v2 v3 v4 s0 : Int} : vr sc d c_X7_sizeDrawn (49, [(2, v0), (0, v1), (0, v2), (0, v3), (0, v4)], [(0, s0)], (K, M)) = (some ([(0, s0)], (K, M))) := by
  exact vr_ret (ai := (35, 1, 1, 0, [])) rfl rfl

noncomputable def c_X7_drawn : Nat → Option dI := d_mcode m_X7_drawn
set_option maxRecDepth 100000 in
theorem e_X7_drawn_0 {sc : dS} {d : Nat} {K : List (Nat × Nat)} {M : dM} {v0 v1 v2 : Int} : vr sc d c_X7_drawn (0, [(2, v0), (0, v1), (0, v2)], [], (K, M)) = ((vc sc d 114 [(1, v2), (1, 0), (1, 12)] (K, M)).bind (fun r => vr sc d c_X7_drawn (9, [(2, v0), (0, v1), (0, v2)], r.1 ++ [], r.2))) := by
  refine (vr_steps 4 (x' := (6, [(2, v0), (0, v1), (0, v2)], [(1, 12), (1, 0), (1, v2)], (K, M))) rfl).trans ?_
  exact (v_stat (k := 114) (n := 3) (code := c_X7_drawn) (pc := 6) (len := 3) (L := [(2, v0), (0, v1), (0, v2)]) (st := [(1, 12), (1, 0), (1, v2)]) rfl (Nat.le_of_ble_eq_true rfl) (Nat.le_of_ble_eq_true rfl)).trans rfl
set_option maxRecDepth 100000 in
theorem e_X7_drawn_9 {sc : dS} {d : Nat} {K : List (Nat × Nat)} {M : dM} {v0 v1 v2 s0 : Int} : vr sc d c_X7_drawn (9, [(2, v0), (0, v1), (0, v2)], [(0, s0)], (K, M)) = (if s0 = 0 then some ([(0, (-2))], (K, M)) else (if rg K 7 v0 = true then (vc sc d 190 [(2, v0), (0, v1), (0, v2)] (K, M)).bind (fun r => vr sc d c_X7_drawn (18, [(2, v0), (0, v1), (0, v2)], r.1 ++ [], r.2)) else none)) := by
  refine (v_if (k := 0) (b := 21) (c := s0 = 0) rfl rfl).trans ?_
  refine c_congr (fun _ => ?_) (fun _ => ?_)
  · refine (vr_steps 1 (x' := (23, [(2, v0), (0, v1), (0, v2)], [(0, (-2))], (K, M))) rfl).trans ?_
    exact vr_ret (ai := (35, 1, 1, 0, [])) rfl rfl
  · refine (vr_steps 3 (x' := (15, [(2, v0), (0, v1), (0, v2)], [(0, v2), (0, v1), (2, v0)], (K, M))) rfl).trans ?_
    exact (v_virt (k := 190) (n := 3) (tag := 7) (r := v0) (av := [(0, v1), (0, v2)]) (code := c_X7_drawn) (pc := 15) (len := 3) (L := [(2, v0), (0, v1), (0, v2)]) (st := [(0, v2), (0, v1), (2, v0)]) rfl (Nat.le_of_ble_eq_true rfl) (Nat.le_of_ble_eq_true rfl) rfl).trans rfl
set_option maxRecDepth 100000 in
theorem e_X7_drawn_18 {sc : dS} {d : Nat} {K : List (Nat × Nat)} {M : dM} {v0 v1 v2 s0 : Int} : vr sc d c_X7_drawn (18, [(2, v0), (0, v1), (0, v2)], [(0, s0)], (K, M)) = (some ([(0, s0)], (K, M))) := by
  refine (vr_steps 1 (x' := (23, [(2, v0), (0, v1), (0, v2)], [(0, s0)], (K, M))) rfl).trans ?_
  exact vr_ret (ai := (35, 1, 1, 0, [])) rfl rfl

noncomputable def c_X7_chance : Nat → Option dI := d_mcode m_X7_chance
set_option maxRecDepth 100000 in
theorem e_X7_chance_0 {sc : dS} {d : Nat} {K : List (Nat × Nat)} {M : dM} {v0 v1 v2 v3 v4 : Int} {q5 q6 q7 : dV} : vr sc d c_X7_chance (0, [(2, v0), (0, v1), (0, v2), (0, v3), (0, v4), q5, q6, q7], [], (K, M)) = ((vc sc d 114 [(1, v2), (1, 1), (1, 40)] (K, M)).bind (fun r => vr sc d c_X7_chance (9, [(2, v0), (0, v1), (0, v2), (0, v3), (0, v4), q5, q6, q7], r.1 ++ [], r.2))) := by
  refine (vr_steps 4 (x' := (6, [(2, v0), (0, v1), (0, v2), (0, v3), (0, v4), q5, q6, q7], [(1, 40), (1, 1), (1, v2)], (K, M))) rfl).trans ?_
  exact (v_stat (k := 114) (n := 3) (code := c_X7_chance) (pc := 6) (len := 3) (L := [(2, v0), (0, v1), (0, v2), (0, v3), (0, v4), q5, q6, q7]) (st := [(1, 40), (1, 1), (1, v2)]) rfl (Nat.le_of_ble_eq_true rfl) (Nat.le_of_ble_eq_true rfl)).trans rfl
set_option maxRecDepth 100000 in
theorem e_X7_chance_9 {sc : dS} {d : Nat} {K : List (Nat × Nat)} {M : dM} {v0 v1 v2 v3 v4 s0 : Int} {q5 q6 q7 : dV} : vr sc d c_X7_chance (9, [(2, v0), (0, v1), (0, v2), (0, v3), (0, v4), q5, q6, q7], [(0, s0)], (K, M)) = (if s0 = 0 then some ([(1, (-4611686018427387904))], (K, M)) else (vc sc d 114 [(1, v3), (1, 0), (1, 12)] (K, M)).bind (fun r => vr sc d c_X7_chance (21, [(2, v0), (0, v1), (0, v2), (0, v3), (0, v4), q5, q6, q7], r.1 ++ [], r.2))) := by
  refine (v_if (k := 0) (b := 35) (c := s0 = 0) rfl rfl).trans ?_
  refine c_congr (fun _ => ?_) (fun _ => ?_)
  · refine (vr_steps 1 (x' := (38, [(2, v0), (0, v1), (0, v2), (0, v3), (0, v4), q5, q6, q7], [(1, (-4611686018427387904))], (K, M))) rfl).trans ?_
    exact vr_ret (ai := (35, 1, 2, 0, [])) rfl rfl
  · refine (vr_steps 4 (x' := (18, [(2, v0), (0, v1), (0, v2), (0, v3), (0, v4), q5, q6, q7], [(1, 12), (1, 0), (1, v3)], (K, M))) rfl).trans ?_
    exact (v_stat (k := 114) (n := 3) (code := c_X7_chance) (pc := 18) (len := 3) (L := [(2, v0), (0, v1), (0, v2), (0, v3), (0, v4), q5, q6, q7]) (st := [(1, 12), (1, 0), (1, v3)]) rfl (Nat.le_of_ble_eq_true rfl) (Nat.le_of_ble_eq_true rfl)).trans rfl
set_option maxRecDepth 100000 in
theorem e_X7_chance_21 {sc : dS} {d : Nat} {K : List (Nat × Nat)} {M : dM} {v0 v1 v2 v3 v4 s0 : Int} {q5 q6 q7 : dV} : vr sc d c_X7_chance (21, [(2, v0), (0, v1), (0, v2), (0, v3), (0, v4), q5, q6, q7], [(0, s0)], (K, M)) = (if s0 = 0 then some ([(1, (-4611686018427387904))], (K, M)) else (vc sc d 114 [(1, v4), (1, 0), (1, 1)] (K, M)).bind (fun r => vr sc d c_X7_chance (32, [(2, v0), (0, v1), (0, v2), (0, v3), (0, v4), q5, q6, q7], r.1 ++ [], r.2))) := by
  refine (v_if (k := 0) (b := 35) (c := s0 = 0) rfl rfl).trans ?_
  refine c_congr (fun _ => ?_) (fun _ => ?_)
  · refine (vr_steps 1 (x' := (38, [(2, v0), (0, v1), (0, v2), (0, v3), (0, v4), q5, q6, q7], [(1, (-4611686018427387904))], (K, M))) rfl).trans ?_
    exact vr_ret (ai := (35, 1, 2, 0, [])) rfl rfl
  · refine (vr_steps 4 (x' := (29, [(2, v0), (0, v1), (0, v2), (0, v3), (0, v4), q5, q6, q7], [(1, 1), (1, 0), (1, v4)], (K, M))) rfl).trans ?_
    exact (v_stat (k := 114) (n := 3) (code := c_X7_chance) (pc := 29) (len := 3) (L := [(2, v0), (0, v1), (0, v2), (0, v3), (0, v4), q5, q6, q7]) (st := [(1, 1), (1, 0), (1, v4)]) rfl (Nat.le_of_ble_eq_true rfl) (Nat.le_of_ble_eq_true rfl)).trans rfl
set_option maxRecDepth 100000 in
theorem e_X7_chance_32 {sc : dS} {d : Nat} {K : List (Nat × Nat)} {M : dM} {v0 v1 v2 v3 v4 s0 : Int} {q5 q6 q7 : dV} : vr sc d c_X7_chance (32, [(2, v0), (0, v1), (0, v2), (0, v3), (0, v4), q5, q6, q7], [(0, s0)], (K, M)) = (if ¬ s0 = 0 then vr sc d c_X7_chance (45, [(2, v0), (0, v1), (0, v2), (0, v3), (0, v4), (1, 0), (3, 0), (0, 0)], [], (K, M)) else some ([(1, (-4611686018427387904))], (K, M))) := by
  refine (v_if (k := 1) (b := 39) (c := ¬ s0 = 0) rfl rfl).trans ?_
  refine c_congr (fun _ => ?_) (fun _ => ?_)
  · exact vr_steps 4 rfl
  · refine (vr_steps 1 (x' := (38, [(2, v0), (0, v1), (0, v2), (0, v3), (0, v4), q5, q6, q7], [(1, (-4611686018427387904))], (K, M))) rfl).trans ?_
    exact vr_ret (ai := (35, 1, 2, 0, [])) rfl rfl
set_option maxRecDepth 100000 in
theorem e_X7_chance_45 {sc : dS} {d : Nat} {K : List (Nat × Nat)} {M : dM} {v0 v1 v2 v3 v4 v5 v7 : Int} : vr sc d c_X7_chance (45, [(2, v0), (0, v1), (0, v2), (0, v3), (0, v4), (1, v5), (3, 0), (0, v7)], [], (K, M)) = (if v2 ≤ v7 then (vc sc d 184 [(1, v5), (1, v2), (0, v4)] (K, M)).bind (fun r => vr sc d c_X7_chance (90, [(2, v0), (0, v1), (0, v2), (0, v3), (0, v4), (1, v5), (3, 0), (0, v7)], r.1 ++ [], r.2)) else (if rg K 7 v0 = true then (vc sc d 190 [(2, v0), (0, w32 (v1 + v7)), (0, 12)] (K, M)).bind (fun r => vr sc d c_X7_chance (63, [(2, v0), (0, v1), (0, v2), (0, v3), (0, v4), (1, v5), (3, 0), (0, v7)], r.1 ++ [(1, v5)], r.2)) else none)) := by
  refine (vr_steps 2 (x' := (48, [(2, v0), (0, v1), (0, v2), (0, v3), (0, v4), (1, v5), (3, 0), (0, v7)], [(0, v2), (0, v7)], (K, M))) rfl).trans ?_
  refine (v_icmp (k := 3) (b := 81) (c := v2 ≤ v7) rfl rfl).trans ?_
  refine c_congr (fun _ => ?_) (fun _ => ?_)
  · refine (vr_steps 4 (x' := (87, [(2, v0), (0, v1), (0, v2), (0, v3), (0, v4), (1, v5), (3, 0), (0, v7)], [(0, v4), (1, v2), (1, v5)], (K, M))) rfl).trans ?_
    exact (v_stat (k := 184) (n := 3) (code := c_X7_chance) (pc := 87) (len := 3) (L := [(2, v0), (0, v1), (0, v2), (0, v3), (0, v4), (1, v5), (3, 0), (0, v7)]) (st := [(0, v4), (1, v2), (1, v5)]) rfl (Nat.le_of_ble_eq_true rfl) (Nat.le_of_ble_eq_true rfl)).trans rfl
  · refine (vr_steps 6 (x' := (60, [(2, v0), (0, v1), (0, v2), (0, v3), (0, v4), (1, v5), (3, 0), (0, v7)], [(0, 12), (0, w32 (v1 + v7)), (2, v0), (1, v5)], (K, M))) rfl).trans ?_
    exact (v_virt (k := 190) (n := 3) (tag := 7) (r := v0) (av := [(0, w32 (v1 + v7)), (0, 12)]) (code := c_X7_chance) (pc := 60) (len := 3) (L := [(2, v0), (0, v1), (0, v2), (0, v3), (0, v4), (1, v5), (3, 0), (0, v7)]) (st := [(0, 12), (0, w32 (v1 + v7)), (2, v0), (1, v5)]) rfl (Nat.le_of_ble_eq_true rfl) (Nat.le_of_ble_eq_true rfl) rfl).trans rfl
set_option maxRecDepth 100000 in
theorem e_X7_chance_63 {sc : dS} {d : Nat} {K : List (Nat × Nat)} {M : dM} {v0 v1 v2 v3 v4 v5 v7 s0 s1 : Int} : vr sc d c_X7_chance (63, [(2, v0), (0, v1), (0, v2), (0, v3), (0, v4), (1, v5), (3, 0), (0, v7)], [(0, s1), (1, s0)], (K, M)) = (if s1 < v3 then vr sc d c_X7_chance (45, [(2, v0), (0, v1), (0, v2), (0, v3), (0, v4), (1, w64 (s0 + 0)), (3, 0), (0, w32 (v7 + 1))], [], (K, M)) else vr sc d c_X7_chance (45, [(2, v0), (0, v1), (0, v2), (0, v3), (0, v4), (1, w64 (s0 + 1)), (3, 0), (0, w32 (v7 + 1))], [], (K, M))) := by
  refine (vr_steps 1 (x' := (64, [(2, v0), (0, v1), (0, v2), (0, v3), (0, v4), (1, v5), (3, 0), (0, v7)], [(0, v3), (0, s1), (1, s0)], (K, M))) rfl).trans ?_
  refine (v_icmp (k := 2) (b := 71) (c := s1 < v3) rfl rfl).trans ?_
  refine c_congr (fun _ => ?_) (fun _ => ?_)
  · exact vr_steps 5 rfl
  · exact vr_steps 6 rfl
set_option maxRecDepth 100000 in
theorem e_X7_chance_90 {sc : dS} {d : Nat} {K : List (Nat × Nat)} {M : dM} {v0 v1 v2 v3 v4 v5 v7 s0 : Int} : vr sc d c_X7_chance (90, [(2, v0), (0, v1), (0, v2), (0, v3), (0, v4), (1, v5), (3, 0), (0, v7)], [(1, s0)], (K, M)) = (some ([(1, s0)], (K, M))) := by
  exact vr_ret (ai := (35, 1, 2, 0, [])) rfl rfl

noncomputable def c_X7_image : Nat → Option dI := d_mcode m_X7_image
set_option maxRecDepth 100000 in
theorem e_X7_image_0 {sc : dS} {d : Nat} {K : List (Nat × Nat)} {M : dM} {v0 : Int} {q1 : dV} : vr sc d c_X7_image (0, [(2, v0), q1], [], (K, M)) = (vr sc d c_X7_image (2, [(2, v0), (0, 0)], [], (K, M))) := by
  exact vr_steps 2 rfl
set_option maxRecDepth 100000 in
theorem e_X7_image_2 {sc : dS} {d : Nat} {K : List (Nat × Nat)} {M : dM} {v0 v1 : Int} : vr sc d c_X7_image (2, [(2, v0), (0, v1)], [], (K, M)) = (if 15 ≤ v1 then vr sc d c_X7_image (28, [(2, v0), (0, 0)], [], (K, M)) else (if og K 7 v0 35 = true then (if og K 7 v0 9 = true then (if ag K 8 (M v0 9) v1 = true then (if ag K 8 (M v0 35) v1 = true then vr sc d c_X7_image (2, [(2, v0), (0, w32 (v1 + 1))], [], (K, d_up M (M v0 35) v1 (M (M v0 9) v1))) else none) else none) else none) else none)) := by
  refine (vr_steps 2 (x' := (5, [(2, v0), (0, v1)], [(0, 15), (0, v1)], (K, M))) rfl).trans ?_
  refine (v_icmp (k := 3) (b := 26) (c := 15 ≤ v1) rfl rfl).trans ?_
  refine c_congr (fun _ => ?_) (fun _ => ?_)
  · exact vr_steps 2 rfl
  · refine (vr_steps 1 (x' := (9, [(2, v0), (0, v1)], [(2, v0)], (K, M))) rfl).trans ?_
    refine (v_getf (a := 7) (b := 35) (t := 2) rfl rfl).trans ?_
    refine g_congr (fun _ => ?_)
    refine (vr_steps 2 (x' := (14, [(2, v0), (0, v1)], [(2, v0), (0, v1), (2, M v0 35)], (K, M))) rfl).trans ?_
    refine (v_getf (a := 7) (b := 9) (t := 2) rfl rfl).trans ?_
    refine g_congr (fun _ => ?_)
    refine (vr_steps 1 (x' := (18, [(2, v0), (0, v1)], [(0, v1), (2, M v0 9), (0, v1), (2, M v0 35)], (K, M))) rfl).trans ?_
    refine (v_ald (a := 8) rfl (by decide)).trans ?_
    refine g_congr (fun _ => ?_)
    refine (v_ast rfl).trans ?_
    refine g_congr (fun _ => ?_)
    exact vr_steps 2 rfl
set_option maxRecDepth 100000 in
theorem e_X7_image_28 {sc : dS} {d : Nat} {K : List (Nat × Nat)} {M : dM} {v0 v1 : Int} : vr sc d c_X7_image (28, [(2, v0), (0, v1)], [], (K, M)) = (if 18 ≤ v1 then vr sc d c_X7_image (54, [(2, v0), (0, 0)], [], (K, M)) else (if og K 7 v0 36 = true then (if og K 7 v0 10 = true then (if ag K 8 (M v0 10) v1 = true then (if ag K 8 (M v0 36) v1 = true then vr sc d c_X7_image (28, [(2, v0), (0, w32 (v1 + 1))], [], (K, d_up M (M v0 36) v1 (M (M v0 10) v1))) else none) else none) else none) else none)) := by
  refine (vr_steps 2 (x' := (31, [(2, v0), (0, v1)], [(0, 18), (0, v1)], (K, M))) rfl).trans ?_
  refine (v_icmp (k := 3) (b := 52) (c := 18 ≤ v1) rfl rfl).trans ?_
  refine c_congr (fun _ => ?_) (fun _ => ?_)
  · exact vr_steps 2 rfl
  · refine (vr_steps 1 (x' := (35, [(2, v0), (0, v1)], [(2, v0)], (K, M))) rfl).trans ?_
    refine (v_getf (a := 7) (b := 36) (t := 2) rfl rfl).trans ?_
    refine g_congr (fun _ => ?_)
    refine (vr_steps 2 (x' := (40, [(2, v0), (0, v1)], [(2, v0), (0, v1), (2, M v0 36)], (K, M))) rfl).trans ?_
    refine (v_getf (a := 7) (b := 10) (t := 2) rfl rfl).trans ?_
    refine g_congr (fun _ => ?_)
    refine (vr_steps 1 (x' := (44, [(2, v0), (0, v1)], [(0, v1), (2, M v0 10), (0, v1), (2, M v0 36)], (K, M))) rfl).trans ?_
    refine (v_ald (a := 8) rfl (by decide)).trans ?_
    refine g_congr (fun _ => ?_)
    refine (v_ast rfl).trans ?_
    refine g_congr (fun _ => ?_)
    exact vr_steps 2 rfl
set_option maxRecDepth 100000 in
theorem e_X7_image_54 {sc : dS} {d : Nat} {K : List (Nat × Nat)} {M : dM} {v0 v1 : Int} : vr sc d c_X7_image (54, [(2, v0), (0, v1)], [], (K, M)) = (if 72 ≤ v1 then (if og K 7 v0 12 = true then (if og K 7 v0 38 = true then (if -2147483648 ≤ (M v0 12) ∧ (M v0 12) < 2147483648 then (if og K 7 v0 7 = true then (if og K 7 v0 39 = true then (if -2147483648 ≤ ((d_up M v0 38 (M v0 12)) v0 7) ∧ ((d_up M v0 38 (M v0 12)) v0 7) < 2147483648 then (if og K 7 v0 8 = true then (if og K 7 v0 40 = true then (if -2147483648 ≤ ((d_up (d_up M v0 38 (M v0 12)) v0 39 ((d_up M v0 38 (M v0 12)) v0 7)) v0 8) ∧ ((d_up (d_up M v0 38 (M v0 12)) v0 39 ((d_up M v0 38 (M v0 12)) v0 7)) v0 8) < 2147483648 then (if og K 7 v0 4 = true then (if og K 7 v0 41 = true then (if -2147483648 ≤ ((d_up (d_up (d_up M v0 38 (M v0 12)) v0 39 ((d_up M v0 38 (M v0 12)) v0 7)) v0 40 ((d_up (d_up M v0 38 (M v0 12)) v0 39 ((d_up M v0 38 (M v0 12)) v0 7)) v0 8)) v0 4) ∧ ((d_up (d_up (d_up M v0 38 (M v0 12)) v0 39 ((d_up M v0 38 (M v0 12)) v0 7)) v0 40 ((d_up (d_up M v0 38 (M v0 12)) v0 39 ((d_up M v0 38 (M v0 12)) v0 7)) v0 8)) v0 4) < 2147483648 then (if og K 7 v0 12 = true then some ([(0, (d_up (d_up (d_up (d_up M v0 38 (M v0 12)) v0 39 ((d_up M v0 38 (M v0 12)) v0 7)) v0 40 ((d_up (d_up M v0 38 (M v0 12)) v0 39 ((d_up M v0 38 (M v0 12)) v0 7)) v0 8)) v0 41 ((d_up (d_up (d_up M v0 38 (M v0 12)) v0 39 ((d_up M v0 38 (M v0 12)) v0 7)) v0 40 ((d_up (d_up M v0 38 (M v0 12)) v0 39 ((d_up M v0 38 (M v0 12)) v0 7)) v0 8)) v0 4)) v0 12)], (K, d_up (d_up (d_up (d_up M v0 38 (M v0 12)) v0 39 ((d_up M v0 38 (M v0 12)) v0 7)) v0 40 ((d_up (d_up M v0 38 (M v0 12)) v0 39 ((d_up M v0 38 (M v0 12)) v0 7)) v0 8)) v0 41 ((d_up (d_up (d_up M v0 38 (M v0 12)) v0 39 ((d_up M v0 38 (M v0 12)) v0 7)) v0 40 ((d_up (d_up M v0 38 (M v0 12)) v0 39 ((d_up M v0 38 (M v0 12)) v0 7)) v0 8)) v0 4))) else none) else none) else none) else none) else none) else none) else none) else none) else none) else none) else none) else none) else none) else (if og K 7 v0 37 = true then (if og K 7 v0 11 = true then (if ag K 8 (M v0 11) v1 = true then (if ag K 8 (M v0 37) v1 = true then vr sc d c_X7_image (54, [(2, v0), (0, w32 (v1 + 1))], [], (K, d_up M (M v0 37) v1 (M (M v0 11) v1))) else none) else none) else none) else none)) := by
  refine (vr_steps 2 (x' := (57, [(2, v0), (0, v1)], [(0, 72), (0, v1)], (K, M))) rfl).trans ?_
  refine (v_icmp (k := 3) (b := 78) (c := 72 ≤ v1) rfl rfl).trans ?_
  refine c_congr (fun _ => ?_) (fun _ => ?_)
  · refine (vr_steps 2 (x' := (80, [(2, v0), (0, v1)], [(2, v0), (2, v0)], (K, M))) rfl).trans ?_
    refine (v_getf (a := 7) (b := 12) (t := 0) rfl rfl).trans ?_
    refine g_congr (fun _ => ?_)
    refine (v_putf (a := 7) (b := 38) (t := 0) rfl rfl (by intro q; cases q)).trans ?_
    refine g_congr (fun _ => ?_)
    refine p_congr (fun _ => ?_)
    refine (vr_steps 2 (x' := (88, [(2, v0), (0, v1)], [(2, v0), (2, v0)], (K, d_up M v0 38 (M v0 12)))) rfl).trans ?_
    refine (v_getf (a := 7) (b := 7) (t := 0) rfl rfl).trans ?_
    refine g_congr (fun _ => ?_)
    refine (v_putf (a := 7) (b := 39) (t := 0) rfl rfl (by intro q; cases q)).trans ?_
    refine g_congr (fun _ => ?_)
    refine p_congr (fun _ => ?_)
    refine (vr_steps 2 (x' := (96, [(2, v0), (0, v1)], [(2, v0), (2, v0)], (K, d_up (d_up M v0 38 (M v0 12)) v0 39 ((d_up M v0 38 (M v0 12)) v0 7)))) rfl).trans ?_
    refine (v_getf (a := 7) (b := 8) (t := 0) rfl rfl).trans ?_
    refine g_congr (fun _ => ?_)
    refine (v_putf (a := 7) (b := 40) (t := 0) rfl rfl (by intro q; cases q)).trans ?_
    refine g_congr (fun _ => ?_)
    refine p_congr (fun _ => ?_)
    refine (vr_steps 2 (x' := (104, [(2, v0), (0, v1)], [(2, v0), (2, v0)], (K, d_up (d_up (d_up M v0 38 (M v0 12)) v0 39 ((d_up M v0 38 (M v0 12)) v0 7)) v0 40 ((d_up (d_up M v0 38 (M v0 12)) v0 39 ((d_up M v0 38 (M v0 12)) v0 7)) v0 8)))) rfl).trans ?_
    refine (v_getf (a := 7) (b := 4) (t := 0) rfl rfl).trans ?_
    refine g_congr (fun _ => ?_)
    refine (v_putf (a := 7) (b := 41) (t := 0) rfl rfl (by intro q; cases q)).trans ?_
    refine g_congr (fun _ => ?_)
    refine p_congr (fun _ => ?_)
    refine (vr_steps 1 (x' := (111, [(2, v0), (0, v1)], [(2, v0)], (K, d_up (d_up (d_up (d_up M v0 38 (M v0 12)) v0 39 ((d_up M v0 38 (M v0 12)) v0 7)) v0 40 ((d_up (d_up M v0 38 (M v0 12)) v0 39 ((d_up M v0 38 (M v0 12)) v0 7)) v0 8)) v0 41 ((d_up (d_up (d_up M v0 38 (M v0 12)) v0 39 ((d_up M v0 38 (M v0 12)) v0 7)) v0 40 ((d_up (d_up M v0 38 (M v0 12)) v0 39 ((d_up M v0 38 (M v0 12)) v0 7)) v0 8)) v0 4)))) rfl).trans ?_
    refine (v_getf (a := 7) (b := 12) (t := 0) rfl rfl).trans ?_
    refine g_congr (fun _ => ?_)
    exact vr_ret (ai := (35, 1, 1, 0, [])) rfl rfl
  · refine (vr_steps 1 (x' := (61, [(2, v0), (0, v1)], [(2, v0)], (K, M))) rfl).trans ?_
    refine (v_getf (a := 7) (b := 37) (t := 2) rfl rfl).trans ?_
    refine g_congr (fun _ => ?_)
    refine (vr_steps 2 (x' := (66, [(2, v0), (0, v1)], [(2, v0), (0, v1), (2, M v0 37)], (K, M))) rfl).trans ?_
    refine (v_getf (a := 7) (b := 11) (t := 2) rfl rfl).trans ?_
    refine g_congr (fun _ => ?_)
    refine (vr_steps 1 (x' := (70, [(2, v0), (0, v1)], [(0, v1), (2, M v0 11), (0, v1), (2, M v0 37)], (K, M))) rfl).trans ?_
    refine (v_ald (a := 8) rfl (by decide)).trans ?_
    refine g_congr (fun _ => ?_)
    refine (v_ast rfl).trans ?_
    refine g_congr (fun _ => ?_)
    exact vr_steps 2 rfl

noncomputable def c_X7_back : Nat → Option dI := d_mcode m_X7_back
set_option maxRecDepth 100000 in
theorem e_X7_back_0 {sc : dS} {d : Nat} {K : List (Nat × Nat)} {M : dM} {v0 : Int} {q1 : dV} : vr sc d c_X7_back (0, [(2, v0), q1], [], (K, M)) = (if og K 7 v0 38 = true then (if ¬ (M v0 38) = (-1) then vr sc d c_X7_back (13, [(2, v0), (0, 0)], [], (K, M)) else some ([(0, (-3))], (K, M))) else none) := by
  refine (vr_steps 1 (x' := (1, [(2, v0), q1], [(2, v0)], (K, M))) rfl).trans ?_
  refine (v_getf (a := 7) (b := 38) (t := 0) rfl rfl).trans ?_
  refine g_congr (fun _ => ?_)
  refine (vr_steps 1 (x' := (5, [(2, v0), q1], [(0, (-1)), (0, M v0 38)], (K, M))) rfl).trans ?_
  refine (v_icmp (k := 1) (b := 11) (c := ¬ (M v0 38) = (-1)) rfl rfl).trans ?_
  refine c_congr (fun _ => ?_) (fun _ => ?_)
  · exact vr_steps 2 rfl
  · refine (vr_steps 1 (x' := (10, [(2, v0), q1], [(0, (-3))], (K, M))) rfl).trans ?_
    exact vr_ret (ai := (35, 1, 1, 0, [])) rfl rfl
set_option maxRecDepth 100000 in
theorem e_X7_back_13 {sc : dS} {d : Nat} {K : List (Nat × Nat)} {M : dM} {v0 v1 : Int} : vr sc d c_X7_back (13, [(2, v0), (0, v1)], [], (K, M)) = (if 15 ≤ v1 then vr sc d c_X7_back (39, [(2, v0), (0, 0)], [], (K, M)) else (if og K 7 v0 9 = true then (if og K 7 v0 35 = true then (if ag K 8 (M v0 35) v1 = true then (if ag K 8 (M v0 9) v1 = true then vr sc d c_X7_back (13, [(2, v0), (0, w32 (v1 + 1))], [], (K, d_up M (M v0 9) v1 (M (M v0 35) v1))) else none) else none) else none) else none)) := by
  refine (vr_steps 2 (x' := (16, [(2, v0), (0, v1)], [(0, 15), (0, v1)], (K, M))) rfl).trans ?_
  refine (v_icmp (k := 3) (b := 37) (c := 15 ≤ v1) rfl rfl).trans ?_
  refine c_congr (fun _ => ?_) (fun _ => ?_)
  · exact vr_steps 2 rfl
  · refine (vr_steps 1 (x' := (20, [(2, v0), (0, v1)], [(2, v0)], (K, M))) rfl).trans ?_
    refine (v_getf (a := 7) (b := 9) (t := 2) rfl rfl).trans ?_
    refine g_congr (fun _ => ?_)
    refine (vr_steps 2 (x' := (25, [(2, v0), (0, v1)], [(2, v0), (0, v1), (2, M v0 9)], (K, M))) rfl).trans ?_
    refine (v_getf (a := 7) (b := 35) (t := 2) rfl rfl).trans ?_
    refine g_congr (fun _ => ?_)
    refine (vr_steps 1 (x' := (29, [(2, v0), (0, v1)], [(0, v1), (2, M v0 35), (0, v1), (2, M v0 9)], (K, M))) rfl).trans ?_
    refine (v_ald (a := 8) rfl (by decide)).trans ?_
    refine g_congr (fun _ => ?_)
    refine (v_ast rfl).trans ?_
    refine g_congr (fun _ => ?_)
    exact vr_steps 2 rfl
set_option maxRecDepth 100000 in
theorem e_X7_back_39 {sc : dS} {d : Nat} {K : List (Nat × Nat)} {M : dM} {v0 v1 : Int} : vr sc d c_X7_back (39, [(2, v0), (0, v1)], [], (K, M)) = (if 18 ≤ v1 then vr sc d c_X7_back (65, [(2, v0), (0, 0)], [], (K, M)) else (if og K 7 v0 10 = true then (if og K 7 v0 36 = true then (if ag K 8 (M v0 36) v1 = true then (if ag K 8 (M v0 10) v1 = true then vr sc d c_X7_back (39, [(2, v0), (0, w32 (v1 + 1))], [], (K, d_up M (M v0 10) v1 (M (M v0 36) v1))) else none) else none) else none) else none)) := by
  refine (vr_steps 2 (x' := (42, [(2, v0), (0, v1)], [(0, 18), (0, v1)], (K, M))) rfl).trans ?_
  refine (v_icmp (k := 3) (b := 63) (c := 18 ≤ v1) rfl rfl).trans ?_
  refine c_congr (fun _ => ?_) (fun _ => ?_)
  · exact vr_steps 2 rfl
  · refine (vr_steps 1 (x' := (46, [(2, v0), (0, v1)], [(2, v0)], (K, M))) rfl).trans ?_
    refine (v_getf (a := 7) (b := 10) (t := 2) rfl rfl).trans ?_
    refine g_congr (fun _ => ?_)
    refine (vr_steps 2 (x' := (51, [(2, v0), (0, v1)], [(2, v0), (0, v1), (2, M v0 10)], (K, M))) rfl).trans ?_
    refine (v_getf (a := 7) (b := 36) (t := 2) rfl rfl).trans ?_
    refine g_congr (fun _ => ?_)
    refine (vr_steps 1 (x' := (55, [(2, v0), (0, v1)], [(0, v1), (2, M v0 36), (0, v1), (2, M v0 10)], (K, M))) rfl).trans ?_
    refine (v_ald (a := 8) rfl (by decide)).trans ?_
    refine g_congr (fun _ => ?_)
    refine (v_ast rfl).trans ?_
    refine g_congr (fun _ => ?_)
    exact vr_steps 2 rfl
set_option maxRecDepth 100000 in
theorem e_X7_back_65 {sc : dS} {d : Nat} {K : List (Nat × Nat)} {M : dM} {v0 v1 : Int} : vr sc d c_X7_back (65, [(2, v0), (0, v1)], [], (K, M)) = (if 72 ≤ v1 then (if og K 7 v0 38 = true then (if og K 7 v0 12 = true then (if -2147483648 ≤ (M v0 38) ∧ (M v0 38) < 2147483648 then (if og K 7 v0 39 = true then (if og K 7 v0 7 = true then (if -2147483648 ≤ ((d_up M v0 12 (M v0 38)) v0 39) ∧ ((d_up M v0 12 (M v0 38)) v0 39) < 2147483648 then (if og K 7 v0 40 = true then (if og K 7 v0 8 = true then (if -2147483648 ≤ ((d_up (d_up M v0 12 (M v0 38)) v0 7 ((d_up M v0 12 (M v0 38)) v0 39)) v0 40) ∧ ((d_up (d_up M v0 12 (M v0 38)) v0 7 ((d_up M v0 12 (M v0 38)) v0 39)) v0 40) < 2147483648 then (if og K 7 v0 41 = true then (if og K 7 v0 4 = true then (if -2147483648 ≤ ((d_up (d_up (d_up M v0 12 (M v0 38)) v0 7 ((d_up M v0 12 (M v0 38)) v0 39)) v0 8 ((d_up (d_up M v0 12 (M v0 38)) v0 7 ((d_up M v0 12 (M v0 38)) v0 39)) v0 40)) v0 41) ∧ ((d_up (d_up (d_up M v0 12 (M v0 38)) v0 7 ((d_up M v0 12 (M v0 38)) v0 39)) v0 8 ((d_up (d_up M v0 12 (M v0 38)) v0 7 ((d_up M v0 12 (M v0 38)) v0 39)) v0 40)) v0 41) < 2147483648 then (if og K 7 v0 12 = true then some ([(0, (d_up (d_up (d_up (d_up M v0 12 (M v0 38)) v0 7 ((d_up M v0 12 (M v0 38)) v0 39)) v0 8 ((d_up (d_up M v0 12 (M v0 38)) v0 7 ((d_up M v0 12 (M v0 38)) v0 39)) v0 40)) v0 4 ((d_up (d_up (d_up M v0 12 (M v0 38)) v0 7 ((d_up M v0 12 (M v0 38)) v0 39)) v0 8 ((d_up (d_up M v0 12 (M v0 38)) v0 7 ((d_up M v0 12 (M v0 38)) v0 39)) v0 40)) v0 41)) v0 12)], (K, d_up (d_up (d_up (d_up M v0 12 (M v0 38)) v0 7 ((d_up M v0 12 (M v0 38)) v0 39)) v0 8 ((d_up (d_up M v0 12 (M v0 38)) v0 7 ((d_up M v0 12 (M v0 38)) v0 39)) v0 40)) v0 4 ((d_up (d_up (d_up M v0 12 (M v0 38)) v0 7 ((d_up M v0 12 (M v0 38)) v0 39)) v0 8 ((d_up (d_up M v0 12 (M v0 38)) v0 7 ((d_up M v0 12 (M v0 38)) v0 39)) v0 40)) v0 41))) else none) else none) else none) else none) else none) else none) else none) else none) else none) else none) else none) else none) else none) else (if og K 7 v0 11 = true then (if og K 7 v0 37 = true then (if ag K 8 (M v0 37) v1 = true then (if ag K 8 (M v0 11) v1 = true then vr sc d c_X7_back (65, [(2, v0), (0, w32 (v1 + 1))], [], (K, d_up M (M v0 11) v1 (M (M v0 37) v1))) else none) else none) else none) else none)) := by
  refine (vr_steps 2 (x' := (68, [(2, v0), (0, v1)], [(0, 72), (0, v1)], (K, M))) rfl).trans ?_
  refine (v_icmp (k := 3) (b := 89) (c := 72 ≤ v1) rfl rfl).trans ?_
  refine c_congr (fun _ => ?_) (fun _ => ?_)
  · refine (vr_steps 2 (x' := (91, [(2, v0), (0, v1)], [(2, v0), (2, v0)], (K, M))) rfl).trans ?_
    refine (v_getf (a := 7) (b := 38) (t := 0) rfl rfl).trans ?_
    refine g_congr (fun _ => ?_)
    refine (v_putf (a := 7) (b := 12) (t := 0) rfl rfl (by intro q; cases q)).trans ?_
    refine g_congr (fun _ => ?_)
    refine p_congr (fun _ => ?_)
    refine (vr_steps 2 (x' := (99, [(2, v0), (0, v1)], [(2, v0), (2, v0)], (K, d_up M v0 12 (M v0 38)))) rfl).trans ?_
    refine (v_getf (a := 7) (b := 39) (t := 0) rfl rfl).trans ?_
    refine g_congr (fun _ => ?_)
    refine (v_putf (a := 7) (b := 7) (t := 0) rfl rfl (by intro q; cases q)).trans ?_
    refine g_congr (fun _ => ?_)
    refine p_congr (fun _ => ?_)
    refine (vr_steps 2 (x' := (107, [(2, v0), (0, v1)], [(2, v0), (2, v0)], (K, d_up (d_up M v0 12 (M v0 38)) v0 7 ((d_up M v0 12 (M v0 38)) v0 39)))) rfl).trans ?_
    refine (v_getf (a := 7) (b := 40) (t := 0) rfl rfl).trans ?_
    refine g_congr (fun _ => ?_)
    refine (v_putf (a := 7) (b := 8) (t := 0) rfl rfl (by intro q; cases q)).trans ?_
    refine g_congr (fun _ => ?_)
    refine p_congr (fun _ => ?_)
    refine (vr_steps 2 (x' := (115, [(2, v0), (0, v1)], [(2, v0), (2, v0)], (K, d_up (d_up (d_up M v0 12 (M v0 38)) v0 7 ((d_up M v0 12 (M v0 38)) v0 39)) v0 8 ((d_up (d_up M v0 12 (M v0 38)) v0 7 ((d_up M v0 12 (M v0 38)) v0 39)) v0 40)))) rfl).trans ?_
    refine (v_getf (a := 7) (b := 41) (t := 0) rfl rfl).trans ?_
    refine g_congr (fun _ => ?_)
    refine (v_putf (a := 7) (b := 4) (t := 0) rfl rfl (by intro q; cases q)).trans ?_
    refine g_congr (fun _ => ?_)
    refine p_congr (fun _ => ?_)
    refine (vr_steps 1 (x' := (122, [(2, v0), (0, v1)], [(2, v0)], (K, d_up (d_up (d_up (d_up M v0 12 (M v0 38)) v0 7 ((d_up M v0 12 (M v0 38)) v0 39)) v0 8 ((d_up (d_up M v0 12 (M v0 38)) v0 7 ((d_up M v0 12 (M v0 38)) v0 39)) v0 40)) v0 4 ((d_up (d_up (d_up M v0 12 (M v0 38)) v0 7 ((d_up M v0 12 (M v0 38)) v0 39)) v0 8 ((d_up (d_up M v0 12 (M v0 38)) v0 7 ((d_up M v0 12 (M v0 38)) v0 39)) v0 40)) v0 41)))) rfl).trans ?_
    refine (v_getf (a := 7) (b := 12) (t := 0) rfl rfl).trans ?_
    refine g_congr (fun _ => ?_)
    exact vr_ret (ai := (35, 1, 1, 0, [])) rfl rfl
  · refine (vr_steps 1 (x' := (72, [(2, v0), (0, v1)], [(2, v0)], (K, M))) rfl).trans ?_
    refine (v_getf (a := 7) (b := 11) (t := 2) rfl rfl).trans ?_
    refine g_congr (fun _ => ?_)
    refine (vr_steps 2 (x' := (77, [(2, v0), (0, v1)], [(2, v0), (0, v1), (2, M v0 11)], (K, M))) rfl).trans ?_
    refine (v_getf (a := 7) (b := 37) (t := 2) rfl rfl).trans ?_
    refine g_congr (fun _ => ?_)
    refine (vr_steps 1 (x' := (81, [(2, v0), (0, v1)], [(0, v1), (2, M v0 37), (0, v1), (2, M v0 11)], (K, M))) rfl).trans ?_
    refine (v_ald (a := 8) rfl (by decide)).trans ?_
    refine g_congr (fun _ => ?_)
    refine (v_ast rfl).trans ?_
    refine g_congr (fun _ => ?_)
    exact vr_steps 2 rfl

noncomputable def c_X7_count : Nat → Option dI := d_mcode m_X7_count
set_option maxRecDepth 100000 in
theorem e_X7_count_0 {sc : dS} {d : Nat} {K : List (Nat × Nat)} {M : dM} {v0 v1 : Int} : vr sc d c_X7_count (0, [(2, v0), (0, v1)], [], (K, M)) = ((vc sc d 114 [(1, v1), (1, 0), (1, 5)] (K, M)).bind (fun r => vr sc d c_X7_count (9, [(2, v0), (0, v1)], r.1 ++ [], r.2))) := by
  refine (vr_steps 4 (x' := (6, [(2, v0), (0, v1)], [(1, 5), (1, 0), (1, v1)], (K, M))) rfl).trans ?_
  exact (v_stat (k := 114) (n := 3) (code := c_X7_count) (pc := 6) (len := 3) (L := [(2, v0), (0, v1)]) (st := [(1, 5), (1, 0), (1, v1)]) rfl (Nat.le_of_ble_eq_true rfl) (Nat.le_of_ble_eq_true rfl)).trans rfl
set_option maxRecDepth 100000 in
theorem e_X7_count_9 {sc : dS} {d : Nat} {K : List (Nat × Nat)} {M : dM} {v0 v1 s0 : Int} : vr sc d c_X7_count (9, [(2, v0), (0, v1)], [(0, s0)], (K, M)) = (if ¬ s0 = 0 then (if ¬ v1 = 0 then (if ¬ v1 = 1 then (if ¬ v1 = 2 then (if ¬ v1 = 3 then (if ¬ v1 = 4 then (if og K 7 v0 4 = true then some ([(0, M v0 4)], (K, M)) else none) else (if og K 7 v0 6 = true then some ([(0, M v0 6)], (K, M)) else none)) else (if og K 7 v0 3 = true then some ([(0, M v0 3)], (K, M)) else none)) else (if og K 7 v0 7 = true then some ([(0, M v0 7)], (K, M)) else none)) else (if rg K 7 v0 = true then (vc sc d 174 [(2, v0)] (K, M)).bind (fun r => vr sc d c_X7_count (35, [(2, v0), (0, v1)], r.1 ++ [], r.2)) else none)) else (if og K 7 v0 12 = true then some ([(0, M v0 12)], (K, M)) else none)) else some ([(0, (-2))], (K, M))) := by
  refine (v_if (k := 1) (b := 15) (c := ¬ s0 = 0) rfl rfl).trans ?_
  refine c_congr (fun _ => ?_) (fun _ => ?_)
  · refine (vr_steps 1 (x' := (16, [(2, v0), (0, v1)], [(0, v1)], (K, M))) rfl).trans ?_
    refine (v_if (k := 1) (b := 26) (c := ¬ v1 = 0) rfl rfl).trans ?_
    refine c_congr (fun _ => ?_) (fun _ => ?_)
    · refine (vr_steps 2 (x' := (28, [(2, v0), (0, v1)], [(0, 1), (0, v1)], (K, M))) rfl).trans ?_
      refine (v_icmp (k := 1) (b := 41) (c := ¬ v1 = 1) rfl rfl).trans ?_
      refine c_congr (fun _ => ?_) (fun _ => ?_)
      · refine (vr_steps 2 (x' := (43, [(2, v0), (0, v1)], [(0, 2), (0, v1)], (K, M))) rfl).trans ?_
        refine (v_icmp (k := 1) (b := 53) (c := ¬ v1 = 2) rfl rfl).trans ?_
        refine c_congr (fun _ => ?_) (fun _ => ?_)
        · refine (vr_steps 2 (x' := (55, [(2, v0), (0, v1)], [(0, 3), (0, v1)], (K, M))) rfl).trans ?_
          refine (v_icmp (k := 1) (b := 65) (c := ¬ v1 = 3) rfl rfl).trans ?_
          refine c_congr (fun _ => ?_) (fun _ => ?_)
          · refine (vr_steps 2 (x' := (67, [(2, v0), (0, v1)], [(0, 4), (0, v1)], (K, M))) rfl).trans ?_
            refine (v_icmp (k := 1) (b := 77) (c := ¬ v1 = 4) rfl rfl).trans ?_
            refine c_congr (fun _ => ?_) (fun _ => ?_)
            · refine (vr_steps 1 (x' := (78, [(2, v0), (0, v1)], [(2, v0)], (K, M))) rfl).trans ?_
              refine (v_getf (a := 7) (b := 4) (t := 0) rfl rfl).trans ?_
              refine g_congr (fun _ => ?_)
              exact vr_ret (ai := (35, 1, 1, 0, [])) rfl rfl
            · refine (vr_steps 1 (x' := (71, [(2, v0), (0, v1)], [(2, v0)], (K, M))) rfl).trans ?_
              refine (v_getf (a := 7) (b := 6) (t := 0) rfl rfl).trans ?_
              refine g_congr (fun _ => ?_)
              refine (vr_steps 1 (x' := (81, [(2, v0), (0, v1)], [(0, M v0 6)], (K, M))) rfl).trans ?_
              exact vr_ret (ai := (35, 1, 1, 0, [])) rfl rfl
          · refine (vr_steps 1 (x' := (59, [(2, v0), (0, v1)], [(2, v0)], (K, M))) rfl).trans ?_
            refine (v_getf (a := 7) (b := 3) (t := 0) rfl rfl).trans ?_
            refine g_congr (fun _ => ?_)
            refine (vr_steps 1 (x' := (81, [(2, v0), (0, v1)], [(0, M v0 3)], (K, M))) rfl).trans ?_
            exact vr_ret (ai := (35, 1, 1, 0, [])) rfl rfl
        · refine (vr_steps 1 (x' := (47, [(2, v0), (0, v1)], [(2, v0)], (K, M))) rfl).trans ?_
          refine (v_getf (a := 7) (b := 7) (t := 0) rfl rfl).trans ?_
          refine g_congr (fun _ => ?_)
          refine (vr_steps 1 (x' := (81, [(2, v0), (0, v1)], [(0, M v0 7)], (K, M))) rfl).trans ?_
          exact vr_ret (ai := (35, 1, 1, 0, [])) rfl rfl
      · refine (vr_steps 1 (x' := (32, [(2, v0), (0, v1)], [(2, v0)], (K, M))) rfl).trans ?_
        exact (v_virt (k := 174) (n := 1) (tag := 7) (r := v0) (av := []) (code := c_X7_count) (pc := 32) (len := 3) (L := [(2, v0), (0, v1)]) (st := [(2, v0)]) rfl (Nat.le_of_ble_eq_true rfl) (Nat.le_of_ble_eq_true rfl) rfl).trans rfl
    · refine (vr_steps 1 (x' := (20, [(2, v0), (0, v1)], [(2, v0)], (K, M))) rfl).trans ?_
      refine (v_getf (a := 7) (b := 12) (t := 0) rfl rfl).trans ?_
      refine g_congr (fun _ => ?_)
      refine (vr_steps 1 (x' := (81, [(2, v0), (0, v1)], [(0, M v0 12)], (K, M))) rfl).trans ?_
      exact vr_ret (ai := (35, 1, 1, 0, [])) rfl rfl
  · refine (vr_steps 1 (x' := (14, [(2, v0), (0, v1)], [(0, (-2))], (K, M))) rfl).trans ?_
    exact vr_ret (ai := (35, 1, 1, 0, [])) rfl rfl
set_option maxRecDepth 100000 in
theorem e_X7_count_35 {sc : dS} {d : Nat} {K : List (Nat × Nat)} {M : dM} {v0 v1 s0 : Int} : vr sc d c_X7_count (35, [(2, v0), (0, v1)], [(0, s0)], (K, M)) = ((vc sc d 175 [(0, s0)] (K, M)).bind (fun r => vr sc d c_X7_count (38, [(2, v0), (0, v1)], r.1 ++ [], r.2))) := by
  exact (v_stat (k := 175) (n := 1) (code := c_X7_count) (pc := 35) (len := 3) (L := [(2, v0), (0, v1)]) (st := [(0, s0)]) rfl (Nat.le_of_ble_eq_true rfl) (Nat.le_of_ble_eq_true rfl)).trans rfl
set_option maxRecDepth 100000 in
theorem e_X7_count_38 {sc : dS} {d : Nat} {K : List (Nat × Nat)} {M : dM} {v0 v1 s0 : Int} : vr sc d c_X7_count (38, [(2, v0), (0, v1)], [(0, s0)], (K, M)) = (some ([(0, s0)], (K, M))) := by
  refine (vr_steps 1 (x' := (81, [(2, v0), (0, v1)], [(0, s0)], (K, M))) rfl).trans ?_
  exact vr_ret (ai := (35, 1, 1, 0, [])) rfl rfl

noncomputable def c_X7_isSheet : Nat → Option dI := d_mcode m_X7_isSheet
set_option maxRecDepth 100000 in
theorem e_X7_isSheet_0 {sc : dS} {d : Nat} {K : List (Nat × Nat)} {M : dM} {v0 : Int} : vr sc d c_X7_isSheet (0, [(0, v0)], [], (K, M)) = ((vc sc d 114 [(1, v0), (1, 0), (1, 3)] (K, M)).bind (fun r => vr sc d c_X7_isSheet (9, [(0, v0)], r.1 ++ [], r.2))) := by
  refine (vr_steps 4 (x' := (6, [(0, v0)], [(1, 3), (1, 0), (1, v0)], (K, M))) rfl).trans ?_
  exact (v_stat (k := 114) (n := 3) (code := c_X7_isSheet) (pc := 6) (len := 3) (L := [(0, v0)]) (st := [(1, 3), (1, 0), (1, v0)]) rfl (Nat.le_of_ble_eq_true rfl) (Nat.le_of_ble_eq_true rfl)).trans rfl
set_option maxRecDepth 100000 in
theorem e_X7_isSheet_9 {sc : dS} {d : Nat} {K : List (Nat × Nat)} {M : dM} {v0 s0 : Int} : vr sc d c_X7_isSheet (9, [(0, v0)], [(0, s0)], (K, M)) = (d_ret 3 [(0, s0)] (K, M)) := by
  exact vr_ret (ai := (35, 1, 3, 0, [])) rfl rfl

noncomputable def c_X7_sheet : Nat → Option dI := d_mcode m_X7_sheet
set_option maxRecDepth 100000 in
theorem e_X7_sheet_0 {sc : dS} {d : Nat} {K : List (Nat × Nat)} {M : dM} {v0 v1 v2 v3 : Int} {q4 : dV} : vr sc d c_X7_sheet (0, [(2, v0), (0, v1), (0, v2), (0, v3), q4], [], (K, M)) = ((vc sc d 196 [(0, v1)] (K, M)).bind (fun r => vr sc d c_X7_sheet (4, [(2, v0), (0, v1), (0, v2), (0, v3), q4], r.1 ++ [], r.2))) := by
  refine (vr_steps 1 (x' := (1, [(2, v0), (0, v1), (0, v2), (0, v3), q4], [(0, v1)], (K, M))) rfl).trans ?_
  exact (v_stat (k := 196) (n := 1) (code := c_X7_sheet) (pc := 1) (len := 3) (L := [(2, v0), (0, v1), (0, v2), (0, v3), q4]) (st := [(0, v1)]) rfl (Nat.le_of_ble_eq_true rfl) (Nat.le_of_ble_eq_true rfl)).trans rfl
set_option maxRecDepth 100000 in
theorem e_X7_sheet_4 {sc : dS} {d : Nat} {K : List (Nat × Nat)} {M : dM} {v0 v1 v2 v3 s0 : Int} {q4 : dV} : vr sc d c_X7_sheet (4, [(2, v0), (0, v1), (0, v2), (0, v3), q4], [(0, s0)], (K, M)) = (if s0 = 0 then some ([(0, (-2))], (K, M)) else (vc sc d 114 [(1, v2), (1, (-1)), (1, 2)] (K, M)).bind (fun r => vr sc d c_X7_sheet (18, [(2, v0), (0, v1), (0, v2), (0, v3), q4], r.1 ++ [], r.2))) := by
  refine (v_if (k := 0) (b := 31) (c := s0 = 0) rfl rfl).trans ?_
  refine c_congr (fun _ => ?_) (fun _ => ?_)
  · refine (vr_steps 1 (x' := (33, [(2, v0), (0, v1), (0, v2), (0, v3), q4], [(0, (-2))], (K, M))) rfl).trans ?_
    exact vr_ret (ai := (35, 1, 1, 0, [])) rfl rfl
  · refine (vr_steps 4 (x' := (15, [(2, v0), (0, v1), (0, v2), (0, v3), q4], [(1, 2), (1, (-1)), (1, v2)], (K, M))) rfl).trans ?_
    exact (v_stat (k := 114) (n := 3) (code := c_X7_sheet) (pc := 15) (len := 3) (L := [(2, v0), (0, v1), (0, v2), (0, v3), q4]) (st := [(1, 2), (1, (-1)), (1, v2)]) rfl (Nat.le_of_ble_eq_true rfl) (Nat.le_of_ble_eq_true rfl)).trans rfl
set_option maxRecDepth 100000 in
theorem e_X7_sheet_18 {sc : dS} {d : Nat} {K : List (Nat × Nat)} {M : dM} {v0 v1 v2 v3 s0 : Int} {q4 : dV} : vr sc d c_X7_sheet (18, [(2, v0), (0, v1), (0, v2), (0, v3), q4], [(0, s0)], (K, M)) = (if s0 = 0 then some ([(0, (-2))], (K, M)) else (if v2 < 0 then (if v2 < 0 then vr sc d c_X7_sheet (45, [(2, v0), (0, v1), (0, v2), (0, v3), q4], [], (K, M)) else (if 0 ≤ v3 then vr sc d c_X7_sheet (45, [(2, v0), (0, v1), (0, v2), (0, v3), q4], [], (K, M)) else some ([(0, (-14))], (K, M)))) else (if v3 ≤ 40 then (if v2 < 0 then vr sc d c_X7_sheet (45, [(2, v0), (0, v1), (0, v2), (0, v3), q4], [], (K, M)) else (if 0 ≤ v3 then vr sc d c_X7_sheet (45, [(2, v0), (0, v1), (0, v2), (0, v3), q4], [], (K, M)) else some ([(0, (-14))], (K, M)))) else some ([(0, (-2))], (K, M))))) := by
  refine (v_if (k := 0) (b := 31) (c := s0 = 0) rfl rfl).trans ?_
  refine c_congr (fun _ => ?_) (fun _ => ?_)
  · refine (vr_steps 1 (x' := (33, [(2, v0), (0, v1), (0, v2), (0, v3), q4], [(0, (-2))], (K, M))) rfl).trans ?_
    exact vr_ret (ai := (35, 1, 1, 0, [])) rfl rfl
  · refine (vr_steps 1 (x' := (22, [(2, v0), (0, v1), (0, v2), (0, v3), q4], [(0, v2)], (K, M))) rfl).trans ?_
    refine (v_if (k := 2) (b := 34) (c := v2 < 0) rfl rfl).trans ?_
    refine c_congr (fun _ => ?_) (fun _ => ?_)
    · refine (vr_steps 1 (x' := (35, [(2, v0), (0, v1), (0, v2), (0, v3), q4], [(0, v2)], (K, M))) rfl).trans ?_
      refine (v_if (k := 2) (b := 45) (c := v2 < 0) rfl rfl).trans ?_
      refine c_congr (fun _ => ?_) (fun _ => ?_)
      · rfl
      · refine (vr_steps 1 (x' := (39, [(2, v0), (0, v1), (0, v2), (0, v3), q4], [(0, v3)], (K, M))) rfl).trans ?_
        refine (v_if (k := 3) (b := 45) (c := 0 ≤ v3) rfl rfl).trans ?_
        refine c_congr (fun _ => ?_) (fun _ => ?_)
        · rfl
        · refine (vr_steps 1 (x' := (44, [(2, v0), (0, v1), (0, v2), (0, v3), q4], [(0, (-14))], (K, M))) rfl).trans ?_
          exact vr_ret (ai := (35, 1, 1, 0, [])) rfl rfl
    · refine (vr_steps 2 (x' := (28, [(2, v0), (0, v1), (0, v2), (0, v3), q4], [(0, 40), (0, v3)], (K, M))) rfl).trans ?_
      refine (v_icmp (k := 5) (b := 34) (c := v3 ≤ 40) rfl rfl).trans ?_
      refine c_congr (fun _ => ?_) (fun _ => ?_)
      · refine (vr_steps 1 (x' := (35, [(2, v0), (0, v1), (0, v2), (0, v3), q4], [(0, v2)], (K, M))) rfl).trans ?_
        refine (v_if (k := 2) (b := 45) (c := v2 < 0) rfl rfl).trans ?_
        refine c_congr (fun _ => ?_) (fun _ => ?_)
        · rfl
        · refine (vr_steps 1 (x' := (39, [(2, v0), (0, v1), (0, v2), (0, v3), q4], [(0, v3)], (K, M))) rfl).trans ?_
          refine (v_if (k := 3) (b := 45) (c := 0 ≤ v3) rfl rfl).trans ?_
          refine c_congr (fun _ => ?_) (fun _ => ?_)
          · rfl
          · refine (vr_steps 1 (x' := (44, [(2, v0), (0, v1), (0, v2), (0, v3), q4], [(0, (-14))], (K, M))) rfl).trans ?_
            exact vr_ret (ai := (35, 1, 1, 0, [])) rfl rfl
      · refine (vr_steps 1 (x' := (33, [(2, v0), (0, v1), (0, v2), (0, v3), q4], [(0, (-2))], (K, M))) rfl).trans ?_
        exact vr_ret (ai := (35, 1, 1, 0, [])) rfl rfl
set_option maxRecDepth 100000 in
theorem e_X7_sheet_45 {sc : dS} {d : Nat} {K : List (Nat × Nat)} {M : dM} {v0 v1 v2 v3 : Int} {q4 : dV} : vr sc d c_X7_sheet (45, [(2, v0), (0, v1), (0, v2), (0, v3), q4], [], (K, M)) = (if og K 7 v0 42 = true then (if v2 < 0 then (if ag K 9 (M v0 42) v1 = true then (if 0 = 0 ∨ 0 = 1 then (if og K 7 v0 43 = true then (if ag K 8 ((d_up M (M v0 42) v1 0) v0 43) v1 = true then (if og K 7 v0 44 = true then (if ag K 8 ((d_up (d_up M (M v0 42) v1 0) ((d_up M (M v0 42) v1 0) v0 43) v1 v2) v0 44) v1 = true then vr sc d c_X7_sheet (77, [(2, v0), (0, v1), (0, v2), (0, v3), (0, 0)], [], (K, d_up (d_up (d_up M (M v0 42) v1 0) ((d_up M (M v0 42) v1 0) v0 43) v1 v2) ((d_up (d_up M (M v0 42) v1 0) ((d_up M (M v0 42) v1 0) v0 43) v1 v2) v0 44) v1 v3)) else none) else none) else none) else none) else none) else none) else (if ag K 9 (M v0 42) v1 = true then (if 1 = 0 ∨ 1 = 1 then (if og K 7 v0 43 = true then (if ag K 8 ((d_up M (M v0 42) v1 1) v0 43) v1 = true then (if og K 7 v0 44 = true then (if ag K 8 ((d_up (d_up M (M v0 42) v1 1) ((d_up M (M v0 42) v1 1) v0 43) v1 v2) v0 44) v1 = true then vr sc d c_X7_sheet (77, [(2, v0), (0, v1), (0, v2), (0, v3), (0, 0)], [], (K, d_up (d_up (d_up M (M v0 42) v1 1) ((d_up M (M v0 42) v1 1) v0 43) v1 v2) ((d_up (d_up M (M v0 42) v1 1) ((d_up M (M v0 42) v1 1) v0 43) v1 v2) v0 44) v1 v3)) else none) else none) else none) else none) else none) else none)) else none) := by
  refine (vr_steps 1 (x' := (46, [(2, v0), (0, v1), (0, v2), (0, v3), q4], [(2, v0)], (K, M))) rfl).trans ?_
  refine (v_getf (a := 7) (b := 42) (t := 2) rfl rfl).trans ?_
  refine g_congr (fun _ => ?_)
  refine (vr_steps 2 (x' := (51, [(2, v0), (0, v1), (0, v2), (0, v3), q4], [(0, v2), (0, v1), (2, M v0 42)], (K, M))) rfl).trans ?_
  refine (v_if (k := 2) (b := 58) (c := v2 < 0) rfl rfl).trans ?_
  refine c_congr (fun _ => ?_) (fun _ => ?_)
  · refine (vr_steps 1 (x' := (59, [(2, v0), (0, v1), (0, v2), (0, v3), q4], [(0, 0), (0, v1), (2, M v0 42)], (K, M))) rfl).trans ?_
    refine (v_astz rfl).trans ?_
    refine g_congr (fun _ => ?_)
    refine p_congr (fun _ => ?_)
    refine (vr_steps 1 (x' := (61, [(2, v0), (0, v1), (0, v2), (0, v3), q4], [(2, v0)], (K, d_up M (M v0 42) v1 0))) rfl).trans ?_
    refine (v_getf (a := 7) (b := 43) (t := 2) rfl rfl).trans ?_
    refine g_congr (fun _ => ?_)
    refine (vr_steps 2 (x' := (66, [(2, v0), (0, v1), (0, v2), (0, v3), q4], [(0, v2), (0, v1), (2, (d_up M (M v0 42) v1 0) v0 43)], (K, d_up M (M v0 42) v1 0))) rfl).trans ?_
    refine (v_ast rfl).trans ?_
    refine g_congr (fun _ => ?_)
    refine (vr_steps 1 (x' := (68, [(2, v0), (0, v1), (0, v2), (0, v3), q4], [(2, v0)], (K, d_up (d_up M (M v0 42) v1 0) ((d_up M (M v0 42) v1 0) v0 43) v1 v2))) rfl).trans ?_
    refine (v_getf (a := 7) (b := 44) (t := 2) rfl rfl).trans ?_
    refine g_congr (fun _ => ?_)
    refine (vr_steps 2 (x' := (73, [(2, v0), (0, v1), (0, v2), (0, v3), q4], [(0, v3), (0, v1), (2, (d_up (d_up M (M v0 42) v1 0) ((d_up M (M v0 42) v1 0) v0 43) v1 v2) v0 44)], (K, d_up (d_up M (M v0 42) v1 0) ((d_up M (M v0 42) v1 0) v0 43) v1 v2))) rfl).trans ?_
    refine (v_ast rfl).trans ?_
    refine g_congr (fun _ => ?_)
    exact vr_steps 2 rfl
  · refine (vr_steps 2 (x' := (59, [(2, v0), (0, v1), (0, v2), (0, v3), q4], [(0, 1), (0, v1), (2, M v0 42)], (K, M))) rfl).trans ?_
    refine (v_astz rfl).trans ?_
    refine g_congr (fun _ => ?_)
    refine p_congr (fun _ => ?_)
    refine (vr_steps 1 (x' := (61, [(2, v0), (0, v1), (0, v2), (0, v3), q4], [(2, v0)], (K, d_up M (M v0 42) v1 1))) rfl).trans ?_
    refine (v_getf (a := 7) (b := 43) (t := 2) rfl rfl).trans ?_
    refine g_congr (fun _ => ?_)
    refine (vr_steps 2 (x' := (66, [(2, v0), (0, v1), (0, v2), (0, v3), q4], [(0, v2), (0, v1), (2, (d_up M (M v0 42) v1 1) v0 43)], (K, d_up M (M v0 42) v1 1))) rfl).trans ?_
    refine (v_ast rfl).trans ?_
    refine g_congr (fun _ => ?_)
    refine (vr_steps 1 (x' := (68, [(2, v0), (0, v1), (0, v2), (0, v3), q4], [(2, v0)], (K, d_up (d_up M (M v0 42) v1 1) ((d_up M (M v0 42) v1 1) v0 43) v1 v2))) rfl).trans ?_
    refine (v_getf (a := 7) (b := 44) (t := 2) rfl rfl).trans ?_
    refine g_congr (fun _ => ?_)
    refine (vr_steps 2 (x' := (73, [(2, v0), (0, v1), (0, v2), (0, v3), q4], [(0, v3), (0, v1), (2, (d_up (d_up M (M v0 42) v1 1) ((d_up M (M v0 42) v1 1) v0 43) v1 v2) v0 44)], (K, d_up (d_up M (M v0 42) v1 1) ((d_up M (M v0 42) v1 1) v0 43) v1 v2))) rfl).trans ?_
    refine (v_ast rfl).trans ?_
    refine g_congr (fun _ => ?_)
    exact vr_steps 2 rfl
set_option maxRecDepth 100000 in
theorem e_X7_sheet_77 {sc : dS} {d : Nat} {K : List (Nat × Nat)} {M : dM} {v0 v1 v2 v3 v4 : Int} : vr sc d c_X7_sheet (77, [(2, v0), (0, v1), (0, v2), (0, v3), (0, v4)], [], (K, M)) = (if v3 ≤ v4 then some ([(0, 1)], (K, M)) else (if v2 < 0 then some ([(0, 1)], (K, M)) else (if og K 7 v0 45 = true then (if ag K 8 (M v0 45) (w32 ((w32 (40 * v1)) + v4)) = true then vr sc d c_X7_sheet (77, [(2, v0), (0, v1), (0, v2), (0, v3), (0, w32 (v4 + 1))], [], (K, d_up M (M v0 45) (w32 ((w32 (40 * v1)) + v4)) 0)) else none) else none))) := by
  refine (vr_steps 2 (x' := (80, [(2, v0), (0, v1), (0, v2), (0, v3), (0, v4)], [(0, v3), (0, v4)], (K, M))) rfl).trans ?_
  refine (v_icmp (k := 3) (b := 106) (c := v3 ≤ v4) rfl rfl).trans ?_
  refine c_congr (fun _ => ?_) (fun _ => ?_)
  · refine (vr_steps 1 (x' := (107, [(2, v0), (0, v1), (0, v2), (0, v3), (0, v4)], [(0, 1)], (K, M))) rfl).trans ?_
    exact vr_ret (ai := (35, 1, 1, 0, [])) rfl rfl
  · refine (vr_steps 1 (x' := (84, [(2, v0), (0, v1), (0, v2), (0, v3), (0, v4)], [(0, v2)], (K, M))) rfl).trans ?_
    refine (v_if (k := 2) (b := 106) (c := v2 < 0) rfl rfl).trans ?_
    refine c_congr (fun _ => ?_) (fun _ => ?_)
    · refine (vr_steps 1 (x' := (107, [(2, v0), (0, v1), (0, v2), (0, v3), (0, v4)], [(0, 1)], (K, M))) rfl).trans ?_
      exact vr_ret (ai := (35, 1, 1, 0, [])) rfl rfl
    · refine (vr_steps 1 (x' := (88, [(2, v0), (0, v1), (0, v2), (0, v3), (0, v4)], [(2, v0)], (K, M))) rfl).trans ?_
      refine (v_getf (a := 7) (b := 45) (t := 2) rfl rfl).trans ?_
      refine g_congr (fun _ => ?_)
      refine (vr_steps 6 (x' := (99, [(2, v0), (0, v1), (0, v2), (0, v3), (0, v4)], [(0, 0), (0, w32 ((w32 (40 * v1)) + v4)), (2, M v0 45)], (K, M))) rfl).trans ?_
      refine (v_ast rfl).trans ?_
      refine g_congr (fun _ => ?_)
      exact vr_steps 2 rfl

noncomputable def c_X7_cell : Nat → Option dI := d_mcode m_X7_cell
set_option maxRecDepth 100000 in
theorem e_X7_cell_0 {sc : dS} {d : Nat} {K : List (Nat × Nat)} {M : dM} {v0 v1 v2 v3 : Int} : vr sc d c_X7_cell (0, [(2, v0), (0, v1), (0, v2), (0, v3)], [], (K, M)) = ((vc sc d 196 [(0, v1)] (K, M)).bind (fun r => vr sc d c_X7_cell (4, [(2, v0), (0, v1), (0, v2), (0, v3)], r.1 ++ [], r.2))) := by
  refine (vr_steps 1 (x' := (1, [(2, v0), (0, v1), (0, v2), (0, v3)], [(0, v1)], (K, M))) rfl).trans ?_
  exact (v_stat (k := 196) (n := 1) (code := c_X7_cell) (pc := 1) (len := 3) (L := [(2, v0), (0, v1), (0, v2), (0, v3)]) (st := [(0, v1)]) rfl (Nat.le_of_ble_eq_true rfl) (Nat.le_of_ble_eq_true rfl)).trans rfl
set_option maxRecDepth 100000 in
theorem e_X7_cell_4 {sc : dS} {d : Nat} {K : List (Nat × Nat)} {M : dM} {v0 v1 v2 v3 s0 : Int} : vr sc d c_X7_cell (4, [(2, v0), (0, v1), (0, v2), (0, v3)], [(0, s0)], (K, M)) = (if ¬ s0 = 0 then (if og K 7 v0 42 = true then (if ag K 9 (M v0 42) v1 = true then (if ¬ (M (M v0 42) v1) = 0 then (if og K 7 v0 44 = true then (if ag K 8 (M v0 44) v1 = true then (vc sc d 114 [(1, v2), (1, 0), (1, w32 ((M (M v0 44) v1) - 1))] (K, M)).bind (fun r => vr sc d c_X7_cell (37, [(2, v0), (0, v1), (0, v2), (0, v3)], r.1 ++ [], r.2)) else none) else none) else some ([(0, (-11))], (K, M))) else none) else none) else some ([(0, (-2))], (K, M))) := by
  refine (v_if (k := 1) (b := 10) (c := ¬ s0 = 0) rfl rfl).trans ?_
  refine c_congr (fun _ => ?_) (fun _ => ?_)
  · refine (vr_steps 1 (x' := (11, [(2, v0), (0, v1), (0, v2), (0, v3)], [(2, v0)], (K, M))) rfl).trans ?_
    refine (v_getf (a := 7) (b := 42) (t := 2) rfl rfl).trans ?_
    refine g_congr (fun _ => ?_)
    refine (vr_steps 1 (x' := (15, [(2, v0), (0, v1), (0, v2), (0, v3)], [(0, v1), (2, M v0 42)], (K, M))) rfl).trans ?_
    refine (v_ald (a := 9) rfl (by decide)).trans ?_
    refine g_congr (fun _ => ?_)
    refine (v_if (k := 1) (b := 22) (c := ¬ (M (M v0 42) v1) = 0) rfl rfl).trans ?_
    refine c_congr (fun _ => ?_) (fun _ => ?_)
    · refine (vr_steps 4 (x' := (26, [(2, v0), (0, v1), (0, v2), (0, v3)], [(2, v0), (1, 0), (1, v2)], (K, M))) rfl).trans ?_
      refine (v_getf (a := 7) (b := 44) (t := 2) rfl rfl).trans ?_
      refine g_congr (fun _ => ?_)
      refine (vr_steps 1 (x' := (30, [(2, v0), (0, v1), (0, v2), (0, v3)], [(0, v1), (2, M v0 44), (1, 0), (1, v2)], (K, M))) rfl).trans ?_
      refine (v_ald (a := 8) rfl (by decide)).trans ?_
      refine g_congr (fun _ => ?_)
      refine (vr_steps 3 (x' := (34, [(2, v0), (0, v1), (0, v2), (0, v3)], [(1, w32 ((M (M v0 44) v1) - 1)), (1, 0), (1, v2)], (K, M))) rfl).trans ?_
      exact (v_stat (k := 114) (n := 3) (code := c_X7_cell) (pc := 34) (len := 3) (L := [(2, v0), (0, v1), (0, v2), (0, v3)]) (st := [(1, w32 ((M (M v0 44) v1) - 1)), (1, 0), (1, v2)]) rfl (Nat.le_of_ble_eq_true rfl) (Nat.le_of_ble_eq_true rfl)).trans rfl
    · refine (vr_steps 1 (x' := (21, [(2, v0), (0, v1), (0, v2), (0, v3)], [(0, (-11))], (K, M))) rfl).trans ?_
      exact vr_ret (ai := (35, 1, 1, 0, [])) rfl rfl
  · refine (vr_steps 1 (x' := (9, [(2, v0), (0, v1), (0, v2), (0, v3)], [(0, (-2))], (K, M))) rfl).trans ?_
    exact vr_ret (ai := (35, 1, 1, 0, [])) rfl rfl
set_option maxRecDepth 100000 in
theorem e_X7_cell_37 {sc : dS} {d : Nat} {K : List (Nat × Nat)} {M : dM} {v0 v1 v2 v3 s0 : Int} : vr sc d c_X7_cell (37, [(2, v0), (0, v1), (0, v2), (0, v3)], [(0, s0)], (K, M)) = (if ¬ s0 = 0 then (if og K 7 v0 45 = true then (if og K 7 v0 43 = true then (if ag K 8 (M v0 43) v1 = true then (if ¬ (M (M v0 43) v1) = 0 then (if og K 7 v0 43 = true then (if ag K 8 (M v0 43) v1 = true then (if ¬ (M (M v0 43) v1) = 1 then (if ag K 8 (M v0 45) (w32 ((w32 (40 * v1)) + v2)) = true then some ([(0, 1)], (K, d_up M (M v0 45) (w32 ((w32 (40 * v1)) + v2)) v3)) else none) else (if ag K 8 (M v0 45) (w32 ((w32 (40 * v1)) + v2)) = true then some ([(0, 1)], (K, d_up M (M v0 45) (w32 ((w32 (40 * v1)) + v2)) (i_s v3))) else none)) else none) else none) else (if ag K 8 (M v0 45) (w32 ((w32 (40 * v1)) + v2)) = true then some ([(0, 1)], (K, d_up M (M v0 45) (w32 ((w32 (40 * v1)) + v2)) (i_b v3))) else none)) else none) else none) else none) else some ([(0, (-12))], (K, M))) := by
  refine (v_if (k := 1) (b := 43) (c := ¬ s0 = 0) rfl rfl).trans ?_
  refine c_congr (fun _ => ?_) (fun _ => ?_)
  · refine (vr_steps 1 (x' := (44, [(2, v0), (0, v1), (0, v2), (0, v3)], [(2, v0)], (K, M))) rfl).trans ?_
    refine (v_getf (a := 7) (b := 45) (t := 2) rfl rfl).trans ?_
    refine g_congr (fun _ => ?_)
    refine (vr_steps 6 (x' := (54, [(2, v0), (0, v1), (0, v2), (0, v3)], [(2, v0), (0, w32 ((w32 (40 * v1)) + v2)), (2, M v0 45)], (K, M))) rfl).trans ?_
    refine (v_getf (a := 7) (b := 43) (t := 2) rfl rfl).trans ?_
    refine g_congr (fun _ => ?_)
    refine (vr_steps 1 (x' := (58, [(2, v0), (0, v1), (0, v2), (0, v3)], [(0, v1), (2, M v0 43), (0, w32 ((w32 (40 * v1)) + v2)), (2, M v0 45)], (K, M))) rfl).trans ?_
    refine (v_ald (a := 8) rfl (by decide)).trans ?_
    refine g_congr (fun _ => ?_)
    refine (v_if (k := 1) (b := 67) (c := ¬ (M (M v0 43) v1) = 0) rfl rfl).trans ?_
    refine c_congr (fun _ => ?_) (fun _ => ?_)
    · refine (vr_steps 1 (x' := (68, [(2, v0), (0, v1), (0, v2), (0, v3)], [(2, v0), (0, w32 ((w32 (40 * v1)) + v2)), (2, M v0 45)], (K, M))) rfl).trans ?_
      refine (v_getf (a := 7) (b := 43) (t := 2) rfl rfl).trans ?_
      refine g_congr (fun _ => ?_)
      refine (vr_steps 1 (x' := (72, [(2, v0), (0, v1), (0, v2), (0, v3)], [(0, v1), (2, M v0 43), (0, w32 ((w32 (40 * v1)) + v2)), (2, M v0 45)], (K, M))) rfl).trans ?_
      refine (v_ald (a := 8) rfl (by decide)).trans ?_
      refine g_congr (fun _ => ?_)
      refine (vr_steps 1 (x' := (74, [(2, v0), (0, v1), (0, v2), (0, v3)], [(0, 1), (0, M (M v0 43) v1), (0, w32 ((w32 (40 * v1)) + v2)), (2, M v0 45)], (K, M))) rfl).trans ?_
      refine (v_icmp (k := 1) (b := 82) (c := ¬ (M (M v0 43) v1) = 1) rfl rfl).trans ?_
      refine c_congr (fun _ => ?_) (fun _ => ?_)
      · refine (vr_steps 1 (x' := (83, [(2, v0), (0, v1), (0, v2), (0, v3)], [(0, v3), (0, w32 ((w32 (40 * v1)) + v2)), (2, M v0 45)], (K, M))) rfl).trans ?_
        refine (v_ast rfl).trans ?_
        refine g_congr (fun _ => ?_)
        refine (vr_steps 1 (x' := (85, [(2, v0), (0, v1), (0, v2), (0, v3)], [(0, 1)], (K, d_up M (M v0 45) (w32 ((w32 (40 * v1)) + v2)) v3))) rfl).trans ?_
        exact vr_ret (ai := (35, 1, 1, 0, [])) rfl rfl
      · refine (vr_steps 3 (x' := (83, [(2, v0), (0, v1), (0, v2), (0, v3)], [(0, i_s v3), (0, w32 ((w32 (40 * v1)) + v2)), (2, M v0 45)], (K, M))) rfl).trans ?_
        refine (v_ast rfl).trans ?_
        refine g_congr (fun _ => ?_)
        refine (vr_steps 1 (x' := (85, [(2, v0), (0, v1), (0, v2), (0, v3)], [(0, 1)], (K, d_up M (M v0 45) (w32 ((w32 (40 * v1)) + v2)) (i_s v3)))) rfl).trans ?_
        exact vr_ret (ai := (35, 1, 1, 0, [])) rfl rfl
    · refine (vr_steps 3 (x' := (83, [(2, v0), (0, v1), (0, v2), (0, v3)], [(0, i_b v3), (0, w32 ((w32 (40 * v1)) + v2)), (2, M v0 45)], (K, M))) rfl).trans ?_
      refine (v_ast rfl).trans ?_
      refine g_congr (fun _ => ?_)
      refine (vr_steps 1 (x' := (85, [(2, v0), (0, v1), (0, v2), (0, v3)], [(0, 1)], (K, d_up M (M v0 45) (w32 ((w32 (40 * v1)) + v2)) (i_b v3)))) rfl).trans ?_
      exact vr_ret (ai := (35, 1, 1, 0, [])) rfl rfl
  · refine (vr_steps 1 (x' := (42, [(2, v0), (0, v1), (0, v2), (0, v3)], [(0, (-12))], (K, M))) rfl).trans ?_
    exact vr_ret (ai := (35, 1, 1, 0, [])) rfl rfl

noncomputable def c_X7_copy : Nat → Option dI := d_mcode m_X7_copy
set_option maxRecDepth 100000 in
theorem e_X7_copy_0 {sc : dS} {d : Nat} {K : List (Nat × Nat)} {M : dM} {v0 v1 v2 v3 v4 v5 : Int} {q6 q7 q8 : dV} : vr sc d c_X7_copy (0, [(2, v0), (0, v1), (0, v2), (0, v3), (0, v4), (0, v5), q6, q7, q8], [], (K, M)) = ((vc sc d 196 [(0, v1)] (K, M)).bind (fun r => vr sc d c_X7_copy (4, [(2, v0), (0, v1), (0, v2), (0, v3), (0, v4), (0, v5), q6, q7, q8], r.1 ++ [], r.2))) := by
  refine (vr_steps 1 (x' := (1, [(2, v0), (0, v1), (0, v2), (0, v3), (0, v4), (0, v5), q6, q7, q8], [(0, v1)], (K, M))) rfl).trans ?_
  exact (v_stat (k := 196) (n := 1) (code := c_X7_copy) (pc := 1) (len := 3) (L := [(2, v0), (0, v1), (0, v2), (0, v3), (0, v4), (0, v5), q6, q7, q8]) (st := [(0, v1)]) rfl (Nat.le_of_ble_eq_true rfl) (Nat.le_of_ble_eq_true rfl)).trans rfl
set_option maxRecDepth 100000 in
theorem e_X7_copy_4 {sc : dS} {d : Nat} {K : List (Nat × Nat)} {M : dM} {v0 v1 v2 v3 v4 v5 s0 : Int} {q6 q7 q8 : dV} : vr sc d c_X7_copy (4, [(2, v0), (0, v1), (0, v2), (0, v3), (0, v4), (0, v5), q6, q7, q8], [(0, s0)], (K, M)) = (if s0 = 0 then some ([(0, (-2))], (K, M)) else (vc sc d 196 [(0, v3)] (K, M)).bind (fun r => vr sc d c_X7_copy (11, [(2, v0), (0, v1), (0, v2), (0, v3), (0, v4), (0, v5), q6, q7, q8], r.1 ++ [], r.2))) := by
  refine (v_if (k := 0) (b := 14) (c := s0 = 0) rfl rfl).trans ?_
  refine c_congr (fun _ => ?_) (fun _ => ?_)
  · refine (vr_steps 1 (x' := (16, [(2, v0), (0, v1), (0, v2), (0, v3), (0, v4), (0, v5), q6, q7, q8], [(0, (-2))], (K, M))) rfl).trans ?_
    exact vr_ret (ai := (35, 1, 1, 0, [])) rfl rfl
  · refine (vr_steps 1 (x' := (8, [(2, v0), (0, v1), (0, v2), (0, v3), (0, v4), (0, v5), q6, q7, q8], [(0, v3)], (K, M))) rfl).trans ?_
    exact (v_stat (k := 196) (n := 1) (code := c_X7_copy) (pc := 8) (len := 3) (L := [(2, v0), (0, v1), (0, v2), (0, v3), (0, v4), (0, v5), q6, q7, q8]) (st := [(0, v3)]) rfl (Nat.le_of_ble_eq_true rfl) (Nat.le_of_ble_eq_true rfl)).trans rfl
set_option maxRecDepth 100000 in
theorem e_X7_copy_11 {sc : dS} {d : Nat} {K : List (Nat × Nat)} {M : dM} {v0 v1 v2 v3 v4 v5 s0 : Int} {q6 q7 q8 : dV} : vr sc d c_X7_copy (11, [(2, v0), (0, v1), (0, v2), (0, v3), (0, v4), (0, v5), q6, q7, q8], [(0, s0)], (K, M)) = (if ¬ s0 = 0 then (if og K 7 v0 42 = true then (if ag K 9 (M v0 42) v1 = true then (if (M (M v0 42) v1) = 0 then some ([(0, (-11))], (K, M)) else (if og K 7 v0 42 = true then (if ag K 9 (M v0 42) v3 = true then (if ¬ (M (M v0 42) v3) = 0 then (if og K 7 v0 43 = true then (if ag K 8 (M v0 43) v1 = true then (if og K 7 v0 43 = true then (if ag K 8 (M v0 43) v3 = true then (if (M (M v0 43) v1) = (M (M v0 43) v3) then (if v5 < 0 then some ([(0, (-12))], (K, M)) else (if v2 < 0 then some ([(0, (-12))], (K, M)) else (if v4 < 0 then some ([(0, (-12))], (K, M)) else (if og K 7 v0 44 = true then (if ag K 8 (M v0 44) v1 = true then (if (w32 ((M (M v0 44) v1) - v5)) < v2 then some ([(0, (-12))], (K, M)) else (if og K 7 v0 44 = true then (if ag K 8 (M v0 44) v3 = true then (if v4 ≤ (w32 ((M (M v0 44) v3) - v5)) then (if ¬ v1 = v3 then vr sc d c_X7_copy (121, [(2, v0), (0, v1), (0, v2), (0, v3), (0, v4), (0, v5), (0, 0), (0, 0), q8], [], (K, M)) else (if v4 ≤ v2 then vr sc d c_X7_copy (121, [(2, v0), (0, v1), (0, v2), (0, v3), (0, v4), (0, v5), (0, 0), (0, 0), q8], [], (K, M)) else vr sc d c_X7_copy (121, [(2, v0), (0, v1), (0, v2), (0, v3), (0, v4), (0, v5), (0, 1), (0, 0), q8], [], (K, M)))) else some ([(0, (-12))], (K, M))) else none) else none)) else none) else none)))) else some ([(0, (-13))], (K, M))) else none) else none) else none) else none) else some ([(0, (-11))], (K, M))) else none) else none)) else none) else none) else some ([(0, (-2))], (K, M))) := by
  refine (v_if (k := 1) (b := 17) (c := ¬ s0 = 0) rfl rfl).trans ?_
  refine c_congr (fun _ => ?_) (fun _ => ?_)
  · refine (vr_steps 1 (x' := (18, [(2, v0), (0, v1), (0, v2), (0, v3), (0, v4), (0, v5), q6, q7, q8], [(2, v0)], (K, M))) rfl).trans ?_
    refine (v_getf (a := 7) (b := 42) (t := 2) rfl rfl).trans ?_
    refine g_congr (fun _ => ?_)
    refine (vr_steps 1 (x' := (22, [(2, v0), (0, v1), (0, v2), (0, v3), (0, v4), (0, v5), q6, q7, q8], [(0, v1), (2, M v0 42)], (K, M))) rfl).trans ?_
    refine (v_ald (a := 9) rfl (by decide)).trans ?_
    refine g_congr (fun _ => ?_)
    refine (v_if (k := 0) (b := 35) (c := (M (M v0 42) v1) = 0) rfl rfl).trans ?_
    refine c_congr (fun _ => ?_) (fun _ => ?_)
    · refine (vr_steps 1 (x' := (37, [(2, v0), (0, v1), (0, v2), (0, v3), (0, v4), (0, v5), q6, q7, q8], [(0, (-11))], (K, M))) rfl).trans ?_
      exact vr_ret (ai := (35, 1, 1, 0, [])) rfl rfl
    · refine (vr_steps 1 (x' := (27, [(2, v0), (0, v1), (0, v2), (0, v3), (0, v4), (0, v5), q6, q7, q8], [(2, v0)], (K, M))) rfl).trans ?_
      refine (v_getf (a := 7) (b := 42) (t := 2) rfl rfl).trans ?_
      refine g_congr (fun _ => ?_)
      refine (vr_steps 1 (x' := (31, [(2, v0), (0, v1), (0, v2), (0, v3), (0, v4), (0, v5), q6, q7, q8], [(0, v3), (2, M v0 42)], (K, M))) rfl).trans ?_
      refine (v_ald (a := 9) rfl (by decide)).trans ?_
      refine g_congr (fun _ => ?_)
      refine (v_if (k := 1) (b := 38) (c := ¬ (M (M v0 42) v3) = 0) rfl rfl).trans ?_
      refine c_congr (fun _ => ?_) (fun _ => ?_)
      · refine (vr_steps 1 (x' := (39, [(2, v0), (0, v1), (0, v2), (0, v3), (0, v4), (0, v5), q6, q7, q8], [(2, v0)], (K, M))) rfl).trans ?_
        refine (v_getf (a := 7) (b := 43) (t := 2) rfl rfl).trans ?_
        refine g_congr (fun _ => ?_)
        refine (vr_steps 1 (x' := (43, [(2, v0), (0, v1), (0, v2), (0, v3), (0, v4), (0, v5), q6, q7, q8], [(0, v1), (2, M v0 43)], (K, M))) rfl).trans ?_
        refine (v_ald (a := 8) rfl (by decide)).trans ?_
        refine g_congr (fun _ => ?_)
        refine (vr_steps 1 (x' := (45, [(2, v0), (0, v1), (0, v2), (0, v3), (0, v4), (0, v5), q6, q7, q8], [(2, v0), (0, M (M v0 43) v1)], (K, M))) rfl).trans ?_
        refine (v_getf (a := 7) (b := 43) (t := 2) rfl rfl).trans ?_
        refine g_congr (fun _ => ?_)
        refine (vr_steps 1 (x' := (49, [(2, v0), (0, v1), (0, v2), (0, v3), (0, v4), (0, v5), q6, q7, q8], [(0, v3), (2, M v0 43), (0, M (M v0 43) v1)], (K, M))) rfl).trans ?_
        refine (v_ald (a := 8) rfl (by decide)).trans ?_
        refine g_congr (fun _ => ?_)
        refine (v_icmp (k := 0) (b := 56) (c := (M (M v0 43) v1) = (M (M v0 43) v3)) rfl rfl).trans ?_
        refine c_congr (fun _ => ?_) (fun _ => ?_)
        · refine (vr_steps 1 (x' := (58, [(2, v0), (0, v1), (0, v2), (0, v3), (0, v4), (0, v5), q6, q7, q8], [(0, v5)], (K, M))) rfl).trans ?_
          refine (v_if (k := 2) (b := 97) (c := v5 < 0) rfl rfl).trans ?_
          refine c_congr (fun _ => ?_) (fun _ => ?_)
          · refine (vr_steps 1 (x' := (99, [(2, v0), (0, v1), (0, v2), (0, v3), (0, v4), (0, v5), q6, q7, q8], [(0, (-12))], (K, M))) rfl).trans ?_
            exact vr_ret (ai := (35, 1, 1, 0, [])) rfl rfl
          · refine (vr_steps 1 (x' := (62, [(2, v0), (0, v1), (0, v2), (0, v3), (0, v4), (0, v5), q6, q7, q8], [(0, v2)], (K, M))) rfl).trans ?_
            refine (v_if (k := 2) (b := 97) (c := v2 < 0) rfl rfl).trans ?_
            refine c_congr (fun _ => ?_) (fun _ => ?_)
            · refine (vr_steps 1 (x' := (99, [(2, v0), (0, v1), (0, v2), (0, v3), (0, v4), (0, v5), q6, q7, q8], [(0, (-12))], (K, M))) rfl).trans ?_
              exact vr_ret (ai := (35, 1, 1, 0, [])) rfl rfl
            · refine (vr_steps 1 (x' := (67, [(2, v0), (0, v1), (0, v2), (0, v3), (0, v4), (0, v5), q6, q7, q8], [(0, v4)], (K, M))) rfl).trans ?_
              refine (v_if (k := 2) (b := 97) (c := v4 < 0) rfl rfl).trans ?_
              refine c_congr (fun _ => ?_) (fun _ => ?_)
              · refine (vr_steps 1 (x' := (99, [(2, v0), (0, v1), (0, v2), (0, v3), (0, v4), (0, v5), q6, q7, q8], [(0, (-12))], (K, M))) rfl).trans ?_
                exact vr_ret (ai := (35, 1, 1, 0, [])) rfl rfl
              · refine (vr_steps 2 (x' := (72, [(2, v0), (0, v1), (0, v2), (0, v3), (0, v4), (0, v5), q6, q7, q8], [(2, v0), (0, v2)], (K, M))) rfl).trans ?_
                refine (v_getf (a := 7) (b := 44) (t := 2) rfl rfl).trans ?_
                refine g_congr (fun _ => ?_)
                refine (vr_steps 1 (x' := (76, [(2, v0), (0, v1), (0, v2), (0, v3), (0, v4), (0, v5), q6, q7, q8], [(0, v1), (2, M v0 44), (0, v2)], (K, M))) rfl).trans ?_
                refine (v_ald (a := 8) rfl (by decide)).trans ?_
                refine g_congr (fun _ => ?_)
                refine (vr_steps 2 (x' := (80, [(2, v0), (0, v1), (0, v2), (0, v3), (0, v4), (0, v5), q6, q7, q8], [(0, w32 ((M (M v0 44) v1) - v5)), (0, v2)], (K, M))) rfl).trans ?_
                refine (v_icmp (k := 4) (b := 97) (c := (w32 ((M (M v0 44) v1) - v5)) < v2) rfl rfl).trans ?_
                refine c_congr (fun _ => ?_) (fun _ => ?_)
                · refine (vr_steps 1 (x' := (99, [(2, v0), (0, v1), (0, v2), (0, v3), (0, v4), (0, v5), q6, q7, q8], [(0, (-12))], (K, M))) rfl).trans ?_
                  exact vr_ret (ai := (35, 1, 1, 0, [])) rfl rfl
                · refine (vr_steps 2 (x' := (86, [(2, v0), (0, v1), (0, v2), (0, v3), (0, v4), (0, v5), q6, q7, q8], [(2, v0), (0, v4)], (K, M))) rfl).trans ?_
                  refine (v_getf (a := 7) (b := 44) (t := 2) rfl rfl).trans ?_
                  refine g_congr (fun _ => ?_)
                  refine (vr_steps 1 (x' := (90, [(2, v0), (0, v1), (0, v2), (0, v3), (0, v4), (0, v5), q6, q7, q8], [(0, v3), (2, M v0 44), (0, v4)], (K, M))) rfl).trans ?_
                  refine (v_ald (a := 8) rfl (by decide)).trans ?_
                  refine g_congr (fun _ => ?_)
                  refine (vr_steps 2 (x' := (94, [(2, v0), (0, v1), (0, v2), (0, v3), (0, v4), (0, v5), q6, q7, q8], [(0, w32 ((M (M v0 44) v3) - v5)), (0, v4)], (K, M))) rfl).trans ?_
                  refine (v_icmp (k := 5) (b := 100) (c := v4 ≤ (w32 ((M (M v0 44) v3) - v5))) rfl rfl).trans ?_
                  refine c_congr (fun _ => ?_) (fun _ => ?_)
                  · refine (vr_steps 2 (x' := (102, [(2, v0), (0, v1), (0, v2), (0, v3), (0, v4), (0, v5), q6, q7, q8], [(0, v3), (0, v1)], (K, M))) rfl).trans ?_
                    refine (v_icmp (k := 1) (b := 115) (c := ¬ v1 = v3) rfl rfl).trans ?_
                    refine c_congr (fun _ => ?_) (fun _ => ?_)
                    · exact vr_steps 4 rfl
                    · refine (vr_steps 2 (x' := (108, [(2, v0), (0, v1), (0, v2), (0, v3), (0, v4), (0, v5), q6, q7, q8], [(0, v4), (0, v2)], (K, M))) rfl).trans ?_
                      refine (v_icmp (k := 3) (b := 115) (c := v4 ≤ v2) rfl rfl).trans ?_
                      refine c_congr (fun _ => ?_) (fun _ => ?_)
                      · exact vr_steps 4 rfl
                      · exact vr_steps 5 rfl
                  · refine (vr_steps 1 (x' := (99, [(2, v0), (0, v1), (0, v2), (0, v3), (0, v4), (0, v5), q6, q7, q8], [(0, (-12))], (K, M))) rfl).trans ?_
                    exact vr_ret (ai := (35, 1, 1, 0, [])) rfl rfl
        · refine (vr_steps 1 (x' := (55, [(2, v0), (0, v1), (0, v2), (0, v3), (0, v4), (0, v5), q6, q7, q8], [(0, (-13))], (K, M))) rfl).trans ?_
          exact vr_ret (ai := (35, 1, 1, 0, [])) rfl rfl
      · refine (vr_steps 1 (x' := (37, [(2, v0), (0, v1), (0, v2), (0, v3), (0, v4), (0, v5), q6, q7, q8], [(0, (-11))], (K, M))) rfl).trans ?_
        exact vr_ret (ai := (35, 1, 1, 0, [])) rfl rfl
  · refine (vr_steps 1 (x' := (16, [(2, v0), (0, v1), (0, v2), (0, v3), (0, v4), (0, v5), q6, q7, q8], [(0, (-2))], (K, M))) rfl).trans ?_
    exact vr_ret (ai := (35, 1, 1, 0, [])) rfl rfl
set_option maxRecDepth 100000 in
theorem e_X7_copy_121 {sc : dS} {d : Nat} {K : List (Nat × Nat)} {M : dM} {v0 v1 v2 v3 v4 v5 v6 v7 : Int} {q8 : dV} : vr sc d c_X7_copy (121, [(2, v0), (0, v1), (0, v2), (0, v3), (0, v4), (0, v5), (0, v6), (0, v7), q8], [], (K, M)) = (if v5 ≤ v7 then some ([(0, v5)], (K, M)) else (if v6 = 0 then (if og K 7 v0 45 = true then (if og K 7 v0 45 = true then (if ag K 8 (M v0 45) (w32 ((w32 ((w32 (40 * v1)) + v2)) + v7)) = true then (if ag K 8 (M v0 45) (w32 ((w32 ((w32 (40 * v3)) + v4)) + v7)) = true then vr sc d c_X7_copy (121, [(2, v0), (0, v1), (0, v2), (0, v3), (0, v4), (0, v5), (0, v6), (0, w32 (v7 + 1)), (0, v7)], [], (K, d_up M (M v0 45) (w32 ((w32 ((w32 (40 * v3)) + v4)) + v7)) (M (M v0 45) (w32 ((w32 ((w32 (40 * v1)) + v2)) + v7))))) else none) else none) else none) else none) else (if og K 7 v0 45 = true then (if og K 7 v0 45 = true then (if ag K 8 (M v0 45) (w32 ((w32 ((w32 (40 * v1)) + v2)) + (w32 ((w32 (v5 - 1)) - v7)))) = true then (if ag K 8 (M v0 45) (w32 ((w32 ((w32 (40 * v3)) + v4)) + (w32 ((w32 (v5 - 1)) - v7)))) = true then vr sc d c_X7_copy (121, [(2, v0), (0, v1), (0, v2), (0, v3), (0, v4), (0, v5), (0, v6), (0, w32 (v7 + 1)), (0, w32 ((w32 (v5 - 1)) - v7))], [], (K, d_up M (M v0 45) (w32 ((w32 ((w32 (40 * v3)) + v4)) + (w32 ((w32 (v5 - 1)) - v7)))) (M (M v0 45) (w32 ((w32 ((w32 (40 * v1)) + v2)) + (w32 ((w32 (v5 - 1)) - v7))))))) else none) else none) else none) else none))) := by
  refine (vr_steps 2 (x' := (125, [(2, v0), (0, v1), (0, v2), (0, v3), (0, v4), (0, v5), (0, v6), (0, v7), q8], [(0, v5), (0, v7)], (K, M))) rfl).trans ?_
  refine (v_icmp (k := 3) (b := 182) (c := v5 ≤ v7) rfl rfl).trans ?_
  refine c_congr (fun _ => ?_) (fun _ => ?_)
  · refine (vr_steps 1 (x' := (184, [(2, v0), (0, v1), (0, v2), (0, v3), (0, v4), (0, v5), (0, v6), (0, v7), q8], [(0, v5)], (K, M))) rfl).trans ?_
    exact vr_ret (ai := (35, 1, 1, 0, [])) rfl rfl
  · refine (vr_steps 1 (x' := (130, [(2, v0), (0, v1), (0, v2), (0, v3), (0, v4), (0, v5), (0, v6), (0, v7), q8], [(0, v6)], (K, M))) rfl).trans ?_
    refine (v_if (k := 0) (b := 143) (c := v6 = 0) rfl rfl).trans ?_
    refine c_congr (fun _ => ?_) (fun _ => ?_)
    · refine (vr_steps 3 (x' := (148, [(2, v0), (0, v1), (0, v2), (0, v3), (0, v4), (0, v5), (0, v6), (0, v7), (0, v7)], [(2, v0)], (K, M))) rfl).trans ?_
      refine (v_getf (a := 7) (b := 45) (t := 2) rfl rfl).trans ?_
      refine g_congr (fun _ => ?_)
      refine (vr_steps 8 (x' := (162, [(2, v0), (0, v1), (0, v2), (0, v3), (0, v4), (0, v5), (0, v6), (0, v7), (0, v7)], [(2, v0), (0, w32 ((w32 ((w32 (40 * v3)) + v4)) + v7)), (2, M v0 45)], (K, M))) rfl).trans ?_
      refine (v_getf (a := 7) (b := 45) (t := 2) rfl rfl).trans ?_
      refine g_congr (fun _ => ?_)
      refine (vr_steps 7 (x' := (174, [(2, v0), (0, v1), (0, v2), (0, v3), (0, v4), (0, v5), (0, v6), (0, v7), (0, v7)], [(0, w32 ((w32 ((w32 (40 * v1)) + v2)) + v7)), (2, M v0 45), (0, w32 ((w32 ((w32 (40 * v3)) + v4)) + v7)), (2, M v0 45)], (K, M))) rfl).trans ?_
      refine (v_ald (a := 8) rfl (by decide)).trans ?_
      refine g_congr (fun _ => ?_)
      refine (v_ast rfl).trans ?_
      refine g_congr (fun _ => ?_)
      exact vr_steps 2 rfl
    · refine (vr_steps 8 (x' := (148, [(2, v0), (0, v1), (0, v2), (0, v3), (0, v4), (0, v5), (0, v6), (0, v7), (0, w32 ((w32 (v5 - 1)) - v7))], [(2, v0)], (K, M))) rfl).trans ?_
      refine (v_getf (a := 7) (b := 45) (t := 2) rfl rfl).trans ?_
      refine g_congr (fun _ => ?_)
      refine (vr_steps 8 (x' := (162, [(2, v0), (0, v1), (0, v2), (0, v3), (0, v4), (0, v5), (0, v6), (0, v7), (0, w32 ((w32 (v5 - 1)) - v7))], [(2, v0), (0, w32 ((w32 ((w32 (40 * v3)) + v4)) + (w32 ((w32 (v5 - 1)) - v7)))), (2, M v0 45)], (K, M))) rfl).trans ?_
      refine (v_getf (a := 7) (b := 45) (t := 2) rfl rfl).trans ?_
      refine g_congr (fun _ => ?_)
      refine (vr_steps 7 (x' := (174, [(2, v0), (0, v1), (0, v2), (0, v3), (0, v4), (0, v5), (0, v6), (0, v7), (0, w32 ((w32 (v5 - 1)) - v7))], [(0, w32 ((w32 ((w32 (40 * v1)) + v2)) + (w32 ((w32 (v5 - 1)) - v7)))), (2, M v0 45), (0, w32 ((w32 ((w32 (40 * v3)) + v4)) + (w32 ((w32 (v5 - 1)) - v7)))), (2, M v0 45)], (K, M))) rfl).trans ?_
      refine (v_ald (a := 8) rfl (by decide)).trans ?_
      refine g_congr (fun _ => ?_)
      refine (v_ast rfl).trans ?_
      refine g_congr (fun _ => ?_)
      exact vr_steps 2 rfl

noncomputable def c_X7_guild : Nat → Option dI := d_mcode m_X7_guild
set_option maxRecDepth 100000 in
theorem e_X7_guild_0 {sc : dS} {d : Nat} {K : List (Nat × Nat)} {M : dM} {v0 v1 v2 v3 v4 : Int} {q5 q6 q7 : dV} : vr sc d c_X7_guild (0, [(2, v0), (0, v1), (0, v2), (0, v3), (0, v4), q5, q6, q7], [], (K, M)) = ((vc sc d 196 [(0, v1)] (K, M)).bind (fun r => vr sc d c_X7_guild (4, [(2, v0), (0, v1), (0, v2), (0, v3), (0, v4), q5, q6, q7], r.1 ++ [], r.2))) := by
  refine (vr_steps 1 (x' := (1, [(2, v0), (0, v1), (0, v2), (0, v3), (0, v4), q5, q6, q7], [(0, v1)], (K, M))) rfl).trans ?_
  exact (v_stat (k := 196) (n := 1) (code := c_X7_guild) (pc := 1) (len := 3) (L := [(2, v0), (0, v1), (0, v2), (0, v3), (0, v4), q5, q6, q7]) (st := [(0, v1)]) rfl (Nat.le_of_ble_eq_true rfl) (Nat.le_of_ble_eq_true rfl)).trans rfl
set_option maxRecDepth 100000 in
theorem e_X7_guild_4 {sc : dS} {d : Nat} {K : List (Nat × Nat)} {M : dM} {v0 v1 v2 v3 v4 s0 : Int} {q5 q6 q7 : dV} : vr sc d c_X7_guild (4, [(2, v0), (0, v1), (0, v2), (0, v3), (0, v4), q5, q6, q7], [(0, s0)], (K, M)) = (if s0 = 0 then some ([(0, (-2))], (K, M)) else (vc sc d 114 [(1, v2), (1, 0), (1, 2)] (K, M)).bind (fun r => vr sc d c_X7_guild (16, [(2, v0), (0, v1), (0, v2), (0, v3), (0, v4), q5, q6, q7], r.1 ++ [], r.2))) := by
  refine (v_if (k := 0) (b := 32) (c := s0 = 0) rfl rfl).trans ?_
  refine c_congr (fun _ => ?_) (fun _ => ?_)
  · refine (vr_steps 1 (x' := (34, [(2, v0), (0, v1), (0, v2), (0, v3), (0, v4), q5, q6, q7], [(0, (-2))], (K, M))) rfl).trans ?_
    exact vr_ret (ai := (35, 1, 1, 0, [])) rfl rfl
  · refine (vr_steps 4 (x' := (13, [(2, v0), (0, v1), (0, v2), (0, v3), (0, v4), q5, q6, q7], [(1, 2), (1, 0), (1, v2)], (K, M))) rfl).trans ?_
    exact (v_stat (k := 114) (n := 3) (code := c_X7_guild) (pc := 13) (len := 3) (L := [(2, v0), (0, v1), (0, v2), (0, v3), (0, v4), q5, q6, q7]) (st := [(1, 2), (1, 0), (1, v2)]) rfl (Nat.le_of_ble_eq_true rfl) (Nat.le_of_ble_eq_true rfl)).trans rfl
set_option maxRecDepth 100000 in
theorem e_X7_guild_16 {sc : dS} {d : Nat} {K : List (Nat × Nat)} {M : dM} {v0 v1 v2 v3 v4 s0 : Int} {q5 q6 q7 : dV} : vr sc d c_X7_guild (16, [(2, v0), (0, v1), (0, v2), (0, v3), (0, v4), q5, q6, q7], [(0, s0)], (K, M)) = (if s0 = 0 then some ([(0, (-2))], (K, M)) else (vc sc d 114 [(1, v4), (1, 0), (1, 5)] (K, M)).bind (fun r => vr sc d c_X7_guild (29, [(2, v0), (0, v1), (0, v2), (0, v3), (0, v4), q5, q6, q7], r.1 ++ [], r.2))) := by
  refine (v_if (k := 0) (b := 32) (c := s0 = 0) rfl rfl).trans ?_
  refine c_congr (fun _ => ?_) (fun _ => ?_)
  · refine (vr_steps 1 (x' := (34, [(2, v0), (0, v1), (0, v2), (0, v3), (0, v4), q5, q6, q7], [(0, (-2))], (K, M))) rfl).trans ?_
    exact vr_ret (ai := (35, 1, 1, 0, [])) rfl rfl
  · refine (vr_steps 4 (x' := (26, [(2, v0), (0, v1), (0, v2), (0, v3), (0, v4), q5, q6, q7], [(1, 5), (1, 0), (1, v4)], (K, M))) rfl).trans ?_
    exact (v_stat (k := 114) (n := 3) (code := c_X7_guild) (pc := 26) (len := 3) (L := [(2, v0), (0, v1), (0, v2), (0, v3), (0, v4), q5, q6, q7]) (st := [(1, 5), (1, 0), (1, v4)]) rfl (Nat.le_of_ble_eq_true rfl) (Nat.le_of_ble_eq_true rfl)).trans rfl
set_option maxRecDepth 100000 in
theorem e_X7_guild_29 {sc : dS} {d : Nat} {K : List (Nat × Nat)} {M : dM} {v0 v1 v2 v3 v4 s0 : Int} {q5 q6 q7 : dV} : vr sc d c_X7_guild (29, [(2, v0), (0, v1), (0, v2), (0, v3), (0, v4), q5, q6, q7], [(0, s0)], (K, M)) = (if ¬ s0 = 0 then (if og K 7 v0 42 = true then (if ag K 9 (M v0 42) v1 = true then (if (M (M v0 42) v1) = 0 then (if og K 7 v0 42 = true then (if ag K 9 (M v0 42) v1 = true then (if ¬ (M (M v0 42) v1) = 0 then vr sc d c_X7_guild (75, [(2, v0), (0, v1), (0, v2), (0, v3), (0, v4), (0, 0), (0, 0), q7], [], (K, M)) else some ([(0, (-11))], (K, M))) else none) else none) else (if og K 7 v0 43 = true then (if ag K 8 (M v0 43) v1 = true then (if (M (M v0 43) v1) = v2 then (if og K 7 v0 42 = true then (if ag K 9 (M v0 42) v1 = true then (if ¬ (M (M v0 42) v1) = 0 then vr sc d c_X7_guild (75, [(2, v0), (0, v1), (0, v2), (0, v3), (0, v4), (0, 0), (0, 0), q7], [], (K, M)) else some ([(0, (-11))], (K, M))) else none) else none) else some ([(0, (-13))], (K, M))) else none) else none)) else none) else none) else some ([(0, (-2))], (K, M))) := by
  refine (v_if (k := 1) (b := 35) (c := ¬ s0 = 0) rfl rfl).trans ?_
  refine c_congr (fun _ => ?_) (fun _ => ?_)
  · refine (vr_steps 1 (x' := (36, [(2, v0), (0, v1), (0, v2), (0, v3), (0, v4), q5, q6, q7], [(2, v0)], (K, M))) rfl).trans ?_
    refine (v_getf (a := 7) (b := 42) (t := 2) rfl rfl).trans ?_
    refine g_congr (fun _ => ?_)
    refine (vr_steps 1 (x' := (40, [(2, v0), (0, v1), (0, v2), (0, v3), (0, v4), q5, q6, q7], [(0, v1), (2, M v0 42)], (K, M))) rfl).trans ?_
    refine (v_ald (a := 9) rfl (by decide)).trans ?_
    refine g_congr (fun _ => ?_)
    refine (v_if (k := 0) (b := 57) (c := (M (M v0 42) v1) = 0) rfl rfl).trans ?_
    refine c_congr (fun _ => ?_) (fun _ => ?_)
    · refine (vr_steps 1 (x' := (58, [(2, v0), (0, v1), (0, v2), (0, v3), (0, v4), q5, q6, q7], [(2, v0)], (K, M))) rfl).trans ?_
      refine (v_getf (a := 7) (b := 42) (t := 2) rfl rfl).trans ?_
      refine g_congr (fun _ => ?_)
      refine (vr_steps 1 (x' := (62, [(2, v0), (0, v1), (0, v2), (0, v3), (0, v4), q5, q6, q7], [(0, v1), (2, M v0 42)], (K, M))) rfl).trans ?_
      refine (v_ald (a := 9) rfl (by decide)).trans ?_
      refine g_congr (fun _ => ?_)
      refine (v_if (k := 1) (b := 69) (c := ¬ (M (M v0 42) v1) = 0) rfl rfl).trans ?_
      refine c_congr (fun _ => ?_) (fun _ => ?_)
      · exact vr_steps 4 rfl
      · refine (vr_steps 1 (x' := (68, [(2, v0), (0, v1), (0, v2), (0, v3), (0, v4), q5, q6, q7], [(0, (-11))], (K, M))) rfl).trans ?_
        exact vr_ret (ai := (35, 1, 1, 0, [])) rfl rfl
    · refine (vr_steps 1 (x' := (45, [(2, v0), (0, v1), (0, v2), (0, v3), (0, v4), q5, q6, q7], [(2, v0)], (K, M))) rfl).trans ?_
      refine (v_getf (a := 7) (b := 43) (t := 2) rfl rfl).trans ?_
      refine g_congr (fun _ => ?_)
      refine (vr_steps 1 (x' := (49, [(2, v0), (0, v1), (0, v2), (0, v3), (0, v4), q5, q6, q7], [(0, v1), (2, M v0 43)], (K, M))) rfl).trans ?_
      refine (v_ald (a := 8) rfl (by decide)).trans ?_
      refine g_congr (fun _ => ?_)
      refine (vr_steps 1 (x' := (51, [(2, v0), (0, v1), (0, v2), (0, v3), (0, v4), q5, q6, q7], [(0, v2), (0, M (M v0 43) v1)], (K, M))) rfl).trans ?_
      refine (v_icmp (k := 0) (b := 57) (c := (M (M v0 43) v1) = v2) rfl rfl).trans ?_
      refine c_congr (fun _ => ?_) (fun _ => ?_)
      · refine (vr_steps 1 (x' := (58, [(2, v0), (0, v1), (0, v2), (0, v3), (0, v4), q5, q6, q7], [(2, v0)], (K, M))) rfl).trans ?_
        refine (v_getf (a := 7) (b := 42) (t := 2) rfl rfl).trans ?_
        refine g_congr (fun _ => ?_)
        refine (vr_steps 1 (x' := (62, [(2, v0), (0, v1), (0, v2), (0, v3), (0, v4), q5, q6, q7], [(0, v1), (2, M v0 42)], (K, M))) rfl).trans ?_
        refine (v_ald (a := 9) rfl (by decide)).trans ?_
        refine g_congr (fun _ => ?_)
        refine (v_if (k := 1) (b := 69) (c := ¬ (M (M v0 42) v1) = 0) rfl rfl).trans ?_
        refine c_congr (fun _ => ?_) (fun _ => ?_)
        · exact vr_steps 4 rfl
        · refine (vr_steps 1 (x' := (68, [(2, v0), (0, v1), (0, v2), (0, v3), (0, v4), q5, q6, q7], [(0, (-11))], (K, M))) rfl).trans ?_
          exact vr_ret (ai := (35, 1, 1, 0, [])) rfl rfl
      · refine (vr_steps 1 (x' := (56, [(2, v0), (0, v1), (0, v2), (0, v3), (0, v4), q5, q6, q7], [(0, (-13))], (K, M))) rfl).trans ?_
        exact vr_ret (ai := (35, 1, 1, 0, [])) rfl rfl
  · refine (vr_steps 1 (x' := (34, [(2, v0), (0, v1), (0, v2), (0, v3), (0, v4), q5, q6, q7], [(0, (-2))], (K, M))) rfl).trans ?_
    exact vr_ret (ai := (35, 1, 1, 0, [])) rfl rfl
set_option maxRecDepth 100000 in
theorem e_X7_guild_75 {sc : dS} {d : Nat} {K : List (Nat × Nat)} {M : dM} {v0 v1 v2 v3 v4 v5 v6 : Int} {q7 : dV} : vr sc d c_X7_guild (75, [(2, v0), (0, v1), (0, v2), (0, v3), (0, v4), (0, v5), (0, v6), q7], [], (K, M)) = (if v4 ≤ v6 then some ([(0, v5)], (K, M)) else (if v3 < 0 then some ([(0, (-12))], (K, M)) else (if og K 7 v0 44 = true then (if ag K 8 (M v0 44) v1 = true then (if v3 ≤ (w32 ((w32 ((M (M v0 44) v1) - (w32 (2 * v6)))) - 2)) then (if og K 7 v0 45 = true then (if ag K 8 (M v0 45) (w32 ((w32 ((w32 (40 * v1)) + v3)) + (w32 (2 * v6)))) = true then (if og K 7 v0 45 = true then (if ag K 8 (M v0 45) (w32 ((w32 ((w32 ((w32 (40 * v1)) + v3)) + (w32 (2 * v6)))) + 1)) = true then (if rg K 7 v0 = true then (vc sc d 124 [(2, v0), (0, M (M v0 45) (w32 ((w32 ((w32 (40 * v1)) + v3)) + (w32 (2 * v6))))), (0, M (M v0 45) (w32 ((w32 ((w32 ((w32 (40 * v1)) + v3)) + (w32 (2 * v6)))) + 1)))] (K, M)).bind (fun r => vr sc d c_X7_guild (141, [(2, v0), (0, v1), (0, v2), (0, v3), (0, v4), (0, v5), (0, v6), (0, w32 ((w32 ((w32 (40 * v1)) + v3)) + (w32 (2 * v6))))], r.1 ++ [(0, v5)], r.2)) else none) else none) else none) else none) else none) else some ([(0, (-12))], (K, M))) else none) else none))) := by
  refine (vr_steps 2 (x' := (79, [(2, v0), (0, v1), (0, v2), (0, v3), (0, v4), (0, v5), (0, v6), q7], [(0, v4), (0, v6)], (K, M))) rfl).trans ?_
  refine (v_icmp (k := 3) (b := 158) (c := v4 ≤ v6) rfl rfl).trans ?_
  refine c_congr (fun _ => ?_) (fun _ => ?_)
  · refine (vr_steps 1 (x' := (160, [(2, v0), (0, v1), (0, v2), (0, v3), (0, v4), (0, v5), (0, v6), q7], [(0, v5)], (K, M))) rfl).trans ?_
    exact vr_ret (ai := (35, 1, 1, 0, [])) rfl rfl
  · refine (vr_steps 1 (x' := (83, [(2, v0), (0, v1), (0, v2), (0, v3), (0, v4), (0, v5), (0, v6), q7], [(0, v3)], (K, M))) rfl).trans ?_
    refine (v_if (k := 2) (b := 103) (c := v3 < 0) rfl rfl).trans ?_
    refine c_congr (fun _ => ?_) (fun _ => ?_)
    · refine (vr_steps 1 (x' := (105, [(2, v0), (0, v1), (0, v2), (0, v3), (0, v4), (0, v5), (0, v6), q7], [(0, (-12))], (K, M))) rfl).trans ?_
      exact vr_ret (ai := (35, 1, 1, 0, [])) rfl rfl
    · refine (vr_steps 2 (x' := (88, [(2, v0), (0, v1), (0, v2), (0, v3), (0, v4), (0, v5), (0, v6), q7], [(2, v0), (0, v3)], (K, M))) rfl).trans ?_
      refine (v_getf (a := 7) (b := 44) (t := 2) rfl rfl).trans ?_
      refine g_congr (fun _ => ?_)
      refine (vr_steps 1 (x' := (92, [(2, v0), (0, v1), (0, v2), (0, v3), (0, v4), (0, v5), (0, v6), q7], [(0, v1), (2, M v0 44), (0, v3)], (K, M))) rfl).trans ?_
      refine (v_ald (a := 8) rfl (by decide)).trans ?_
      refine g_congr (fun _ => ?_)
      refine (vr_steps 6 (x' := (100, [(2, v0), (0, v1), (0, v2), (0, v3), (0, v4), (0, v5), (0, v6), q7], [(0, w32 ((w32 ((M (M v0 44) v1) - (w32 (2 * v6)))) - 2)), (0, v3)], (K, M))) rfl).trans ?_
      refine (v_icmp (k := 5) (b := 106) (c := v3 ≤ (w32 ((w32 ((M (M v0 44) v1) - (w32 (2 * v6)))) - 2))) rfl rfl).trans ?_
      refine c_congr (fun _ => ?_) (fun _ => ?_)
      · refine (vr_steps 13 (x' := (123, [(2, v0), (0, v1), (0, v2), (0, v3), (0, v4), (0, v5), (0, v6), (0, w32 ((w32 ((w32 (40 * v1)) + v3)) + (w32 (2 * v6))))], [(2, v0), (2, v0), (0, v5)], (K, M))) rfl).trans ?_
        refine (v_getf (a := 7) (b := 45) (t := 2) rfl rfl).trans ?_
        refine g_congr (fun _ => ?_)
        refine (vr_steps 1 (x' := (128, [(2, v0), (0, v1), (0, v2), (0, v3), (0, v4), (0, v5), (0, v6), (0, w32 ((w32 ((w32 (40 * v1)) + v3)) + (w32 (2 * v6))))], [(0, w32 ((w32 ((w32 (40 * v1)) + v3)) + (w32 (2 * v6)))), (2, M v0 45), (2, v0), (0, v5)], (K, M))) rfl).trans ?_
        refine (v_ald (a := 8) rfl (by decide)).trans ?_
        refine g_congr (fun _ => ?_)
        refine (vr_steps 1 (x' := (130, [(2, v0), (0, v1), (0, v2), (0, v3), (0, v4), (0, v5), (0, v6), (0, w32 ((w32 ((w32 (40 * v1)) + v3)) + (w32 (2 * v6))))], [(2, v0), (0, M (M v0 45) (w32 ((w32 ((w32 (40 * v1)) + v3)) + (w32 (2 * v6))))), (2, v0), (0, v5)], (K, M))) rfl).trans ?_
        refine (v_getf (a := 7) (b := 45) (t := 2) rfl rfl).trans ?_
        refine g_congr (fun _ => ?_)
        refine (vr_steps 3 (x' := (137, [(2, v0), (0, v1), (0, v2), (0, v3), (0, v4), (0, v5), (0, v6), (0, w32 ((w32 ((w32 (40 * v1)) + v3)) + (w32 (2 * v6))))], [(0, w32 ((w32 ((w32 ((w32 (40 * v1)) + v3)) + (w32 (2 * v6)))) + 1)), (2, M v0 45), (0, M (M v0 45) (w32 ((w32 ((w32 (40 * v1)) + v3)) + (w32 (2 * v6))))), (2, v0), (0, v5)], (K, M))) rfl).trans ?_
        refine (v_ald (a := 8) rfl (by decide)).trans ?_
        refine g_congr (fun _ => ?_)
        exact (v_virt (k := 124) (n := 3) (tag := 7) (r := v0) (av := [(0, M (M v0 45) (w32 ((w32 ((w32 (40 * v1)) + v3)) + (w32 (2 * v6))))), (0, M (M v0 45) (w32 ((w32 ((w32 ((w32 (40 * v1)) + v3)) + (w32 (2 * v6)))) + 1)))]) (code := c_X7_guild) (pc := 138) (len := 3) (L := [(2, v0), (0, v1), (0, v2), (0, v3), (0, v4), (0, v5), (0, v6), (0, w32 ((w32 ((w32 (40 * v1)) + v3)) + (w32 (2 * v6))))]) (st := [(0, M (M v0 45) (w32 ((w32 ((w32 ((w32 (40 * v1)) + v3)) + (w32 (2 * v6)))) + 1))), (0, M (M v0 45) (w32 ((w32 ((w32 (40 * v1)) + v3)) + (w32 (2 * v6))))), (2, v0), (0, v5)]) rfl (Nat.le_of_ble_eq_true rfl) (Nat.le_of_ble_eq_true rfl) rfl).trans rfl
      · refine (vr_steps 1 (x' := (105, [(2, v0), (0, v1), (0, v2), (0, v3), (0, v4), (0, v5), (0, v6), q7], [(0, (-12))], (K, M))) rfl).trans ?_
        exact vr_ret (ai := (35, 1, 1, 0, [])) rfl rfl
set_option maxRecDepth 100000 in
theorem e_X7_guild_141 {sc : dS} {d : Nat} {K : List (Nat × Nat)} {M : dM} {v0 v1 v2 v3 v4 v5 v6 v7 s0 s1 : Int} : vr sc d c_X7_guild (141, [(2, v0), (0, v1), (0, v2), (0, v3), (0, v4), (0, v5), (0, v6), (0, v7)], [(0, s1), (0, s0)], (K, M)) = (if s1 < 0 then vr sc d c_X7_guild (75, [(2, v0), (0, v1), (0, v2), (0, v3), (0, v4), (0, w32 (s0 + 0)), (0, w32 (v6 + 1)), (0, v7)], [], (K, M)) else vr sc d c_X7_guild (75, [(2, v0), (0, v1), (0, v2), (0, v3), (0, v4), (0, w32 (s0 + 1)), (0, w32 (v6 + 1)), (0, v7)], [], (K, M))) := by
  refine (v_if (k := 2) (b := 148) (c := s1 < 0) rfl rfl).trans ?_
  refine c_congr (fun _ => ?_) (fun _ => ?_)
  · exact vr_steps 5 rfl
  · exact vr_steps 6 rfl

noncomputable def c_X7_over : Nat → Option dI := d_mcode m_X7_over
set_option maxRecDepth 100000 in
theorem e_X7_over_0 {sc : dS} {d : Nat} {K : List (Nat × Nat)} {M : dM} {v0 : Int} : vr sc d c_X7_over (0, [(0, v0)], [], (K, M)) = (if ¬ v0 = 0 then (if ¬ v0 = 3 then (if ¬ v0 = 4 then some ([(0, 0)], (K, M)) else some ([(0, 2)], (K, M))) else some ([(0, 1)], (K, M))) else some ([(0, (-1))], (K, M))) := by
  refine (vr_steps 1 (x' := (1, [(0, v0)], [(0, v0)], (K, M))) rfl).trans ?_
  refine (v_if (k := 1) (b := 8) (c := ¬ v0 = 0) rfl rfl).trans ?_
  refine c_congr (fun _ => ?_) (fun _ => ?_)
  · refine (vr_steps 2 (x' := (10, [(0, v0)], [(0, 3), (0, v0)], (K, M))) rfl).trans ?_
    refine (v_icmp (k := 1) (b := 17) (c := ¬ v0 = 3) rfl rfl).trans ?_
    refine c_congr (fun _ => ?_) (fun _ => ?_)
    · refine (vr_steps 2 (x' := (19, [(0, v0)], [(0, 4), (0, v0)], (K, M))) rfl).trans ?_
      refine (v_icmp (k := 1) (b := 26) (c := ¬ v0 = 4) rfl rfl).trans ?_
      refine c_congr (fun _ => ?_) (fun _ => ?_)
      · refine (vr_steps 1 (x' := (27, [(0, v0)], [(0, 0)], (K, M))) rfl).trans ?_
        exact vr_ret (ai := (35, 1, 1, 0, [])) rfl rfl
      · refine (vr_steps 2 (x' := (27, [(0, v0)], [(0, 2)], (K, M))) rfl).trans ?_
        exact vr_ret (ai := (35, 1, 1, 0, [])) rfl rfl
    · refine (vr_steps 2 (x' := (27, [(0, v0)], [(0, 1)], (K, M))) rfl).trans ?_
      exact vr_ret (ai := (35, 1, 1, 0, [])) rfl rfl
  · refine (vr_steps 2 (x' := (27, [(0, v0)], [(0, (-1))], (K, M))) rfl).trans ?_
    exact vr_ret (ai := (35, 1, 1, 0, [])) rfl rfl

noncomputable def c_X7_taken : Nat → Option dI := d_mcode m_X7_taken
set_option maxRecDepth 100000 in
theorem e_X7_taken_0 {sc : dS} {d : Nat} {K : List (Nat × Nat)} {M : dM} {v0 v1 v2 : Int} {q3 : dV} : vr sc d c_X7_taken (0, [(2, v0), (0, v1), (0, v2), q3], [], (K, M)) = ((vc sc d 114 [(1, v2), (1, 0), (1, 5)] (K, M)).bind (fun r => vr sc d c_X7_taken (9, [(2, v0), (0, v1), (0, v2), q3], r.1 ++ [], r.2))) := by
  refine (vr_steps 4 (x' := (6, [(2, v0), (0, v1), (0, v2), q3], [(1, 5), (1, 0), (1, v2)], (K, M))) rfl).trans ?_
  exact (v_stat (k := 114) (n := 3) (code := c_X7_taken) (pc := 6) (len := 3) (L := [(2, v0), (0, v1), (0, v2), q3]) (st := [(1, 5), (1, 0), (1, v2)]) rfl (Nat.le_of_ble_eq_true rfl) (Nat.le_of_ble_eq_true rfl)).trans rfl
set_option maxRecDepth 100000 in
theorem e_X7_taken_9 {sc : dS} {d : Nat} {K : List (Nat × Nat)} {M : dM} {v0 v1 v2 s0 : Int} {q3 : dV} : vr sc d c_X7_taken (9, [(2, v0), (0, v1), (0, v2), q3], [(0, s0)], (K, M)) = (if ¬ s0 = 0 then (if rg K 7 v0 = true then (vc sc d 118 [(2, v0), (0, v1)] (K, M)).bind (fun r => vr sc d c_X7_taken (20, [(2, v0), (0, v1), (0, v2), q3], r.1 ++ [], r.2)) else none) else some ([(0, (-2))], (K, M))) := by
  refine (v_if (k := 1) (b := 15) (c := ¬ s0 = 0) rfl rfl).trans ?_
  refine c_congr (fun _ => ?_) (fun _ => ?_)
  · refine (vr_steps 2 (x' := (17, [(2, v0), (0, v1), (0, v2), q3], [(0, v1), (2, v0)], (K, M))) rfl).trans ?_
    exact (v_virt (k := 118) (n := 2) (tag := 7) (r := v0) (av := [(0, v1)]) (code := c_X7_taken) (pc := 17) (len := 3) (L := [(2, v0), (0, v1), (0, v2), q3]) (st := [(0, v1), (2, v0)]) rfl (Nat.le_of_ble_eq_true rfl) (Nat.le_of_ble_eq_true rfl) rfl).trans rfl
  · refine (vr_steps 1 (x' := (14, [(2, v0), (0, v1), (0, v2), q3], [(0, (-2))], (K, M))) rfl).trans ?_
    exact vr_ret (ai := (35, 1, 1, 0, [])) rfl rfl
set_option maxRecDepth 100000 in
theorem e_X7_taken_20 {sc : dS} {d : Nat} {K : List (Nat × Nat)} {M : dM} {v0 v1 v2 s0 : Int} {q3 : dV} : vr sc d c_X7_taken (20, [(2, v0), (0, v1), (0, v2), q3], [(0, s0)], (K, M)) = (if ¬ s0 = 0 then (if og K 7 v0 9 = true then (if ag K 8 (M v0 9) (w32 ((w32 (3 * v1)) + 2)) = true then vr sc d c_X7_taken (37, [(2, v0), (0, v1), (0, v2), (0, M (M v0 9) (w32 ((w32 (3 * v1)) + 2)))], [], (K, M)) else none) else none) else some ([(0, (-11))], (K, M))) := by
  refine (v_if (k := 1) (b := 26) (c := ¬ s0 = 0) rfl rfl).trans ?_
  refine c_congr (fun _ => ?_) (fun _ => ?_)
  · refine (vr_steps 1 (x' := (27, [(2, v0), (0, v1), (0, v2), q3], [(2, v0)], (K, M))) rfl).trans ?_
    refine (v_getf (a := 7) (b := 9) (t := 2) rfl rfl).trans ?_
    refine g_congr (fun _ => ?_)
    refine (vr_steps 5 (x' := (35, [(2, v0), (0, v1), (0, v2), q3], [(0, w32 ((w32 (3 * v1)) + 2)), (2, M v0 9)], (K, M))) rfl).trans ?_
    refine (v_ald (a := 8) rfl (by decide)).trans ?_
    refine g_congr (fun _ => ?_)
    exact vr_steps 1 rfl
  · refine (vr_steps 1 (x' := (25, [(2, v0), (0, v1), (0, v2), q3], [(0, (-11))], (K, M))) rfl).trans ?_
    exact vr_ret (ai := (35, 1, 1, 0, [])) rfl rfl
set_option maxRecDepth 100000 in
theorem e_X7_taken_37 {sc : dS} {d : Nat} {K : List (Nat × Nat)} {M : dM} {v0 v1 v2 v3 : Int} : vr sc d c_X7_taken (37, [(2, v0), (0, v1), (0, v2), (0, v3)], [], (K, M)) = (if v3 = (-1) then (if ¬ v3 = v2 then some ([(0, (-13))], (K, M)) else (if og K 7 v0 9 = true then (if ag K 8 (M v0 9) (w32 (3 * v1)) = true then some ([(0, M (M v0 9) (w32 (3 * v1)))], (K, M)) else none) else none)) else (if v3 = v2 then (if ¬ v3 = v2 then some ([(0, (-13))], (K, M)) else (if og K 7 v0 9 = true then (if ag K 8 (M v0 9) (w32 (3 * v1)) = true then some ([(0, M (M v0 9) (w32 (3 * v1)))], (K, M)) else none) else none)) else (vc sc d 201 [(0, v3)] (K, M)).bind (fun r => vr sc d c_X7_taken (51, [(2, v0), (0, v1), (0, v2), (0, v3)], r.1 ++ [], r.2)))) := by
  refine (vr_steps 2 (x' := (39, [(2, v0), (0, v1), (0, v2), (0, v3)], [(0, (-1)), (0, v3)], (K, M))) rfl).trans ?_
  refine (v_icmp (k := 0) (b := 55) (c := v3 = (-1)) rfl rfl).trans ?_
  refine c_congr (fun _ => ?_) (fun _ => ?_)
  · refine (vr_steps 2 (x' := (57, [(2, v0), (0, v1), (0, v2), (0, v3)], [(0, v2), (0, v3)], (K, M))) rfl).trans ?_
    refine (v_icmp (k := 1) (b := 71) (c := ¬ v3 = v2) rfl rfl).trans ?_
    refine c_congr (fun _ => ?_) (fun _ => ?_)
    · refine (vr_steps 1 (x' := (73, [(2, v0), (0, v1), (0, v2), (0, v3)], [(0, (-13))], (K, M))) rfl).trans ?_
      exact vr_ret (ai := (35, 1, 1, 0, [])) rfl rfl
    · refine (vr_steps 1 (x' := (61, [(2, v0), (0, v1), (0, v2), (0, v3)], [(2, v0)], (K, M))) rfl).trans ?_
      refine (v_getf (a := 7) (b := 9) (t := 2) rfl rfl).trans ?_
      refine g_congr (fun _ => ?_)
      refine (vr_steps 3 (x' := (67, [(2, v0), (0, v1), (0, v2), (0, v3)], [(0, w32 (3 * v1)), (2, M v0 9)], (K, M))) rfl).trans ?_
      refine (v_ald (a := 8) rfl (by decide)).trans ?_
      refine g_congr (fun _ => ?_)
      refine (vr_steps 1 (x' := (73, [(2, v0), (0, v1), (0, v2), (0, v3)], [(0, M (M v0 9) (w32 (3 * v1)))], (K, M))) rfl).trans ?_
      exact vr_ret (ai := (35, 1, 1, 0, [])) rfl rfl
  · refine (vr_steps 2 (x' := (44, [(2, v0), (0, v1), (0, v2), (0, v3)], [(0, v2), (0, v3)], (K, M))) rfl).trans ?_
    refine (v_icmp (k := 0) (b := 55) (c := v3 = v2) rfl rfl).trans ?_
    refine c_congr (fun _ => ?_) (fun _ => ?_)
    · refine (vr_steps 2 (x' := (57, [(2, v0), (0, v1), (0, v2), (0, v3)], [(0, v2), (0, v3)], (K, M))) rfl).trans ?_
      refine (v_icmp (k := 1) (b := 71) (c := ¬ v3 = v2) rfl rfl).trans ?_
      refine c_congr (fun _ => ?_) (fun _ => ?_)
      · refine (vr_steps 1 (x' := (73, [(2, v0), (0, v1), (0, v2), (0, v3)], [(0, (-13))], (K, M))) rfl).trans ?_
        exact vr_ret (ai := (35, 1, 1, 0, [])) rfl rfl
      · refine (vr_steps 1 (x' := (61, [(2, v0), (0, v1), (0, v2), (0, v3)], [(2, v0)], (K, M))) rfl).trans ?_
        refine (v_getf (a := 7) (b := 9) (t := 2) rfl rfl).trans ?_
        refine g_congr (fun _ => ?_)
        refine (vr_steps 3 (x' := (67, [(2, v0), (0, v1), (0, v2), (0, v3)], [(0, w32 (3 * v1)), (2, M v0 9)], (K, M))) rfl).trans ?_
        refine (v_ald (a := 8) rfl (by decide)).trans ?_
        refine g_congr (fun _ => ?_)
        refine (vr_steps 1 (x' := (73, [(2, v0), (0, v1), (0, v2), (0, v3)], [(0, M (M v0 9) (w32 (3 * v1)))], (K, M))) rfl).trans ?_
        exact vr_ret (ai := (35, 1, 1, 0, [])) rfl rfl
    · refine (vr_steps 1 (x' := (48, [(2, v0), (0, v1), (0, v2), (0, v3)], [(0, v3)], (K, M))) rfl).trans ?_
      exact (v_stat (k := 201) (n := 1) (code := c_X7_taken) (pc := 48) (len := 3) (L := [(2, v0), (0, v1), (0, v2), (0, v3)]) (st := [(0, v3)]) rfl (Nat.le_of_ble_eq_true rfl) (Nat.le_of_ble_eq_true rfl)).trans rfl
set_option maxRecDepth 100000 in
theorem e_X7_taken_51 {sc : dS} {d : Nat} {K : List (Nat × Nat)} {M : dM} {v0 v1 v2 v3 s0 : Int} : vr sc d c_X7_taken (51, [(2, v0), (0, v1), (0, v2), (0, v3)], [(0, s0)], (K, M)) = (vr sc d c_X7_taken (37, [(2, v0), (0, v1), (0, v2), (0, s0)], [], (K, M))) := by
  exact vr_steps 2 rfl

noncomputable def c_J6_bitCount_0f7a4 : Nat → Option dI := d_mcode m_J6_bitCount_0f7a4
set_option maxRecDepth 100000 in
theorem e_J6_bitCount_0f7a4_0 {sc : dS} {d : Nat} {K : List (Nat × Nat)} {M : dM} {v0 : Int} : vr sc d c_J6_bitCount_0f7a4 (0, [(0, v0)], [], (K, M)) = (some ([(0, i_and (w32 ((w32 ((i_and (w32 ((w32 ((i_and (w32 (v0 - (i_and (i_ushr v0 1) 1431655765))) 858993459) + (i_and (i_ushr (w32 (v0 - (i_and (i_ushr v0 1) 1431655765))) 2) 858993459))) + (i_ushr (w32 ((i_and (w32 (v0 - (i_and (i_ushr v0 1) 1431655765))) 858993459) + (i_and (i_ushr (w32 (v0 - (i_and (i_ushr v0 1) 1431655765))) 2) 858993459))) 4))) 252645135) + (i_ushr (i_and (w32 ((w32 ((i_and (w32 (v0 - (i_and (i_ushr v0 1) 1431655765))) 858993459) + (i_and (i_ushr (w32 (v0 - (i_and (i_ushr v0 1) 1431655765))) 2) 858993459))) + (i_ushr (w32 ((i_and (w32 (v0 - (i_and (i_ushr v0 1) 1431655765))) 858993459) + (i_and (i_ushr (w32 (v0 - (i_and (i_ushr v0 1) 1431655765))) 2) 858993459))) 4))) 252645135) 8))) + (i_ushr (w32 ((i_and (w32 ((w32 ((i_and (w32 (v0 - (i_and (i_ushr v0 1) 1431655765))) 858993459) + (i_and (i_ushr (w32 (v0 - (i_and (i_ushr v0 1) 1431655765))) 2) 858993459))) + (i_ushr (w32 ((i_and (w32 (v0 - (i_and (i_ushr v0 1) 1431655765))) 858993459) + (i_and (i_ushr (w32 (v0 - (i_and (i_ushr v0 1) 1431655765))) 2) 858993459))) 4))) 252645135) + (i_ushr (i_and (w32 ((w32 ((i_and (w32 (v0 - (i_and (i_ushr v0 1) 1431655765))) 858993459) + (i_and (i_ushr (w32 (v0 - (i_and (i_ushr v0 1) 1431655765))) 2) 858993459))) + (i_ushr (w32 ((i_and (w32 (v0 - (i_and (i_ushr v0 1) 1431655765))) 858993459) + (i_and (i_ushr (w32 (v0 - (i_and (i_ushr v0 1) 1431655765))) 2) 858993459))) 4))) 252645135) 8))) 16))) 63)], (K, M))) := by
  refine (vr_steps 41 (x' := (52, [(0, w32 ((w32 ((i_and (w32 ((w32 ((i_and (w32 (v0 - (i_and (i_ushr v0 1) 1431655765))) 858993459) + (i_and (i_ushr (w32 (v0 - (i_and (i_ushr v0 1) 1431655765))) 2) 858993459))) + (i_ushr (w32 ((i_and (w32 (v0 - (i_and (i_ushr v0 1) 1431655765))) 858993459) + (i_and (i_ushr (w32 (v0 - (i_and (i_ushr v0 1) 1431655765))) 2) 858993459))) 4))) 252645135) + (i_ushr (i_and (w32 ((w32 ((i_and (w32 (v0 - (i_and (i_ushr v0 1) 1431655765))) 858993459) + (i_and (i_ushr (w32 (v0 - (i_and (i_ushr v0 1) 1431655765))) 2) 858993459))) + (i_ushr (w32 ((i_and (w32 (v0 - (i_and (i_ushr v0 1) 1431655765))) 858993459) + (i_and (i_ushr (w32 (v0 - (i_and (i_ushr v0 1) 1431655765))) 2) 858993459))) 4))) 252645135) 8))) + (i_ushr (w32 ((i_and (w32 ((w32 ((i_and (w32 (v0 - (i_and (i_ushr v0 1) 1431655765))) 858993459) + (i_and (i_ushr (w32 (v0 - (i_and (i_ushr v0 1) 1431655765))) 2) 858993459))) + (i_ushr (w32 ((i_and (w32 (v0 - (i_and (i_ushr v0 1) 1431655765))) 858993459) + (i_and (i_ushr (w32 (v0 - (i_and (i_ushr v0 1) 1431655765))) 2) 858993459))) 4))) 252645135) + (i_ushr (i_and (w32 ((w32 ((i_and (w32 (v0 - (i_and (i_ushr v0 1) 1431655765))) 858993459) + (i_and (i_ushr (w32 (v0 - (i_and (i_ushr v0 1) 1431655765))) 2) 858993459))) + (i_ushr (w32 ((i_and (w32 (v0 - (i_and (i_ushr v0 1) 1431655765))) 858993459) + (i_and (i_ushr (w32 (v0 - (i_and (i_ushr v0 1) 1431655765))) 2) 858993459))) 4))) 252645135) 8))) 16)))], [(0, i_and (w32 ((w32 ((i_and (w32 ((w32 ((i_and (w32 (v0 - (i_and (i_ushr v0 1) 1431655765))) 858993459) + (i_and (i_ushr (w32 (v0 - (i_and (i_ushr v0 1) 1431655765))) 2) 858993459))) + (i_ushr (w32 ((i_and (w32 (v0 - (i_and (i_ushr v0 1) 1431655765))) 858993459) + (i_and (i_ushr (w32 (v0 - (i_and (i_ushr v0 1) 1431655765))) 2) 858993459))) 4))) 252645135) + (i_ushr (i_and (w32 ((w32 ((i_and (w32 (v0 - (i_and (i_ushr v0 1) 1431655765))) 858993459) + (i_and (i_ushr (w32 (v0 - (i_and (i_ushr v0 1) 1431655765))) 2) 858993459))) + (i_ushr (w32 ((i_and (w32 (v0 - (i_and (i_ushr v0 1) 1431655765))) 858993459) + (i_and (i_ushr (w32 (v0 - (i_and (i_ushr v0 1) 1431655765))) 2) 858993459))) 4))) 252645135) 8))) + (i_ushr (w32 ((i_and (w32 ((w32 ((i_and (w32 (v0 - (i_and (i_ushr v0 1) 1431655765))) 858993459) + (i_and (i_ushr (w32 (v0 - (i_and (i_ushr v0 1) 1431655765))) 2) 858993459))) + (i_ushr (w32 ((i_and (w32 (v0 - (i_and (i_ushr v0 1) 1431655765))) 858993459) + (i_and (i_ushr (w32 (v0 - (i_and (i_ushr v0 1) 1431655765))) 2) 858993459))) 4))) 252645135) + (i_ushr (i_and (w32 ((w32 ((i_and (w32 (v0 - (i_and (i_ushr v0 1) 1431655765))) 858993459) + (i_and (i_ushr (w32 (v0 - (i_and (i_ushr v0 1) 1431655765))) 2) 858993459))) + (i_ushr (w32 ((i_and (w32 (v0 - (i_and (i_ushr v0 1) 1431655765))) 858993459) + (i_and (i_ushr (w32 (v0 - (i_and (i_ushr v0 1) 1431655765))) 2) 858993459))) 4))) 252645135) 8))) 16))) 63)], (K, M))) rfl).trans ?_
  exact vr_ret (ai := (35, 1, 1, 0, [])) rfl rfl

noncomputable def c_J0_length_8abf5 : Nat → Option dI := d_mcode m_J0_length_8abf5
set_option maxRecDepth 100000 in
theorem e_J0_length_8abf5_0 {sc : dS} {d : Nat} {K : List (Nat × Nat)} {M : dM} {v0 : Int} : vr sc d c_J0_length_8abf5 (0, [(2, v0)], [], (K, M)) = (if v0 = 1000002 ∨ v0 = 1000003 then (if (v0 + 2) = 1000004 ∨ (v0 + 2) = 1000005 then (if v0 = 1000002 ∨ v0 = 1000003 then (vc sc d 206 [(2, v0)] (K, M)).bind (fun r => vr sc d c_J0_length_8abf5 (9, [(2, v0)], r.1 ++ [(0, ((d_str ((v0 + 2) - 1000004).toNat).length : Int))], r.2)) else none) else none) else none) := by
  refine (vr_steps 1 (x' := (1, [(2, v0)], [(2, v0)], (K, M))) rfl).trans ?_
  refine (v_val rfl).trans ?_
  refine p_congr (fun _ => ?_)
  refine (v_blen rfl).trans ?_
  refine p_congr (fun _ => ?_)
  refine (vr_steps 1 (x' := (6, [(2, v0)], [(2, v0), (0, ((d_str ((v0 + 2) - 1000004).toNat).length : Int))], (K, M))) rfl).trans ?_
  exact (v_str (k := 206) (n := 1) (r := v0) (av := []) (code := c_J0_length_8abf5) (pc := 6) (len := 3) (L := [(2, v0)]) (st := [(2, v0), (0, ((d_str ((v0 + 2) - 1000004).toNat).length : Int))]) rfl (Nat.le_of_ble_eq_true rfl) (Nat.le_of_ble_eq_true rfl) rfl).trans rfl
set_option maxRecDepth 100000 in
theorem e_J0_length_8abf5_9 {sc : dS} {d : Nat} {K : List (Nat × Nat)} {M : dM} {v0 s0 s1 : Int} : vr sc d c_J0_length_8abf5 (9, [(2, v0)], [(0, s1), (0, s0)], (K, M)) = (some ([(0, i_shr s0 s1)], (K, M))) := by
  refine (vr_steps 1 (x' := (10, [(2, v0)], [(0, i_shr s0 s1)], (K, M))) rfl).trans ?_
  exact vr_ret (ai := (35, 1, 1, 0, [])) rfl rfl

noncomputable def c_J0_charAt_5068e : Nat → Option dI := d_mcode m_J0_charAt_5068e
set_option maxRecDepth 100000 in
theorem e_J0_charAt_5068e_0 {sc : dS} {d : Nat} {K : List (Nat × Nat)} {M : dM} {v0 v1 : Int} : vr sc d c_J0_charAt_5068e (0, [(2, v0), (0, v1)], [], (K, M)) = (if v0 = 1000002 ∨ v0 = 1000003 then (vc sc d 207 [(2, v0)] (K, M)).bind (fun r => vr sc d c_J0_charAt_5068e (4, [(2, v0), (0, v1)], r.1 ++ [], r.2)) else none) := by
  refine (vr_steps 1 (x' := (1, [(2, v0), (0, v1)], [(2, v0)], (K, M))) rfl).trans ?_
  exact (v_str (k := 207) (n := 1) (r := v0) (av := []) (code := c_J0_charAt_5068e) (pc := 1) (len := 3) (L := [(2, v0), (0, v1)]) (st := [(2, v0)]) rfl (Nat.le_of_ble_eq_true rfl) (Nat.le_of_ble_eq_true rfl) rfl).trans rfl
set_option maxRecDepth 100000 in
theorem e_J0_charAt_5068e_4 {sc : dS} {d : Nat} {K : List (Nat × Nat)} {M : dM} {v0 v1 s0 : Int} : vr sc d c_J0_charAt_5068e (4, [(2, v0), (0, v1)], [(0, s0)], (K, M)) = (if s0 = 0 then (if v0 = 1000002 ∨ v0 = 1000003 then (vc sc d 212 [(2, v0 + 2), (0, v1)] (K, M)).bind (fun r => vr sc d c_J0_charAt_5068e (24, [(2, v0), (0, v1)], r.1 ++ [], r.2)) else none) else (if v0 = 1000002 ∨ v0 = 1000003 then (vc sc d 209 [(2, v0 + 2), (0, v1)] (K, M)).bind (fun r => vr sc d c_J0_charAt_5068e (15, [(2, v0), (0, v1)], r.1 ++ [], r.2)) else none)) := by
  refine (v_if (k := 0) (b := 16) (c := s0 = 0) rfl rfl).trans ?_
  refine c_congr (fun _ => ?_) (fun _ => ?_)
  · refine (vr_steps 1 (x' := (17, [(2, v0), (0, v1)], [(2, v0)], (K, M))) rfl).trans ?_
    refine (v_val rfl).trans ?_
    refine p_congr (fun _ => ?_)
    refine (vr_steps 1 (x' := (21, [(2, v0), (0, v1)], [(0, v1), (2, v0 + 2)], (K, M))) rfl).trans ?_
    exact (v_stat (k := 212) (n := 2) (code := c_J0_charAt_5068e) (pc := 21) (len := 3) (L := [(2, v0), (0, v1)]) (st := [(0, v1), (2, v0 + 2)]) rfl (Nat.le_of_ble_eq_true rfl) (Nat.le_of_ble_eq_true rfl)).trans rfl
  · refine (vr_steps 1 (x' := (8, [(2, v0), (0, v1)], [(2, v0)], (K, M))) rfl).trans ?_
    refine (v_val rfl).trans ?_
    refine p_congr (fun _ => ?_)
    refine (vr_steps 1 (x' := (12, [(2, v0), (0, v1)], [(0, v1), (2, v0 + 2)], (K, M))) rfl).trans ?_
    exact (v_stat (k := 209) (n := 2) (code := c_J0_charAt_5068e) (pc := 12) (len := 3) (L := [(2, v0), (0, v1)]) (st := [(0, v1), (2, v0 + 2)]) rfl (Nat.le_of_ble_eq_true rfl) (Nat.le_of_ble_eq_true rfl)).trans rfl
set_option maxRecDepth 100000 in
theorem e_J0_charAt_5068e_15 {sc : dS} {d : Nat} {K : List (Nat × Nat)} {M : dM} {v0 v1 s0 : Int} : vr sc d c_J0_charAt_5068e (15, [(2, v0), (0, v1)], [(0, s0)], (K, M)) = (d_ret 6 [(0, s0)] (K, M)) := by
  exact vr_ret (ai := (35, 1, 6, 0, [])) rfl rfl
set_option maxRecDepth 100000 in
theorem e_J0_charAt_5068e_24 {sc : dS} {d : Nat} {K : List (Nat × Nat)} {M : dM} {v0 v1 s0 : Int} : vr sc d c_J0_charAt_5068e (24, [(2, v0), (0, v1)], [(0, s0)], (K, M)) = (d_ret 6 [(0, s0)] (K, M)) := by
  exact vr_ret (ai := (35, 1, 6, 0, [])) rfl rfl

noncomputable def c_J0_coder_7d493 : Nat → Option dI := d_mcode m_J0_coder_7d493
set_option maxRecDepth 100000 in
theorem e_J0_coder_7d493_0 {sc : dS} {d : Nat} {K : List (Nat × Nat)} {M : dM} {v0 : Int} : vr sc d c_J0_coder_7d493 (0, [(2, v0)], [], (K, M)) = (if v0 = 1000002 ∨ v0 = 1000003 then d_ret 5 [(0, 0)] (K, M) else none) := by
  refine (vr_steps 3 (x' := (7, [(2, v0)], [(2, v0)], (K, M))) rfl).trans ?_
  refine (v_cod rfl).trans ?_
  refine p_congr (fun _ => ?_)
  refine (vr_steps 1 (x' := (14, [(2, v0)], [(0, 0)], (K, M))) rfl).trans ?_
  exact vr_ret (ai := (35, 1, 5, 0, [])) rfl rfl

noncomputable def c_J0_isLatin1_aae02 : Nat → Option dI := d_mcode m_J0_isLatin1_aae02
set_option maxRecDepth 100000 in
theorem e_J0_isLatin1_aae02_0 {sc : dS} {d : Nat} {K : List (Nat × Nat)} {M : dM} {v0 : Int} : vr sc d c_J0_isLatin1_aae02 (0, [(2, v0)], [], (K, M)) = (if v0 = 1000002 ∨ v0 = 1000003 then some ([(0, 1)], (K, M)) else none) := by
  refine (vr_steps 3 (x' := (7, [(2, v0)], [(2, v0)], (K, M))) rfl).trans ?_
  refine (v_cod rfl).trans ?_
  refine p_congr (fun _ => ?_)
  refine (vr_steps 3 (x' := (18, [(2, v0)], [(0, 1)], (K, M))) rfl).trans ?_
  exact vr_ret (ai := (35, 1, 3, 0, [])) rfl rfl

noncomputable def c_J0_checkIndex_df160 : Nat → Option dI := d_mcode m_J0_checkIndex_df160
set_option maxRecDepth 100000 in
theorem e_J0_checkIndex_df160_0 {sc : dS} {d : Nat} {K : List (Nat × Nat)} {M : dM} {v0 v1 : Int} : vr sc d c_J0_checkIndex_df160 (0, [(0, v0), (0, v1)], [], (K, M)) = ((vc sc d 215 [(0, v0), (0, v1), (2, 1000006)] (K, M)).bind (fun r => vr sc d c_J0_checkIndex_df160 (8, [(0, v0), (0, v1)], r.1 ++ [], r.2))) := by
  refine (vr_steps 3 (x' := (5, [(0, v0), (0, v1)], [(2, 1000006), (0, v1), (0, v0)], (K, M))) rfl).trans ?_
  exact (v_stat (k := 215) (n := 3) (code := c_J0_checkIndex_df160) (pc := 5) (len := 3) (L := [(0, v0), (0, v1)]) (st := [(2, 1000006), (0, v1), (0, v0)]) rfl (Nat.le_of_ble_eq_true rfl) (Nat.le_of_ble_eq_true rfl)).trans rfl
set_option maxRecDepth 100000 in
theorem e_J0_checkIndex_df160_8 {sc : dS} {d : Nat} {K : List (Nat × Nat)} {M : dM} {v0 v1 s0 : Int} : vr sc d c_J0_checkIndex_df160 (8, [(0, v0), (0, v1)], [(0, s0)], (K, M)) = (some ([], (K, M))) := by
  refine (vr_steps 1 (x' := (9, [(0, v0), (0, v1)], [], (K, M))) rfl).trans ?_
  exact vr_ret (ai := (35, 1, 0, 0, [])) rfl rfl

noncomputable def c_J1_charAt_3b067 : Nat → Option dI := d_mcode m_J1_charAt_3b067
set_option maxRecDepth 100000 in
theorem e_J1_charAt_3b067_0 {sc : dS} {d : Nat} {K : List (Nat × Nat)} {M : dM} {v0 v1 : Int} : vr sc d c_J1_charAt_3b067 (0, [(2, v0), (0, v1)], [], (K, M)) = (if v0 = 1000004 ∨ v0 = 1000005 then (vc sc d 208 [(0, v1), (0, ((d_str (v0 - 1000004).toNat).length : Int))] (K, M)).bind (fun r => vr sc d c_J1_charAt_3b067 (6, [(2, v0), (0, v1)], r.1 ++ [], r.2)) else none) := by
  refine (vr_steps 2 (x' := (2, [(2, v0), (0, v1)], [(2, v0), (0, v1)], (K, M))) rfl).trans ?_
  refine (v_blen rfl).trans ?_
  refine p_congr (fun _ => ?_)
  exact (v_stat (k := 208) (n := 2) (code := c_J1_charAt_3b067) (pc := 3) (len := 3) (L := [(2, v0), (0, v1)]) (st := [(0, ((d_str (v0 - 1000004).toNat).length : Int)), (0, v1)]) rfl (Nat.le_of_ble_eq_true rfl) (Nat.le_of_ble_eq_true rfl)).trans rfl
set_option maxRecDepth 100000 in
theorem e_J1_charAt_3b067_6 {sc : dS} {d : Nat} {K : List (Nat × Nat)} {M : dM} {v0 v1 : Int} : vr sc d c_J1_charAt_3b067 (6, [(2, v0), (0, v1)], [], (K, M)) = (if (v0 = 1000004 ∨ v0 = 1000005) ∧ 0 ≤ v1 ∧ v1 < (d_str (v0 - 1000004).toNat).length then d_ret 6 [(0, i_c (i_and ((d_str (v0 - 1000004).toNat).getD v1.toNat 0) 255))] (K, M) else none) := by
  refine (vr_steps 2 (x' := (8, [(2, v0), (0, v1)], [(0, v1), (2, v0)], (K, M))) rfl).trans ?_
  refine (v_byte rfl).trans ?_
  refine p_congr (fun _ => ?_)
  refine (vr_steps 3 (x' := (14, [(2, v0), (0, v1)], [(0, i_c (i_and ((d_str (v0 - 1000004).toNat).getD v1.toNat 0) 255))], (K, M))) rfl).trans ?_
  exact vr_ret (ai := (35, 1, 6, 0, [])) rfl rfl

noncomputable def c_J7_fill_53178 : Nat → Option dI := d_mcode m_J7_fill_53178
set_option maxRecDepth 100000 in
theorem e_J7_fill_53178_0 {sc : dS} {d : Nat} {K : List (Nat × Nat)} {M : dM} {v0 v1 : Int} {q2 q3 : dV} : vr sc d c_J7_fill_53178 (0, [(2, v0), (0, v1), q2, q3], [], (K, M)) = (if lg_ K v0 = true then vr sc d c_J7_fill_53178 (5, [(2, v0), (0, v1), (0, 0), (0, kn K v0)], [], (K, M)) else none) := by
  refine (vr_steps 3 (x' := (3, [(2, v0), (0, v1), (0, 0), q3], [(2, v0)], (K, M))) rfl).trans ?_
  refine (v_alen rfl).trans ?_
  refine g_congr (fun _ => ?_)
  exact vr_steps 1 rfl
set_option maxRecDepth 100000 in
theorem e_J7_fill_53178_5 {sc : dS} {d : Nat} {K : List (Nat × Nat)} {M : dM} {v0 v1 v2 v3 : Int} : vr sc d c_J7_fill_53178 (5, [(2, v0), (0, v1), (0, v2), (0, v3)], [], (K, M)) = (if v3 ≤ v2 then some ([], (K, M)) else (if ag K 8 v0 v2 = true then vr sc d c_J7_fill_53178 (5, [(2, v0), (0, v1), (0, w32 (v2 + 1)), (0, v3)], [], (K, d_up M v0 v2 v1)) else none)) := by
  refine (vr_steps 2 (x' := (7, [(2, v0), (0, v1), (0, v2), (0, v3)], [(0, v3), (0, v2)], (K, M))) rfl).trans ?_
  refine (v_icmp (k := 3) (b := 20) (c := v3 ≤ v2) rfl rfl).trans ?_
  refine c_congr (fun _ => ?_) (fun _ => ?_)
  · exact vr_ret (ai := (35, 1, 0, 0, [])) rfl rfl
  · refine (vr_steps 3 (x' := (13, [(2, v0), (0, v1), (0, v2), (0, v3)], [(0, v1), (0, v2), (2, v0)], (K, M))) rfl).trans ?_
    refine (v_ast rfl).trans ?_
    refine g_congr (fun _ => ?_)
    exact vr_steps 2 rfl

noncomputable def c_J3_checkIndex_8e157 : Nat → Option dI := d_mcode m_J3_checkIndex_8e157
set_option maxRecDepth 100000 in
theorem e_J3_checkIndex_8e157_0 {sc : dS} {d : Nat} {K : List (Nat × Nat)} {M : dM} {v0 v1 v2 : Int} : vr sc d c_J3_checkIndex_8e157 (0, [(0, v0), (0, v1), (2, v2)], [], (K, M)) = (if v0 < 0 then vr sc d c_J3_checkIndex_8e157 (12, [(0, v0), (0, v1), (2, v2)], [(0, v1), (0, v0), (2, v2)], (K, M)) else (if v0 < v1 then some ([(0, v0)], (K, M)) else vr sc d c_J3_checkIndex_8e157 (12, [(0, v0), (0, v1), (2, v2)], [(0, v1), (0, v0), (2, v2)], (K, M)))) := by
  refine (vr_steps 1 (x' := (1, [(0, v0), (0, v1), (2, v2)], [(0, v0)], (K, M))) rfl).trans ?_
  refine (v_if (k := 2) (b := 9) (c := v0 < 0) rfl rfl).trans ?_
  refine c_congr (fun _ => ?_) (fun _ => ?_)
  · exact vr_steps 3 rfl
  · refine (vr_steps 2 (x' := (6, [(0, v0), (0, v1), (2, v2)], [(0, v1), (0, v0)], (K, M))) rfl).trans ?_
    refine (v_icmp (k := 2) (b := 16) (c := v0 < v1) rfl rfl).trans ?_
    refine c_congr (fun _ => ?_) (fun _ => ?_)
    · refine (vr_steps 1 (x' := (17, [(0, v0), (0, v1), (2, v2)], [(0, v0)], (K, M))) rfl).trans ?_
      exact vr_ret (ai := (35, 1, 1, 0, [])) rfl rfl
    · exact vr_steps 3 rfl

