/-! the reference reads a text, from its bytes -/
def rX (t : Nat) (b : List Int) (M : dM) : Prop := M 109 t = b.length ∧ ∀ (i : Nat) (h : i < b.length), M 108 ((160 * t + i : Nat) : Int) = b[i]
def RY (M M' : dM) : Prop := ∀ x k : Int, (x = 107 → k < 19 ∨ 27 < k) → M' x k = M x k
theorem RY.rf (M : dM) : RY M M := fun _ _ _ => rfl
theorem RY.tr {M M1 M2 : dM} (h1 : RY M M1) (h2 : RY M1 M2) : RY M M2 := fun x k g => (h2 x k g).trans (h1 x k g)
theorem RN.ry {M M' : dM} (h : RN M M') : RY M M' := fun x k g => h x k (fun z => by have := g z; omega)
theorem RY.up {M : dM} {k : Int} (h : 19 ≤ k ∧ k ≤ 27) (v : Int) : RY M (d_up M 107 k v) := fun x j g => by
  unfold d_up
  rw [if_neg]
  rintro ⟨rfl, rfl⟩
  have := g rfl
  omega
theorem RY.sk {M M' : dM} (h : RY M M') (hs : Sk M) : Sk M' := Sk_of hs fun x k hq => h x k fun z => by
  by_cases p : 19 ≤ k ∧ k ≤ 27
  · rw [z, rf_107 k (by omega) p.2] at hq; cases hq
  · omega
theorem rdp_bad {b : List Int} {k : Nat} {x : Ps} (h : pK x = 1) (g : pF x ≠ -1) : rdp b k x = x := by
  have e1 : ned b ((10 + k : Nat) : Int) x = x := (if_neg (by rw [h]; omega)).trans (fai_id h g)
  have e2 : ned b 59 x = x := (if_neg (by rw [h]; decide)).trans (fai_id h g)
  unfold rdp
  rw [e1, lev_bad h g, e2]
theorem rd_pC (b : List Int) : pC (rd b) = pC (rd3 b) := ned_pC b 0 (rd3 b)
theorem ag_109 {i : Int} (h0 : 0 ≤ i) (h1 : i < 6) : ag K0 8 109 i = true := ag_of (n := 6) rfl h0 h1
def pick3 (w : Nat) (a b c : Int) : Int := match w with
  | 0 => a
  | 1 => b
  | _ => c
theorem readText_fin {sc : dS} {d : Nat} {M : dM} {t : Int} {w : Nat} {v0 v1 v2 : Int} (hw : w < 3) : vr sc d c_X7_readText (147, [(2, 107), (0, t), (0, (w : Int)), (0, v0), (0, v1), (0, v2)], [], (K0, M)) = some ([(0, pick3 w v0 v1 v2)], (K0, M)) := by
  rw [e_X7_readText_147]
  rcases (show w = 0 ∨ w = 1 ∨ w = 2 by omega) with rfl | rfl | rfl
  · rw [if_neg (by decide)]
    rfl
  · rw [if_pos (by decide), if_neg (by decide)]
    rfl
  · rw [if_pos (by decide), if_pos (by decide)]
    rfl
theorem readText_r {sc : dS} {d : Nat} {ns : Nat → Int} {t : Nat} {b : List Int} (ht : t < 6) (hb : okB b) {M : dM} (hs : Sk M) (hx : rX t b M) (hn : ∀ i : Nat, i < 6 → M 107 (13 + (i : Int)) = ns i) {w : Nat} (hw : w < 3) : ∃ (M' : dM) (v : Int), vc sc (d + 46) 142 [(2, 107), (0, (t : Int)), (0, (w : Int))] (K0, M) = some ([(0, v)], (K0, M')) ∧ RY M M' ∧ (pF (rd b) = -1 → M' 107 26 = 0 ∧ ev ns (seg b w) [] = [v]) ∧ (pF (rd b) ≠ -1 → M' 107 26 = 1 ∧ M' 107 27 = pF (rd b)) := by
  have rg1 : rg K0 7 107 = true := rfl
  have hbl := hb.1
  have e160 : w32 (160 * (t : Int)) = ((160 * t : Nat) : Int) := w32_e (by omega) (by omega) (by omega)
  rw [vc_s (md := m_X7_readText) (L := [(2, 107), (0, (t : Int)), (0, (w : Int)), (3, 0), (3, 0), (3, 0)]) rfl (Nat.le_of_ble_eq_true rfl) rfl]
  show ∃ M' v, vr sc (d + 45) c_X7_readText (0, [(2, 107), (0, (t : Int)), (0, (w : Int)), (3, 0), (3, 0), (3, 0)], [], (K0, M)) = _ ∧ _
  rw [e_X7_readText_0, if_pos (show og K0 7 107 19 = true from rfl), e160]
  clear e160
  rw [if_pos ⟨by omega, by omega⟩, if_pos (show og K0 7 107 2 = true from rfl), d_up_n2 _ (show (2 : Int) ≠ 19 by decide), (Sk_m1 hs).2, if_pos (ag_109 (by omega) (by omega)), if_pos (show og K0 7 107 20 = true from rfl), d_up_n1 _ (show (109 : Int) ≠ 107 by decide), hx.1, if_pos ⟨by omega, by omega⟩, if_pos (show og K0 7 107 21 = true from rfl), if_pos (by decide), if_pos (show og K0 7 107 25 = true from rfl), if_pos (by decide), if_pos (show og K0 7 107 26 = true from rfl), if_pos rg1]
  have ry : RY M (d_up (d_up (d_up (d_up (d_up M 107 19 ((160 * t : Nat) : Int)) 107 20 (b.length : Int)) 107 21 0) 107 25 0) 107 26 0) := ((((RY.up (by decide) _).tr (RY.up (by decide) _)).tr (RY.up (by decide) _)).tr (RY.up (by decide) _)).tr (RY.up (by decide) _)
  have f19 : (d_up (d_up (d_up (d_up (d_up M 107 19 ((160 * t : Nat) : Int)) 107 20 (b.length : Int)) 107 21 0) 107 25 0) 107 26 0) 107 19 = ((160 * t : Nat) : Int) := by rw [d_up_n2 _ (by decide), d_up_n2 _ (by decide), d_up_n2 _ (by decide), d_up_n2 _ (by decide), d_up_at]
  have f20 : (d_up (d_up (d_up (d_up (d_up M 107 19 ((160 * t : Nat) : Int)) 107 20 (b.length : Int)) 107 21 0) 107 25 0) 107 26 0) 107 20 = (b.length : Int) := by rw [d_up_n2 _ (by decide), d_up_n2 _ (by decide), d_up_n2 _ (by decide), d_up_at]
  have f21 : (d_up (d_up (d_up (d_up (d_up M 107 19 ((160 * t : Nat) : Int)) 107 20 (b.length : Int)) 107 21 0) 107 25 0) 107 26 0) 107 21 = ((0 : Nat) : Int) := by rw [d_up_n2 _ (by decide), d_up_n2 _ (by decide), d_up_at]; rfl
  have f25 : (d_up (d_up (d_up (d_up (d_up M 107 19 ((160 * t : Nat) : Int)) 107 20 (b.length : Int)) 107 21 0) 107 25 0) 107 26 0) 107 25 = ((0 : Nat) : Int) := by rw [d_up_n2 _ (by decide), d_up_at]; rfl
  have f26 : (d_up (d_up (d_up (d_up (d_up M 107 19 ((160 * t : Nat) : Int)) 107 20 (b.length : Int)) 107 21 0) 107 25 0) 107 26 0) 107 26 = 0 := d_up_at _ _ _ _
  generalize d_up (d_up (d_up (d_up (d_up M 107 19 ((160 * t : Nat) : Int)) 107 20 (b.length : Int)) 107 21 0) 107 25 0) 107 26 0 = M0 at *
  have hB : rB t b M0 := ⟨ry.sk hs, f19, f20, fun i hi => (ry 108 _ (fun z => absurd z (by decide))).trans (hx.2 i hi)⟩
  obtain ⟨M1, a1, a2, a3⟩ := next_r (sc := sc) (d := d + 43) ht hb hB (Nat.zero_le _) f21
  rw [a1, Option.bind_some]
  show ∃ M' v, vr sc (d + 45) c_X7_readText (38, [(2, 107), (0, (t : Int)), (0, (w : Int)), (3, 0), (3, 0), (3, 0)], [], (K0, M1)) = _ ∧ _
  have gl := scn_le (b := b) (p := 0) (Nat.zero_le _)
  have q0 : RQ ns t b M1 (rd0 b) 0 := ⟨hB.rn a2.rn, fun i hi => (a2 107 _ (fun _ => by omega)).trans ((ry 107 _ (fun _ => by omega)).trans (hn i hi)), (a2 107 25 (fun _ => by omega)).trans f25, ⟨gl.1, gl.2.1⟩, Or.inl ⟨rfl, (a2 107 26 (fun _ => by omega)).trans f26, a3⟩⟩
  have i0 : Iv b (rd0 b) := ⟨Nat.zero_le _, gl.1, gl.2.1, fun z => scn_lt z⟩
  have ry1 := ry.tr a2.rn.ry
  have c0 : pC (rd0 b) = [] := rfl
  have key : ∀ (N : dM) (x : Ps) (k : Nat), k < 3 → RQ ns t b N x 0 → bi (pF x = -1 ∧ wcb (6 + k) (pK x) (pV x) = true) = bi (pF x = -1 ∧ pK x = ((10 + k : Nat) : Int)) := fun N x k hk _ => bi_iff (by
    have e : wcb (6 + k) (pK x) (pV x) = true ↔ pK x = ((10 + k : Nat) : Int) := by
      rw [wcb_iff]
      unfold wcd
      rw [if_neg (by omega)]
      omega
    rw [e])
  rw [e_X7_readText_38, if_pos rg1, show vc sc (d + 45) 131 [(2, 107), (0, 104), (0, 111), (0, 108), (0, 100), (0, 115), (0, 0), (0, 0), (0, 0)] (K0, M1) = _ from word_r (sc := sc) (d := d + 42) ht hb q0 (q := 6 + 0) (by decide), Option.bind_some, key M1 _ 0 (by decide) q0]
  show ∃ M' v, vr sc (d + 45) c_X7_readText (56, [(2, 107), (0, (t : Int)), (0, (w : Int)), (3, 0), (3, 0), (3, 0)], [(0, bi (pF (rd0 b) = -1 ∧ pK (rd0 b) = ((10 + 0 : Nat) : Int))), (2, 107)], (K0, M1)) = _ ∧ _
  obtain ⟨M2, v0, b1, b2, b3, b4⟩ := part_r (sc := sc) (d := d) ht hb q0 rfl i0 (k := 0) (by decide)
  rw [e_X7_readText_56, if_pos rg1, b1, Option.bind_some]
  show ∃ M' v, vr sc (d + 45) c_X7_readText (59, [(2, 107), (0, (t : Int)), (0, (w : Int)), (3, 0), (3, 0), (3, 0)], [(0, v0)], (K0, M2)) = _ ∧ _
  rw [e_X7_readText_59, if_pos (show og K0 7 107 26 = true from rfl)]
  have e1 : rdp b 0 (rd0 b) = rd1 b := rfl
  rw [e1] at b2 b4
  by_cases g1 : ¬ pF (rd1 b) = -1
  · have k1 := b4.2 g1
    have e2 : rd2 b = rd1 b := rdp_bad k1 g1
    have e3 : rd3 b = rd1 b := (congrArg (rdp b 2) e2).trans (rdp_bad k1 g1)
    have e4 : rd b = rd1 b := (congrArg (ned b 0) e3).trans ((if_neg (by rw [k1]; decide)).trans (fai_id k1 g1))
    rw [(b2.bad g1).1, if_neg (by decide), e_X7_readText_93, if_pos (show og K0 7 107 26 = true from rfl), (b2.bad g1).1, if_neg (by decide), e_X7_readText_127, if_pos (show og K0 7 107 26 = true from rfl), (b2.bad g1).1, if_pos (by decide), readText_fin hw, e4]
    exact ⟨M2, _, rfl, ry1.tr b3.ry, fun z => absurd z g1, fun _ => b2.bad g1⟩
  have g1 := Classical.not_not.mp g1
  obtain ⟨i1, l1, c1, ec1, lc1, hc1⟩ := b4.1 g1
  rw [(b2.good g1).1, if_pos rfl, if_pos rg1, show vc sc (d + 45) 131 [(2, 107), (0, 108), (0, 101), (0, 97), (0, 114), (0, 110), (0, 115), (0, 0), (0, 0)] (K0, M2) = _ from word_r (sc := sc) (d := d + 42) ht hb b2 (q := 6 + 1) (by decide), Option.bind_some, key M2 _ 1 (by decide) b2]
  show ∃ M' v, vr sc (d + 45) c_X7_readText (90, [(2, 107), (0, (t : Int)), (0, (w : Int)), (0, v0), (3, 0), (3, 0)], [(0, bi (pF (rd1 b) = -1 ∧ pK (rd1 b) = ((10 + 1 : Nat) : Int))), (2, 107)], (K0, M2)) = _ ∧ _
  obtain ⟨M3, v1, d1, d2, d3, d4⟩ := part_r (sc := sc) (d := d) ht hb b2 g1 i1 (k := 1) (by decide)
  rw [e_X7_readText_90, if_pos rg1, d1, Option.bind_some]
  show ∃ M' v, vr sc (d + 45) c_X7_readText (93, [(2, 107), (0, (t : Int)), (0, (w : Int)), (0, v0), (3, 0), (3, 0)], [(0, v1)], (K0, M3)) = _ ∧ _
  rw [e_X7_readText_93, if_pos (show og K0 7 107 26 = true from rfl)]
  have e2 : rdp b 1 (rd1 b) = rd2 b := rfl
  rw [e2] at d2 d4
  by_cases g2 : ¬ pF (rd2 b) = -1
  · have k1 := d4.2 g2
    have e3 : rd3 b = rd2 b := rdp_bad k1 g2
    have e4 : rd b = rd2 b := (congrArg (ned b 0) e3).trans ((if_neg (by rw [k1]; decide)).trans (fai_id k1 g2))
    rw [(d2.bad g2).1, if_neg (by decide), e_X7_readText_127, if_pos (show og K0 7 107 26 = true from rfl), (d2.bad g2).1, if_pos (by decide), readText_fin hw, e4]
    exact ⟨M3, _, rfl, (ry1.tr b3.ry).tr d3.ry, fun z => absurd z g2, fun _ => d2.bad g2⟩
  have g2 := Classical.not_not.mp g2
  obtain ⟨i2, l2, c2, ec2, lc2, hc2⟩ := d4.1 g2
  rw [(d2.good g2).1, if_pos rfl, if_pos rg1, show vc sc (d + 45) 131 [(2, 107), (0, 114), (0, 101), (0, 97), (0, 100), (0, 115), (0, 0), (0, 0), (0, 0)] (K0, M3) = _ from word_r (sc := sc) (d := d + 42) ht hb d2 (q := 6 + 2) (by decide), Option.bind_some, key M3 _ 2 (by decide) d2]
  show ∃ M' v, vr sc (d + 45) c_X7_readText (124, [(2, 107), (0, (t : Int)), (0, (w : Int)), (0, v0), (0, v1), (3, 0)], [(0, bi (pF (rd2 b) = -1 ∧ pK (rd2 b) = ((10 + 2 : Nat) : Int))), (2, 107)], (K0, M3)) = _ ∧ _
  obtain ⟨M4, v2, f1, f2, f3, f4⟩ := part_r (sc := sc) (d := d) ht hb d2 g2 i2 (k := 2) (by decide)
  rw [e_X7_readText_124, if_pos rg1, f1, Option.bind_some]
  show ∃ M' v, vr sc (d + 45) c_X7_readText (127, [(2, 107), (0, (t : Int)), (0, (w : Int)), (0, v0), (0, v1), (3, 0)], [(0, v2)], (K0, M4)) = _ ∧ _
  rw [e_X7_readText_127, if_pos (show og K0 7 107 26 = true from rfl)]
  have e3 : rdp b 2 (rd2 b) = rd3 b := rfl
  rw [e3] at f2 f4
  have ry4 := ((ry1.tr b3.ry).tr d3.ry).tr f3.ry
  by_cases g3 : ¬ pF (rd3 b) = -1
  · have k1 := f4.2 g3
    have e4 : rd b = rd3 b := (if_neg (by rw [k1]; decide)).trans (fai_id k1 g3)
    rw [(f2.bad g3).1, if_pos (by decide), readText_fin hw, e4]
    exact ⟨M4, _, rfl, ry4, fun z => absurd z g3, fun _ => f2.bad g3⟩
  have g3 := Classical.not_not.mp g3
  obtain ⟨i3, l3, c3, ec3, lc3, hc3⟩ := f4.1 g3
  have hseg : ev ns (seg b w) [] = [pick3 w v0 v1 v2] := by
    rw [c0] at ec1
    have p1 : pC (rd1 b) = c1 := ec1
    have p2 : pC (rd2 b) = c1 ++ c2 := by rw [ec2, p1]
    have p3 : pC (rd3 b) = c1 ++ c2 ++ c3 := by rw [ec3, p2]
    unfold seg
    rw [rd_pC]
    rcases (show w = 0 ∨ w = 1 ∨ w = 2 by omega) with rfl | rfl | rfl
    · show ev ns (((pC (rd3 b)).take (pC (rd1 b)).length).drop 0) [] = [v0]
      rw [p3, p1, List.drop_zero, List.append_assoc, List.take_left]
      exact hc1 [] (by decide)
    · show ev ns (((pC (rd3 b)).take (pC (rd2 b)).length).drop (pC (rd1 b)).length) [] = [v1]
      rw [p3, p2, p1, List.take_left, List.drop_left]
      exact hc2 [] (by decide)
    · show ev ns (((pC (rd3 b)).take (pC (rd3 b)).length).drop (pC (rd2 b)).length) [] = [v2]
      rw [List.take_length, p3, p2, List.drop_left]
      exact hc3 [] (by decide)
  obtain ⟨h26, hK⟩ := f2.good g3
  rw [h26, if_neg (fun z => z rfl), if_pos (show og K0 7 107 22 = true from rfl)]
  by_cases t0 : M4 107 22 = 0
  · have k0 : pK (rd3 b) = 0 := by
      rcases rK_tok hK with y | y | y | y | y <;> omega
    have e4 : rd b = stp b (rd3 b) := if_pos k0
    have e5 : pF (rd b) = -1 := by rw [e4]; exact g3
    rw [if_pos t0, readText_fin hw]
    exact ⟨M4, _, rfl, ry4, fun _ => ⟨h26, hseg⟩, fun z => absurd e5 z⟩
  · have k0 : ¬ pK (rd3 b) = 0 := by
      rcases rK_tok hK with y | y | y | y | y <;> omega
    have e4 : rd b = fai (rd3 b) := if_neg k0
    have e5 : pF (rd b) ≠ -1 := by rw [e4]; exact fai_F
    obtain ⟨M5, h1, h2, h3⟩ := fail_r (sc := sc) (d := d + 44) hb f2
    rw [if_neg t0, if_pos rg1, h1, Option.bind_some]
    show ∃ M' v, vr sc (d + 45) c_X7_readText (147, [(2, 107), (0, (t : Int)), (0, (w : Int)), (0, v0), (0, v1), (0, v2)], [], (K0, M5)) = _ ∧ _
    rw [readText_fin hw]
    refine ⟨M5, _, rfl, ry4.tr h3.ry, fun z => absurd z e5, fun _ => ?_⟩
    rw [e4]
    exact h2.bad fai_F
