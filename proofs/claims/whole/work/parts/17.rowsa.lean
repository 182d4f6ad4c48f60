theorem d_clampI {i : Int} {n : Nat} (hr : R32 i) (h0 : 0 ≤ i) (h : i < n) : vp_in (Int32.ofInt i) n := vp_in_iff.mpr (by rw [i32_t hr]; exact ⟨h0, h⟩)
theorem d_tys_at (G : dG) : (d_tys G)[0]? = some (G.2.2.2 8, .int) ∧ (d_tys G)[1]? = some (G.2.2.2 9, .boolean) ∧ (d_tys G)[2]? = some (G.2.2.2 10, .object RX0) ∧ (d_tys G)[3]? = some (G.2.2.2 11, .object RX4) ∧ (d_tys G)[4]? = some (G.2.2.2 12, .object RX3) := ⟨rfl, rfl, rfl, rfl, rfl⟩
theorem d_upd_int {M : dM} {i : Nat} {j v : Int} (hj : R32 j) (h0 : 0 ≤ j) : (fun z : Nat => Int32.ofInt (d_up M i j v i z)) = upd (fun z : Nat => Int32.ofInt (M i z)) (Int32.ofInt j).toNatClampNeg (Int32.ofInt v) := by
  funext z
  rw [i32_clamp hj]
  unfold upd d_up
  by_cases h : z = j.toNat
  · rw [if_pos h, if_pos ⟨rfl, by omega⟩]
  · rw [if_neg h, if_neg (fun q => h (by omega))]
theorem d_upd_ref {G : dG} {M : dM} {i : Nat} {j v : Int} {q : Nat} (hj : R32 j) (h0 : 0 ≤ j) (hv : d_rf G v = some q) : (fun z : Nat => d_rf G (d_up M i j v i z)) = va_up (fun z : Nat => d_rf G (M i z)) (Int32.ofInt j).toNatClampNeg (some q) := by
  funext z
  rw [i32_clamp hj]
  unfold va_up d_up
  by_cases h : z = j.toNat
  · rw [if_pos h, if_pos ⟨rfl, by omega⟩, hv]
  · rw [if_neg h, if_neg (fun q => h (by omega))]
section DHA
variable {P : Nat → Option dD} {ini : Bool} {own : String} {cc : ByteArray} {nL pc : Nat}
theorem rh_iaload (hd : decode cc pc = .ok (.iaload, 1)) : d_RH P ini own cc nL pc 18 1 8 0 := by
  rintro p l e R s m args below meth c G sc Q H locs n0 s0 L st h x' ls ⟨hx, hb, hml, hown, hts, hF, hS0⟩ hini hfr hlo hg hz hP hS hL hs hn hs0 hR1 hR2 kk
  match st, hs with
  | (i1, i2) :: (x1, x2) :: st, hs =>
    have hs2 : (if i1 = 0 ∧ x1 = 2 then (match d_cell h x2 with
      | some c => if c.1 = 8 ∧ (c.1 = 8 ∨ c.1 = 9) ∧ 0 ≤ i2 ∧ i2 < c.2 then some (pc + 1, L, (0, h.2 x2 i2) :: st, h) else none
      | none => none) else none) = some x' := hs
    by_cases ht : i1 = 0 ∧ x1 = 2
    · rw [if_pos ht] at hs2
      obtain ⟨rfl, rfl⟩ := ht
      cases hcl : d_cell h x2 with
      | none => rw [hcl] at hs2; cases hs2
      | some q =>
        rw [hcl] at hs2
        obtain ⟨⟨g1, -, g3, g4⟩, he⟩ := d_if (show (if q.1 = 8 ∧ (q.1 = 8 ∨ q.1 = 9) ∧ 0 ≤ i2 ∧ i2 < q.2 then some (pc + 1, L, (0, h.2 x2 i2) :: st, h) else none) = some x' from hs2)
        obtain ⟨i, rfl, hi, hcell⟩ := d_cell_of hcl
        obtain ⟨tag, sz⟩ := q
        dsimp only at g1 g4 he
        subst g1
        subst he
        have hir : R32 i2 := d_rv_hd hg.2.1
        rw [List.map_cons, List.map_cons, d_cv_ref G hi, d_cv_i]
        have hget := d_ws_get (G := G) hcell
        rw [d_E_int G _ i (by decide) (by decide)] at hget
        refine va_iald hx hb hF.1 hP i 0 hget (d_tys_at G).1 (d_clampI hir g3 g4) hd ?_
        have key := kk ⟨hg.1, d_rv_cons (d_rv_0 (hg.2.2 _ _)) (d_rv_tl (d_rv_tl hg.2.1)), hg.2.2⟩ H locs ls hz hP hS hL
        rw [List.map_cons, d_cv_i] at key
        have e : ((Int32.ofInt i2).toNatClampNeg : Int) = i2 := by rw [i32_clamp hir]; omega
        dsimp only at key ⊢
        rw [e]
        exact key
    · rw [if_neg ht] at hs2
      cases hs2
theorem rh_baload (hd : decode cc pc = .ok (.baload, 1)) : d_RH P ini own cc nL pc 18 1 9 0 := by
  rintro p l e R s m args below meth c G sc Q H locs n0 s0 L st h x' ls ⟨hx, hb, hml, hown, hts, hF, hS0⟩ hini hfr hlo hg hz hP hS hL hs hn hs0 hR1 hR2 kk
  match st, hs with
  | (i1, i2) :: (x1, x2) :: st, hs =>
    have hs2 : (if i1 = 0 ∧ x1 = 2 then (match d_cell h x2 with
      | some c => if c.1 = 9 ∧ (c.1 = 8 ∨ c.1 = 9) ∧ 0 ≤ i2 ∧ i2 < c.2 then some (pc + 1, L, (0, h.2 x2 i2) :: st, h) else none
      | none => none) else none) = some x' := hs
    by_cases ht : i1 = 0 ∧ x1 = 2
    · rw [if_pos ht] at hs2
      obtain ⟨rfl, rfl⟩ := ht
      cases hcl : d_cell h x2 with
      | none => rw [hcl] at hs2; cases hs2
      | some q =>
        rw [hcl] at hs2
        obtain ⟨⟨g1, -, g3, g4⟩, he⟩ := d_if (show (if q.1 = 9 ∧ (q.1 = 8 ∨ q.1 = 9) ∧ 0 ≤ i2 ∧ i2 < q.2 then some (pc + 1, L, (0, h.2 x2 i2) :: st, h) else none) = some x' from hs2)
        obtain ⟨i, rfl, hi, hcell⟩ := d_cell_of hcl
        obtain ⟨tag, sz⟩ := q
        dsimp only at g1 g4 he
        subst g1
        subst he
        have hir : R32 i2 := d_rv_hd hg.2.1
        rw [List.map_cons, List.map_cons, d_cv_ref G hi, d_cv_i]
        have hget := d_ws_get (G := G) hcell
        rw [d_E_int G _ i (by decide) (by decide)] at hget
        refine va_zald hx hb hF.1 hP i 1 hget (d_tys_at G).2.1 (d_clampI hir g3 g4) hd ?_
        have key := kk ⟨hg.1, d_rv_cons (d_rv_0 (hg.2.2 _ _)) (d_rv_tl (d_rv_tl hg.2.1)), hg.2.2⟩ H locs ls hz hP hS hL
        rw [List.map_cons, d_cv_i] at key
        have e : ((Int32.ofInt i2).toNatClampNeg : Int) = i2 := by rw [i32_clamp hir]; omega
        dsimp only at key ⊢
        rw [e]
        exact key
    · rw [if_neg ht] at hs2
      cases hs2
theorem rh_iastore (hd : decode cc pc = .ok (.iastore, 1)) : d_RH P ini own cc nL pc 19 1 8 0 := by
  rintro p l e R s m args below meth c G sc Q H locs n0 s0 L st h x' ls ⟨hx, hb, hml, hown, hts, hF, hS0⟩ hini hfr hlo hg hz hP hS hL hs hn hs0 hR1 hR2 kk
  match st, hs with
  | (v1, v2) :: (i1, i2) :: (x1, x2) :: st, hs =>
    have hs2 : (if v1 = 0 ∧ i1 = 0 ∧ x1 = 2 then (match d_cell h x2 with
      | some c => if c.1 = 8 ∧ (c.1 = 8 ∨ c.1 = 9 ∧ (v2 = 0 ∨ v2 = 1)) ∧ 0 ≤ i2 ∧ i2 < c.2 then some (pc + 1, L, st, (h.1, d_up h.2 x2 i2 v2)) else none
      | none => none) else none) = some x' := hs
    by_cases ht : v1 = 0 ∧ i1 = 0 ∧ x1 = 2
    · rw [if_pos ht] at hs2
      obtain ⟨rfl, rfl, rfl⟩ := ht
      cases hcl : d_cell h x2 with
      | none => rw [hcl] at hs2; cases hs2
      | some q =>
        rw [hcl] at hs2
        obtain ⟨⟨g1, -, g3, g4⟩, he⟩ := d_if (show (if q.1 = 8 ∧ (q.1 = 8 ∨ q.1 = 9 ∧ (v2 = 0 ∨ v2 = 1)) ∧ 0 ≤ i2 ∧ i2 < q.2 then some (pc + 1, L, st, (h.1, d_up h.2 x2 i2 v2)) else none) = some x' from hs2)
        obtain ⟨i, rfl, hi, hcell⟩ := d_cell_of hcl
        obtain ⟨tag, sz⟩ := q
        dsimp only at g1 g4 he
        subst g1
        subst he
        have hvr : R32 v2 := d_rv_hd hg.2.1
        have hir : R32 i2 := d_rv_hd (d_rv_tl hg.2.1)
        rw [List.map_cons, List.map_cons, List.map_cons, d_cv_ref G hi, d_cv_i, d_cv_i]
        have hget := d_ws_get (G := G) hcell
        rw [d_E_int G _ i (by decide) (by decide)] at hget
        refine d_va_iast hx hb hF.1 hP (d_ws_D G h) hS i 0 hget (d_tys_at G).1 (d_clampI hir g3 g4) hd (fun H1 locs1 e1 hP1 hS1 => ?_)
        refine kk ⟨hg.1, d_rv_tl (d_rv_tl (d_rv_tl hg.2.1)), d_up_R hg.2.2 hvr⟩ H1 locs1 ls (e1.trans hz) ?_ hS1 hL
        rw [← d_upd_int hir g3] at hP1
        rw [show d_ws G (h.1, d_up h.2 i i2 v2) = _ from d_ws_set hcell (fun a j z => d_up_ne a j z), d_E_int G _ i (by decide) (by decide)]
        exact hP1
    · rw [if_neg ht] at hs2
      cases hs2
theorem rh_bastore (hd : decode cc pc = .ok (.bastore, 1)) : d_RH P ini own cc nL pc 19 1 9 0 := by
  rintro p l e R s m args below meth c G sc Q H locs n0 s0 L st h x' ls ⟨hx, hb, hml, hown, hts, hF, hS0⟩ hini hfr hlo hg hz hP hS hL hs hn hs0 hR1 hR2 kk
  match st, hs with
  | (v1, v2) :: (i1, i2) :: (x1, x2) :: st, hs =>
    have hs2 : (if v1 = 0 ∧ i1 = 0 ∧ x1 = 2 then (match d_cell h x2 with
      | some c => if c.1 = 9 ∧ (c.1 = 8 ∨ c.1 = 9 ∧ (v2 = 0 ∨ v2 = 1)) ∧ 0 ≤ i2 ∧ i2 < c.2 then some (pc + 1, L, st, (h.1, d_up h.2 x2 i2 v2)) else none
      | none => none) else none) = some x' := hs
    by_cases ht : v1 = 0 ∧ i1 = 0 ∧ x1 = 2
    · rw [if_pos ht] at hs2
      obtain ⟨rfl, rfl, rfl⟩ := ht
      cases hcl : d_cell h x2 with
      | none => rw [hcl] at hs2; cases hs2
      | some q =>
        rw [hcl] at hs2
        obtain ⟨⟨g1, g2, g3, g4⟩, he⟩ := d_if (show (if q.1 = 9 ∧ (q.1 = 8 ∨ q.1 = 9 ∧ (v2 = 0 ∨ v2 = 1)) ∧ 0 ≤ i2 ∧ i2 < q.2 then some (pc + 1, L, st, (h.1, d_up h.2 x2 i2 v2)) else none) = some x' from hs2)
        obtain ⟨i, rfl, hi, hcell⟩ := d_cell_of hcl
        obtain ⟨tag, sz⟩ := q
        dsimp only at g1 g2 g4 he
        subst g1
        subst he
        have hv01 : v2 = 0 ∨ v2 = 1 := by
          rcases g2 with z | z
          · cases z
          · exact z.2
        have hvr : R32 v2 := d_rv_hd hg.2.1
        have hir : R32 i2 := d_rv_hd (d_rv_tl hg.2.1)
        rw [List.map_cons, List.map_cons, List.map_cons, d_cv_ref G hi, d_cv_i, d_cv_i]
        have hget := d_ws_get (G := G) hcell
        rw [d_E_int G _ i (by decide) (by decide)] at hget
        refine d_va_zast hx hb hF.1 hP (d_ws_D G h) hS i 1 hget (d_tys_at G).2.1 (d_clampI hir g3 g4) hd (fun H1 locs1 e1 hP1 hS1 => ?_)
        refine kk ⟨hg.1, d_rv_tl (d_rv_tl (d_rv_tl hg.2.1)), d_up_R hg.2.2 hvr⟩ H1 locs1 ls (e1.trans hz) ?_ hS1 hL
        have e3 : vp_nar .boolean (Int32.ofInt v2) = Int32.ofInt v2 := by rcases hv01 with rfl | rfl <;> rfl
        rw [e3, ← d_upd_int hir g3] at hP1
        rw [show d_ws G (h.1, d_up h.2 i i2 v2) = _ from d_ws_set hcell (fun a j z => d_up_ne a j z), d_E_int G _ i (by decide) (by decide)]
        exact hP1
    · rw [if_neg ht] at hs2
      cases hs2
theorem d_tys_ref (G : dG) {tag : Nat} (h : 10 ≤ tag) (h2 : tag < 13) : ∃ (t0 : Nat) (C : String), (d_tys G)[t0]? = some (G.2.2.2 tag, .object C) ∧ d_at tag = .object C := by
  rcases (show tag = 10 ∨ tag = 11 ∨ tag = 12 by omega) with rfl | rfl | rfl
  · exact ⟨2, _, rfl, rfl⟩
  · exact ⟨3, _, rfl, rfl⟩
  · exact ⟨4, _, rfl, rfl⟩
theorem rh_aaload {a : Nat} (hd : decode cc pc = .ok (.aaload, 1)) (ha : a < 13) : d_RH P ini own cc nL pc 22 1 (a : Int) 0 := by
  rintro p l e R s m args below meth c G sc Q H locs n0 s0 L st h x' ls ⟨hx, hb, hml, hown, hts, hF, hS0⟩ hini hfr hlo hg hz hP hS hL hs hn hs0 hR1 hR2 kk
  match st, hs with
  | (i1, i2) :: (x1, x2) :: st, hs =>
    have hs2 : (if i1 = 0 ∧ x1 = 2 then (match d_cell h x2 with
      | some c => if c.1 = a ∧ 10 ≤ c.1 ∧ 0 ≤ i2 ∧ i2 < c.2 then some (pc + 1, L, (2, h.2 x2 i2) :: st, h) else none
      | none => none) else none) = some x' := hs
    by_cases ht : i1 = 0 ∧ x1 = 2
    · rw [if_pos ht] at hs2
      obtain ⟨rfl, rfl⟩ := ht
      cases hcl : d_cell h x2 with
      | none => rw [hcl] at hs2; cases hs2
      | some q =>
        rw [hcl] at hs2
        obtain ⟨⟨g1, g2, g3, g4⟩, he⟩ := d_if (show (if q.1 = a ∧ 10 ≤ q.1 ∧ 0 ≤ i2 ∧ i2 < q.2 then some (pc + 1, L, (2, h.2 x2 i2) :: st, h) else none) = some x' from hs2)
        obtain ⟨i, rfl, hi, hcell⟩ := d_cell_of hcl
        obtain ⟨tag, sz⟩ := q
        dsimp only at g1 g2 g4 he
        subst g1
        subst he
        have hir : R32 i2 := d_rv_hd hg.2.1
        rw [List.map_cons, List.map_cons, d_cv_ref G hi, d_cv_i]
        have hget := d_ws_get (G := G) hcell
        rw [d_E_ref G _ i (by omega)] at hget
        obtain ⟨t0, C, ht0, -⟩ := d_tys_ref G g2 ha
        refine va_aldq hx hb hF.1 hP i t0 hget ht0 (d_clampI hir g3 g4) hd ?_
        have key := kk ⟨hg.1, d_rv_cons (d_rv_2 (hg.2.2 _ _)) (d_rv_tl (d_rv_tl hg.2.1)), hg.2.2⟩ H locs ls hz hP hS hL
        rw [List.map_cons, d_cv_r] at key
        have e : ((Int32.ofInt i2).toNatClampNeg : Int) = i2 := by rw [i32_clamp hir]; omega
        dsimp only at key ⊢
        rw [e]
        exact key
    · rw [if_neg ht] at hs2
      cases hs2
theorem rh_aastore {a b : Nat} {r : vw_C} (hd : decode cc pc = .ok (.aastore, 1)) (ha : a < 13) (hb8 : b < 8) (hc : vwCl[b]? = some r) (hab : d_at a = .object r.1) : d_RH P ini own cc nL pc 23 1 (a : Int) (b : Int) := by
  rintro p l e R s m args below meth c G sc Q H locs n0 s0 L st h x' ls ⟨hx, hb, hml, hown, hts, hF, hS0⟩ hini hfr hlo hg hz hP hS hL hs hn hs0 hR1 hR2 kk
  match st, hs with
  | (v1, v2) :: (i1, i2) :: (x1, x2) :: st, hs =>
    have hs2 : (if v1 = 2 ∧ i1 = 0 ∧ x1 = 2 then (match d_cell h x2, d_cell h v2 with
      | some c, some cv => if c.1 = a ∧ 10 ≤ c.1 ∧ cv.1 = b ∧ 0 ≤ i2 ∧ i2 < c.2 then some (pc + 1, L, st, (h.1, d_up h.2 x2 i2 v2)) else none
      | _, _ => none) else none) = some x' := hs
    by_cases ht : v1 = 2 ∧ i1 = 0 ∧ x1 = 2
    · rw [if_pos ht] at hs2
      obtain ⟨rfl, rfl, rfl⟩ := ht
      cases hcl : d_cell h x2 with
      | none => rw [hcl] at hs2; cases hs2
      | some q => cases hcv : d_cell h v2 with
        | none => rw [hcl, hcv] at hs2; cases hs2
        | some qv =>
          rw [hcl, hcv] at hs2
          obtain ⟨⟨g1, g2, g5, g3, g4⟩, he⟩ := d_if (show (if q.1 = a ∧ 10 ≤ q.1 ∧ qv.1 = b ∧ 0 ≤ i2 ∧ i2 < q.2 then some (pc + 1, L, st, (h.1, d_up h.2 x2 i2 v2)) else none) = some x' from hs2)
          obtain ⟨i, rfl, hi, hcell⟩ := d_cell_of hcl
          obtain ⟨iv, rfl, hiv, hcellv⟩ := d_cell_of hcv
          obtain ⟨tag, sz⟩ := q
          obtain ⟨tagv, szv⟩ := qv
          dsimp only at g1 g2 g4 g5 he
          subst g1
          subst g5
          subst he
          have hvr : R32 (iv : Int) := d_rv_hd hg.2.1
          have hir : R32 i2 := d_rv_hd (d_rv_tl hg.2.1)
          rw [List.map_cons, List.map_cons, List.map_cons, d_cv_ref G hi, d_cv_ref G hiv, d_cv_i]
          have hget := d_ws_get (G := G) hcell
          have hgetv := d_ws_get (G := G) hcellv
          rw [d_E_ref G _ i (by omega)] at hget
          rw [d_E_obj G _ iv hb8] at hgetv
          obtain ⟨t0, C, ht0, hC⟩ := d_tys_ref G g2 ha
          have hCr : C = r.1 := by rw [hab] at hC; cases hC; rfl
          subst hCr
          refine d_va_astq hx hb hF.1 hP (d_ws_D G h) hS i t0 iv tagv hget ht0 hgetv hc (d_clampI hir g3 g4) hd (fun H1 locs1 e1 hP1 hS1 => ?_)
          refine kk ⟨hg.1, d_rv_tl (d_rv_tl (d_rv_tl hg.2.1)), d_up_R hg.2.2 hvr⟩ H1 locs1 ls (e1.trans hz) ?_ hS1 hL
          have hrf : d_rf G (iv : Int) = some (G.1 + iv) := by
            rw [d_rf_cell G (by omega) (by omega)]
            rfl
          rw [← d_upd_ref hir g3 hrf] at hP1
          rw [show d_ws G (h.1, d_up h.2 i i2 iv) = _ from d_ws_set hcell (fun a j z => d_up_ne a j z), d_E_ref G _ i (by omega)]
          exact hP1
    · rw [if_neg ht] at hs2
      cases hs2
theorem rh_alen (hd : decode cc pc = .ok (.arraylength, 1)) : d_RH P ini own cc nL pc 24 1 0 0 := by
  rintro p l e R s m args below meth c G sc Q H locs n0 s0 L st h x' ls ⟨hx, hb, hml, hown, hts, hF, hS0⟩ hini hfr hlo hg hz hP hS hL hs hn hs0 hR1 hR2 kk
  match st, hs with
  | (x1, x2) :: st, hs =>
    have hs2 : (if x1 = 2 then (match d_cell h x2 with
      | some c => if 8 ≤ c.1 ∧ c.1 < 13 ∧ c.2 < 2147483648 then some (pc + 1, L, (0, (c.2 : Int)) :: st, h) else none
      | none => none) else none) = some x' := hs
    by_cases ht : x1 = 2
    · rw [if_pos ht] at hs2
      subst ht
      cases hcl : d_cell h x2 with
      | none => rw [hcl] at hs2; cases hs2
      | some q =>
        rw [hcl] at hs2
        obtain ⟨⟨g1, g2, g3⟩, he⟩ := d_if (show (if 8 ≤ q.1 ∧ q.1 < 13 ∧ q.2 < 2147483648 then some (pc + 1, L, (0, (q.2 : Int)) :: st, h) else none) = some x' from hs2)
        obtain ⟨i, rfl, hi, hcell⟩ := d_cell_of hcl
        obtain ⟨tag, sz⟩ := q
        dsimp only at g1 g2 g3 he
        subst he
        rw [List.map_cons, d_cv_ref G hi]
        have hget := d_ws_get (G := G) hcell
        have key := kk ⟨hg.1, d_rv_cons (d_rv_0 (by unfold R32; omega)) (d_rv_tl hg.2.1), hg.2.2⟩ H locs ls hz hP hS hL
        rw [List.map_cons, d_cv_i] at key
        by_cases h10 : tag < 10
        · rw [d_E_int G _ i (by omega) h10] at hget
          rcases (show tag = 8 ∨ tag = 9 by omega) with rfl | rfl
          · exact va_alen hx hb hF.1 hP i 0 hget (d_tys_at G).1 (v := Int32.ofInt sz) (by rfl) hd key
          · exact va_alen hx hb hF.1 hP i 1 hget (d_tys_at G).2.1 (v := Int32.ofInt sz) (by rfl) hd key
        · rw [d_E_ref G _ i h10] at hget
          obtain ⟨t0, C, ht0, hC⟩ := d_tys_ref G (by omega) g2
          exact va_alen hx hb hF.1 hP i t0 hget ht0 (v := Int32.ofInt sz) (by rfl) hd key
    · rw [if_neg ht] at hs2
      cases hs2
end DHA
