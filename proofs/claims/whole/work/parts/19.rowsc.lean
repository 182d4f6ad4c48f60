section DCPY
variable {p : Program} {l : Launch} {e : Env} {R : Room} {s : State} {m : MethodId} {args : Array Value} {below : List Frame} {meth : Method} {c : Code} {H : Heap} {locs : List Loc} {cells slots : Nat} {Q : State → Prop}
variable {cc : ByteArray} {pc : Nat} {ls : Array Slot} {rest : List Value} {D : va_G} {cl : List vw_C} {A : Nat → Prop} {a : Nat} {tys : List (ClassId × FieldType)} {ws : va_W} {H0 : Heap}
theorem d_va_copyi (hexec : p.tables.exec = Jvm.exec) (hb : c.code = cc) (hml : c.maxLocals = ls.size) {own : String} {index : Nat} (hown : s.vm.findClass own = some m.cls) (hlink : (Cond.methodLink own index arraycopyName).before args s = true) (hnat : (Cond.native arraycopyName).before args s = true) (hstat : (Cond.static arraycopyName).before args s = true) (hini : (Cond.initialized "java/lang/System").before args s = true)
    (hK : va_K D cl tys s) (hP : va_P D cl ws H) (hD : va_D A ws) (hS : va_S A H0 H locs) (q0 q1 t0 t1 : Nat) {a0 : Nat} {c0 c1 : ClassId} {n0 n1 : Nat} {f g : Nat → Int32} {ty : FieldType} (ha0 : ws[q0]? = some (a0, .inl (c0, n0, .inl f))) (ha1 : ws[q1]? = some (a, .inl (c1, n1, .inl g))) (ht0 : tys[t0]? = some (c0, ty)) (ht1 : tys[t1]? = some (c1, ty)) (hprim : refKind ty = false)
    {sp dp n : Int32} (h1 : ¬ sp < 0) (h2 : ¬ dp < 0) (h3 : ¬ n < 0) (h4 : sp.toNatClampNeg + n.toNatClampNeg ≤ n0) (h5 : dp.toNatClampNeg + n.toNatClampNeg ≤ n1) (hfit : ∀ i, i < n.toNatClampNeg → fits ty (.int (f (sp.toNatClampNeg + i))) = true)
    (hframes : 1 ≤ R.frames) (hlocals : (rest.map fun v => v.category).sum + (nativeFrameWords "java/lang/System" "arraycopy" 5 + 11) ≤ R.locals) (hdg : decode cc pc = .ok (.invokestatic index, 3))
    (kk : ∀ (H1 : Heap) (locs1 : List Loc), H1.size = H.size → va_P D cl (ws.set q1 (a, .inl (c1, n1, .inl (va_cpy f g sp.toNatClampNeg dp.toNatClampNeg n.toNatClampNeg)))) H1 → va_S A H0 H1 locs1 → W p l e R s m args below meth c H1 locs1 cells slots Q (F0 m (pc + 3) ls rest)) : W p l e R s m args below meth c H locs cells slots Q (F0 m pc ls (.int n :: .int dp :: .ref a :: .int sp :: .ref a0 :: rest)) := by
  have nn : ∀ z : Int32, ¬ z < 0 → z.toInt = (z.toNatClampNeg : Int) := by
    intro z hz
    have hz0 : (0 : Int) ≤ z.toInt := by
      have := Int32.not_lt.mp hz
      simpa using Int32.le_iff_toInt_le.mp this
    show z.toInt = ((z.toInt.toNat : Nat) : Int)
    omega
  intro T hT X
  have hc0 : H[a0]? = some (vp_cell c0 (n0, .inl f)) := hP q0 _ ha0
  have hc1 : H[a]? = some (vp_cell c1 (n1, .inl g)) := hP q1 _ ha1
  obtain ⟨-, k0, hk0, cm0, hkk0⟩ := (hK.2 t0 _ ht0).1 n0 (fun j => .int (f j))
  obtain ⟨-, k1, hk1, cm1, hkk1⟩ := (hK.2 t1 _ ht1).1 n1 (fun j => .int (g j))
  obtain ⟨vm', X', step⟩ := X.arraycopy hexec hown hlink hnat hstat hini (src := a0) (dst := a) (cs := vp_cell c0 (n0, .inl f)) (cd := vp_cell c1 (n1, .inl g)) (srcPos := sp) (destPos := dp) (n := n) (by rw [hT]; exact hc0) (by rw [hT]; exact hc1)
    (fun _ h => by cases h) (fun _ h => by cases h) (fun h => by cases h) (fun h => by cases h) hk0 hk1 hkk0 hkk1 (by simp [hprim]) h1 h2 h3
    (by rw [nn sp h1, nn n h3]; show ¬ _ > ((arrV c0 n0 (fun j => .int (f j))).slots.size : Int); rw [arrV_size]; omega)
    (by rw [nn dp h2, nn n h3]; show ¬ _ > ((arrV c1 n1 (fun j => .int (g j))).slots.size : Int); rw [arrV_size]; omega)
    (fun vm₁ _ i hi => by
      have e : (vp_cell c0 (n0, .inl f)).slots.getD (sp.toNatClampNeg + i) .null = .int (f (sp.toNatClampNeg + i)) := by
        show (arrV c0 n0 (fun j => .int (f j))).slots.getD _ _ = _
        rw [Array.getD_eq_getD_getElem?, arrV_read _ _ (by omega)]
        rfl
      refine ⟨?_, ?_⟩
      · rw [e]
        exact hfit i hi
      · rw [e]
        exact trivial)
    (g := F0 m pc ls (.int n :: .int dp :: .ref a :: .int sp :: .ref a0 :: rest)) rfl (by rw [hml]) (rest := rest) rfl (by rw [hb]; exact hdg) hframes (by show 2 * 0 + _ + _ ≤ _; omega)
  have e1 : copied (vp_cell c0 (n0, .inl f)) (vp_cell c1 (n1, .inl g)) sp dp n = vp_cell c1 (n1, .inl (va_cpy f g sp.toNatClampNeg dp.toNatClampNeg n.toNatClampNeg)) := va_copied (fun z => .int z) c0 c1 f g h4
  rw [e1] at X' step
  have hl : a < H.size := (Array.getElem?_eq_some_iff.mp hc1).1
  have hheap : ((T.setVm vm').setCell a (vp_cell c1 (n1, .inl (va_cpy f g sp.toNatClampNeg dp.toNatClampNeg n.toNatClampNeg)))).heap = H.setIfInBounds a (vp_cell c1 (n1, .inl (va_cpy f g sp.toNatClampNeg dp.toNatClampNeg n.toNatClampNeg))) := by rw [← hT]; rfl
  have oq : ∀ q : Nat, q ≠ a → (H.setIfInBounds a (vp_cell c1 (n1, .inl (va_cpy f g sp.toNatClampNeg dp.toNatClampNeg n.toNatClampNeg))))[q]? = H[q]? := fun q hq => by simp [Array.getElem?_setIfInBounds, Ne.symm hq]
  obtain ⟨t, a1, b1⟩ := kk _ _ (by simp) (hP.set hD ha1 (show (H.setIfInBounds a _)[a]? = some _ by simp [Array.getElem?_setIfInBounds, hl]) oq) ⟨by simp; exact hS.1, fun q g1 g2 => by
      rw [oq q (fun e => g2 (by rw [e]; exact hD.2 q1 _ ha1))]
      exact hS.2.1 q g1 g2, fun q hq => by
      rcases List.mem_append.mp hq with h | h
      · exact hS.2.2 q h
      · obtain ⟨z, -, hz⟩ := List.mem_map.mp h
        rw [← hz]
        exact hD.2 q1 _ ha1⟩ _ hheap X'
  exact ⟨t, step t a1, b1⟩
end DCPY

section DHC
variable {P : Nat → Option dD} {ini : Bool} {own : String} {cc : ByteArray} {nL pc : Nat}
set_option maxRecDepth 100000 in
theorem rh_copy {idx : Nat} (hd : decode cc pc = .ok (.invokestatic idx, 3)) (hw1 : Cond.methodLink own idx arraycopyName ∈ lw_gd) (hw2 : Cond.native arraycopyName ∈ lw_gd) (hw3 : Cond.static arraycopyName ∈ lw_gd) (hw4 : Cond.initialized "java/lang/System" ∈ lw_gd) : d_RH P ini own cc nL pc 30 3 0 0 := by
  rintro p l e R s m args below meth c G sc Q H locs n0 s0 L st h x' ls ⟨hx, hb, hml, hown, hts, hF, hS0⟩ hini hfr hlo hg hz hP hS hL hs hn hs0 hR1 hR2 kk
  match st, hs with
  | (n1, n2) :: (j1, j2) :: (y1, y2) :: (i1, i2) :: (x1, x2) :: st, hs =>
    have hs2 : (if n1 = 0 ∧ j1 = 0 ∧ y1 = 2 ∧ i1 = 0 ∧ x1 = 2 ∧ d_cat st ≤ 8 then (match d_cell h x2, d_cell h y2 with
      | some c, some cy => if c.1 = 8 ∧ cy.1 = 8 ∧ 0 ≤ n2 ∧ 0 ≤ i2 ∧ 0 ≤ j2 ∧ i2 + n2 ≤ c.2 ∧ j2 + n2 ≤ cy.2 then
        some (pc + 3, L, st, (h.1, fun p q => if p = y2 ∧ j2 ≤ q ∧ q < j2 + n2 then h.2 x2 (i2 + (q - j2)) else h.2 p q)) else none
      | _, _ => none) else none) = some x' := hs
    by_cases ht : n1 = 0 ∧ j1 = 0 ∧ y1 = 2 ∧ i1 = 0 ∧ x1 = 2 ∧ d_cat st ≤ 8
    · rw [if_pos ht] at hs2
      obtain ⟨rfl, rfl, rfl, rfl, rfl, hcat⟩ := ht
      cases hcl : d_cell h x2 with
      | none => rw [hcl] at hs2; cases hs2
      | some q => cases hcv : d_cell h y2 with
        | none => rw [hcl, hcv] at hs2; cases hs2
        | some qv =>
          rw [hcl, hcv] at hs2
          obtain ⟨⟨g1, g2, k1, k2, k3, k4, k5⟩, he⟩ := d_if (show (if q.1 = 8 ∧ qv.1 = 8 ∧ 0 ≤ n2 ∧ 0 ≤ i2 ∧ 0 ≤ j2 ∧ i2 + n2 ≤ q.2 ∧ j2 + n2 ≤ qv.2 then
            some (pc + 3, L, st, (h.1, fun p q => if p = y2 ∧ j2 ≤ q ∧ q < j2 + n2 then h.2 x2 (i2 + (q - j2)) else h.2 p q)) else none) = some x' from hs2)
          obtain ⟨i, rfl, hi, hcell⟩ := d_cell_of hcl
          obtain ⟨iv, rfl, hiv, hcellv⟩ := d_cell_of hcv
          obtain ⟨tag, sz⟩ := q
          obtain ⟨tagv, szv⟩ := qv
          dsimp only at g1 g2 k4 k5 he
          subst g1
          subst g2
          subst he
          have hnr : R32 n2 := d_rv_hd hg.2.1
          have hjr : R32 j2 := d_rv_hd (d_rv_tl hg.2.1)
          have hir : R32 i2 := d_rv_hd (d_rv_tl (d_rv_tl (d_rv_tl hg.2.1)))
          have h0r : R32 0 := by unfold R32; omega
          have ng : ∀ z : Int, R32 z → 0 ≤ z → ¬ Int32.ofInt z < 0 := fun z hz h0 q => by
            have := (i32_lt hz h0r).mp q
            omega
          have hget := d_ws_get (G := G) hcell
          have hgetv := d_ws_get (G := G) hcellv
          rw [d_E_int G _ i (by decide) (by decide)] at hget
          rw [d_E_int G _ iv (by decide) (by decide)] at hgetv
          have e : (List.map (d_cv G) ((0, n2) :: (0, j2) :: (2, (iv : Int)) :: (0, i2) :: (2, (i : Int)) :: st)) = .int (Int32.ofInt n2) :: .int (Int32.ofInt j2) :: .ref (G.1 + iv) :: .int (Int32.ofInt i2) :: .ref (G.1 + i) :: st.map (d_cv G) := by
            simp only [List.map_cons, d_cv_ref G hi, d_cv_ref G hiv, d_cv_i]
          rw [e]
          refine d_va_copyi hx hb (by rw [hml]; exact hL.1.symm) hown (hts _ hw1) (hts _ hw2) (hts _ hw3) (hts _ hw4) hF.1 hP (d_ws_D G h) hS i iv 0 0 hget hgetv (d_tys_at G).1 (d_tys_at G).1 rfl (ng _ hir k2) (ng _ hjr k3) (ng _ hnr k1) (by rw [i32_clamp hir, i32_clamp hnr]; omega) (by rw [i32_clamp hjr, i32_clamp hnr]; omega) (fun _ _ => rfl) hfr ?_ hd (fun H1 locs1 e1 hP1 hS1 => ?_)
          · have e2 := d_cat_sum G st
            have e5 : nativeFrameWords "java/lang/System" "arraycopy" 5 + 11 ≤ 30 := by decide +kernel
            generalize nativeFrameWords "java/lang/System" "arraycopy" 5 = z at e5 ⊢
            omega
          · refine kk ⟨hg.1, d_rv_tl (d_rv_tl (d_rv_tl (d_rv_tl (d_rv_tl hg.2.1)))), fun p q => ?_⟩ H1 locs1 ls (e1.trans hz) ?_ hS1 hL
            · show R32 (if _ then _ else _)
              split
              · exact hg.2.2 _ _
              · exact hg.2.2 _ _
            · rw [i32_clamp hir, i32_clamp hjr, i32_clamp hnr] at hP1
              have e3 : (fun z : Nat => Int32.ofInt (if (iv : Int) = iv ∧ j2 ≤ (z : Int) ∧ (z : Int) < j2 + n2 then h.2 i (i2 + ((z : Int) - j2)) else h.2 iv z)) = va_cpy (fun z : Nat => Int32.ofInt (h.2 i z)) (fun z : Nat => Int32.ofInt (h.2 iv z)) i2.toNat j2.toNat n2.toNat := by
                funext z
                unfold va_cpy
                by_cases hc : j2.toNat ≤ z ∧ z < j2.toNat + n2.toNat
                · rw [if_pos hc, if_pos ⟨rfl, by omega, by omega⟩]
                  have e6 : i2 + ((z : Int) - j2) = ((i2.toNat + (z - j2.toNat) : Nat) : Int) := by omega
                  rw [e6]
                · rw [if_neg hc, if_neg (fun w => hc (by omega))]
              show va_P _ vwCl (d_ws G (h.1, fun p q => if p = (iv : Int) ∧ j2 ≤ q ∧ q < j2 + n2 then h.2 i (i2 + (q - j2)) else h.2 p q)) H1
              rw [show d_ws G (h.1, fun p q => if p = (iv : Int) ∧ j2 ≤ q ∧ q < j2 + n2 then h.2 i (i2 + (q - j2)) else h.2 p q) = _ from d_ws_set (M := h.2) hcellv (fun a j z => by show (if _ then _ else _) = _; rw [if_neg (fun w => z w.1)]), d_E_int G _ iv (by decide) (by decide)]
              rw [← e3] at hP1
              exact hP1
    · rw [if_neg ht] at hs2
      cases hs2
theorem d_fc1 {G : dG} {sc : dS} {U : State} (h : d_Fc G sc U) : ∃ b : Nat, d_rf G 1000001 = some b ∧ va_X b sc.1 (fun j => Int32.ofInt (sc.2 j)) U U.heap ∧ b < U.heap.size ∧ ¬ d_A G b := by
  obtain ⟨t, b, adK, adV, f, ⟨q0, q1, q2⟩, -, -, k, -⟩ := h
  refine ⟨b, ?_, k⟩
  unfold d_rf
  rw [if_neg (by omega), if_neg (by omega)]
  exact q1
theorem rh_sload (hd : decode cc pc = .ok (.iaload, 1)) : d_RH P ini own cc nL pc 40 1 0 0 := by
  rintro p l e R s m args below meth c G sc Q H locs n0 s0 L st h x' ls ⟨hx, hb, hml, hown, hts, hF, hS0⟩ hini hfr hlo hg hz hP hS hL hs hn hs0 hR1 hR2 kk
  match st, hs with
  | (i1, i2) :: (x1, x2) :: st, hs =>
    obtain ⟨⟨rfl, rfl, rfl, g1, g2, g3⟩, he⟩ := d_if (show (if i1 = 0 ∧ x1 = 2 ∧ x2 = 1000001 ∧ 0 ≤ i2 ∧ i2 < sc.1 ∧ (-2147483648 ≤ sc.2 i2 ∧ sc.2 i2 < 2147483648) then some (pc + 1, L, (0, sc.2 i2) :: st, h) else none) = some x' from hs)
    subst he
    have hir : R32 i2 := d_rv_hd hg.2.1
    obtain ⟨b, q1, q2, q3, q4⟩ := d_fc1 hF.2.2.2
    have key := kk ⟨hg.1, d_rv_cons (d_rv_0 g3) (d_rv_tl (d_rv_tl hg.2.1)), hg.2.2⟩ H locs ls hz hP hS hL
    rw [List.map_cons, List.map_cons, d_cv_i, d_cv_r, q1]
    rw [List.map_cons, d_cv_i] at key
    refine va_sld hx hb q2 q3 q4 hS (d_clampI hir g1 g2) hd ?_
    have e : ((Int32.ofInt i2).toNatClampNeg : Int) = i2 := by rw [i32_clamp hir]; omega
    rw [e]
    exact key
theorem rh_slen (hd : decode cc pc = .ok (.arraylength, 1)) : d_RH P ini own cc nL pc 34 1 0 0 := by
  rintro p l e R s m args below meth c G sc Q H locs n0 s0 L st h x' ls ⟨hx, hb, hml, hown, hts, hF, hS0⟩ hini hfr hlo hg hz hP hS hL hs hn hs0 hR1 hR2 kk
  match st, hs with
  | (x1, x2) :: st, hs =>
    obtain ⟨⟨rfl, rfl, g1⟩, he⟩ := d_if (show (if x1 = 2 ∧ x2 = 1000001 ∧ sc.1 < 2147483648 then some (pc + 1, L, (0, (sc.1 : Int)) :: st, h) else none) = some x' from hs)
    subst he
    obtain ⟨b, q1, q2, q3, q4⟩ := d_fc1 hF.2.2.2
    have key := kk ⟨hg.1, d_rv_cons (d_rv_0 (by unfold R32; omega)) (d_rv_tl hg.2.1), hg.2.2⟩ H locs ls hz hP hS hL
    rw [List.map_cons, d_cv_r, q1]
    rw [List.map_cons, d_cv_i] at key
    exact va_slen hx hb q2 q3 q4 hS hd key
end DHC
theorem d_fcS {G : dG} {sc : dS} {U : State} (h : d_Fc G sc U) : ∃ (t : Nat) (adK adV : Nat → Nat), d_rf G 1000000 = some t ∧ (∀ i : Nat, i < 2 → d_rf G (1000002 + i) = some (adK i) ∧ d_rf G (1000004 + i) = some (adV i)) ∧ va_Z RX6 "ABOVE" "[I" (.ref t) (d_A G) U U.heap ∧ va_T .int t 6 (fun j => .int (Int32.ofInt (d_above.getD j 0))) (d_A G) U U.heap ∧
    vk_R RX6 67 "holds turns * 4 + skill ; learns 1 ; reads skill ;" (adK 0) U ∧ vk_R RX1 91 "turns skill walk wet number day holds learns reads or and not " (adK 1) U ∧
    vk_S 2 [50, 62] [d_bytes 0, d_bytes 1] adK adV (d_A G) U U.heap ∧
    va_Z RJ0 "COMPACT_STRINGS" "Z" (.int 1) (d_A G) U U.heap ∧ va_Z RJ3 "SIOOBE_FORMATTER" "Ljava/util/function/BiFunction;" (va_rf (d_rf G 1000006)) (d_A G) U U.heap := by
  obtain ⟨t, b, adK, adV, f, ⟨q0, q1, q2, q3, q4⟩, k1, k2, -, k4, k5, k6, k7, k8⟩ := h
  refine ⟨t, adK, adV, ?_, fun i hi => ⟨?_, ?_⟩, k1, k2, k4, k5, k6, k7, ?_⟩
  · unfold d_rf
    rw [if_neg (by omega), if_neg (by omega)]
    exact q0
  · unfold d_rf
    rw [if_neg (by omega), if_neg (by omega), ← q2 i hi, show (1000002 + (i : Int) - 1000000).toNat = 2 + i by omega]
  · unfold d_rf
    rw [if_neg (by omega), if_neg (by omega), ← q3 i hi, show (1000004 + (i : Int) - 1000000).toNat = 4 + i by omega]
  · have e : d_rf G 1000006 = f := by
      unfold d_rf
      rw [if_neg (by omega), if_neg (by omega)]
      exact q4
    rw [e]
    exact k8
section DFK
variable {own : String} {cc : ByteArray} {nL pc : Nat}
theorem rf_above {idx : Nat} (hd : decode cc pc = .ok (.getstatic idx, 3)) (hw : Cond.fieldLink own idx RX6 "ABOVE" "[I" ∈ lw_gd) : d_RF own cc nL pc 33 3 1000000 0 [] := by
  rintro p l e R s m args below meth c G sc Q H locs cells slots L st L' st' pc' ls ⟨hx, hb, hml, hown, hts, hF, hS0⟩ hS hs hl1 hl2 hL
  cases (show some (pc + 3, L, (2, 1000000) :: st) = some (pc', L', st') by cases st <;> exact hs)
  refine ⟨hl1, d_rv_cons (d_rv_2 (by unfold R32; omega)) hl2, fun k => ?_⟩
  obtain ⟨t, adK, adV, e0, -, k1, -⟩ := d_fcS hF.2.2.2
  have key := k ls hL
  rw [List.map_cons, d_cv_r, e0] at key
  exact va_gets hx hb k1 hS hown (hts _ hw) (fun _ z => z) hd key
theorem rf_fmt {idx : Nat} (hd : decode cc pc = .ok (.getstatic idx, 3)) (hw : Cond.fieldLink own idx RJ3 "SIOOBE_FORMATTER" "Ljava/util/function/BiFunction;" ∈ lw_gd) : d_RF own cc nL pc 33 3 1000006 0 [] := by
  rintro p l e R s m args below meth c G sc Q H locs cells slots L st L' st' pc' ls ⟨hx, hb, hml, hown, hts, hF, hS0⟩ hS hs hl1 hl2 hL
  cases (show some (pc + 3, L, (2, 1000006) :: st) = some (pc', L', st') by cases st <;> exact hs)
  refine ⟨hl1, d_rv_cons (d_rv_2 (by unfold R32; omega)) hl2, fun k => ?_⟩
  obtain ⟨t, adK, adV, -, -, -, -, -, -, -, -, k1⟩ := d_fcS hF.2.2.2
  have key := k ls hL
  rw [List.map_cons, d_cv_r] at key
  exact va_gets hx hb k1 hS hown (hts _ hw) (fun _ z => z) hd key
theorem rf_compact {idx : Nat} (hd : decode cc pc = .ok (.getstatic idx, 3)) (hw : Cond.fieldLink own idx RJ0 "COMPACT_STRINGS" "Z" ∈ lw_gd) : d_RF own cc nL pc 41 3 0 0 [] := by
  rintro p l e R s m args below meth c G sc Q H locs cells slots L st L' st' pc' ls ⟨hx, hb, hml, hown, hts, hF, hS0⟩ hS hs hl1 hl2 hL
  cases (show some (pc + 3, L, (0, 1) :: st) = some (pc', L', st') by cases st <;> exact hs)
  refine ⟨hl1, d_rv_cons (d_rv_0 (by unfold R32; omega)) hl2, fun k => ?_⟩
  obtain ⟨t, adK, adV, -, -, -, -, -, -, -, k1, -⟩ := d_fcS hF.2.2.2
  exact va_gets hx hb k1 hS hown (hts _ hw) (fun _ z => z) hd (k ls hL)
theorem rf_ldcS0 (hd : decode cc pc = .ok (.ldc 67, 2)) (ho : own = RX6) : d_RF own cc nL pc 33 2 1000002 0 [] := by
  rintro p l e R s m args below meth c G sc Q H locs cells slots L st L' st' pc' ls ⟨hx, hb, hml, hown, hts, hF, hS0⟩ hS hs hl1 hl2 hL
  cases (show some (pc + 2, L, (2, 1000002) :: st) = some (pc', L', st') by cases st <;> exact hs)
  refine ⟨hl1, d_rv_cons (d_rv_2 (by unfold R32; omega)) hl2, fun k => ?_⟩
  obtain ⟨t, adK, adV, -, e1, -, -, k1, -⟩ := d_fcS hF.2.2.2
  have key := k ls hL
  rw [List.map_cons, d_cv_r, show d_rf G 1000002 = some (adK 0) from (e1 0 (by omega)).1] at key
  subst ho
  exact va_ldcS hx hb hown k1 hd key
theorem rf_ldcS1 (hd : decode cc pc = .ok (.ldc 91, 2)) (ho : own = RX1) : d_RF own cc nL pc 33 2 1000003 0 [] := by
  rintro p l e R s m args below meth c G sc Q H locs cells slots L st L' st' pc' ls ⟨hx, hb, hml, hown, hts, hF, hS0⟩ hS hs hl1 hl2 hL
  cases (show some (pc + 2, L, (2, 1000003) :: st) = some (pc', L', st') by cases st <;> exact hs)
  refine ⟨hl1, d_rv_cons (d_rv_2 (by unfold R32; omega)) hl2, fun k => ?_⟩
  obtain ⟨t, adK, adV, -, e1, -, -, -, k1, -⟩ := d_fcS hF.2.2.2
  have key := k ls hL
  rw [List.map_cons, d_cv_r, show d_rf G 1000003 = some (adK 1) from (e1 1 (by omega)).1] at key
  subst ho
  exact va_ldcS hx hb hown k1 hd key
theorem d_two {x : Int} (h : x = 1000002 ∨ x = 1000003) : ∃ i : Nat, i < 2 ∧ x = 1000002 + i := by
  rcases h with rfl | rfl
  · exact ⟨0, by omega, rfl⟩
  · exact ⟨1, by omega, rfl⟩
theorem d_two2 {x : Int} (h : x = 1000004 ∨ x = 1000005) : ∃ i : Nat, i < 2 ∧ x = 1000004 + i := by
  rcases h with rfl | rfl
  · exact ⟨0, by omega, rfl⟩
  · exact ⟨1, by omega, rfl⟩
theorem rf_value {idx : Nat} (hd : decode cc pc = .ok (.getfield idx, 3)) (hw : Cond.fieldLink own idx RJ0 "value" "[B" ∈ lw_gd) : d_RF own cc nL pc 42 3 0 0 [] := by
  rintro p l e R s m args below meth c G sc Q H locs cells slots L st L' st' pc' ls ⟨hx, hb, hml, hown, hts, hF, hS0⟩ hS hs hl1 hl2 hL
  match st, hs with
  | (x1, x2) :: st, hs =>
    obtain ⟨⟨rfl, g1⟩, he⟩ := d_if (show (if x1 = 2 ∧ (x2 = 1000002 ∨ x2 = 1000003) then some (pc + 3, L, (2, x2 + 2) :: st) else none) = some (pc', L', st') from hs)
    cases he
    obtain ⟨i, hi, rfl⟩ := d_two g1
    refine ⟨hl1, d_rv_cons (d_rv_2 (by unfold R32; omega)) (d_rv_tl hl2), fun k => ?_⟩
    obtain ⟨t, adK, adV, -, e1, -, -, -, -, k1, -⟩ := d_fcS hF.2.2.2
    have key := k ls hL
    rw [List.map_cons, d_cv_r, show (1000002 + (i : Int) + 2) = 1000004 + i by omega, (e1 i hi).2] at key
    rw [List.map_cons, d_cv_r, (e1 i hi).1]
    exact vk_getf hx hb (k1.1 i hi).2.2.1 hS hown (hts _ hw) (fun _ z => z) hd key
theorem rf_coder {idx : Nat} (hd : decode cc pc = .ok (.getfield idx, 3)) (hw : Cond.fieldLink own idx RJ0 "coder" "B" ∈ lw_gd) : d_RF own cc nL pc 43 3 0 0 [] := by
  rintro p l e R s m args below meth c G sc Q H locs cells slots L st L' st' pc' ls ⟨hx, hb, hml, hown, hts, hF, hS0⟩ hS hs hl1 hl2 hL
  match st, hs with
  | (x1, x2) :: st, hs =>
    obtain ⟨⟨rfl, g1⟩, he⟩ := d_if (show (if x1 = 2 ∧ (x2 = 1000002 ∨ x2 = 1000003) then some (pc + 3, L, (0, 0) :: st) else none) = some (pc', L', st') from hs)
    cases he
    obtain ⟨i, hi, rfl⟩ := d_two g1
    refine ⟨hl1, d_rv_cons (d_rv_0 (by unfold R32; omega)) (d_rv_tl hl2), fun k => ?_⟩
    obtain ⟨t, adK, adV, -, e1, -, -, -, -, k1, -⟩ := d_fcS hF.2.2.2
    have key := k ls hL
    rw [List.map_cons, d_cv_r, (e1 i hi).1]
    exact vk_getf hx hb (k1.1 i hi).2.1 hS hown (hts _ hw) (fun _ z => z) hd key
theorem d_strlen {i : Nat} (hi : i < 2) : ([50, 62] : List Nat).getD i 0 = (d_str i).length := by
  rcases (show i = 0 ∨ i = 1 by omega) with rfl | rfl <;> rfl
theorem d_strbyte {i : Nat} (hi : i < 2) (j : Nat) : (([d_bytes 0, d_bytes 1] : List (List Int32)).getD i []).getD j 0 = Int32.ofInt ((d_str i).getD j 0) := by
  have key : ∀ k : Nat, (d_bytes k).getD j 0 = Int32.ofInt ((d_str k).getD j 0) := by
    intro k
    unfold d_bytes
    rw [List.getD_eq_getElem?_getD, List.getElem?_map, List.getD_eq_getElem?_getD]
    cases (d_str k)[j]? <;> rfl
  rcases (show i = 0 ∨ i = 1 by omega) with rfl | rfl
  · exact key 0
  · exact key 1
theorem rf_bytelen (hd : decode cc pc = .ok (.arraylength, 1)) : d_RF own cc nL pc 44 1 0 0 [] := by
  rintro p l e R s m args below meth c G sc Q H locs cells slots L st L' st' pc' ls ⟨hx, hb, hml, hown, hts, hF, hS0⟩ hS hs hl1 hl2 hL
  match st, hs with
  | (x1, x2) :: st, hs =>
    obtain ⟨⟨rfl, g1⟩, he⟩ := d_if (show (if x1 = 2 ∧ (x2 = 1000004 ∨ x2 = 1000005) then some (pc + 1, L, (0, ((d_str (x2 - 1000004).toNat).length : Int)) :: st) else none) = some (pc', L', st') from hs)
    cases he
    obtain ⟨i, hi, rfl⟩ := d_two2 g1
    have e2 : (1000004 + (i : Int) - 1000004).toNat = i := by omega
    have hlen : (d_str i).length < 100 := by rcases (show i = 0 ∨ i = 1 by omega) with rfl | rfl <;> decide
    rw [e2]
    refine ⟨hl1, d_rv_cons (d_rv_0 (by unfold R32; omega)) (d_rv_tl hl2), fun k => ?_⟩
    obtain ⟨t, adK, adV, -, e1, -, -, -, -, k1, -⟩ := d_fcS hF.2.2.2
    have key := k ls hL
    rw [List.map_cons, d_cv_i] at key
    rw [List.map_cons, d_cv_r, (e1 i hi).2]
    have k2 := (k1.1 i hi).2.2.2
    rw [d_strlen hi] at k2
    exact va_tlen hx hb k2 hS rfl hd key
theorem rf_byte (hd : decode cc pc = .ok (.baload, 1)) : d_RF own cc nL pc 45 1 0 0 [] := by
  rintro p l e R s m args below meth c G sc Q H locs cells slots L st L' st' pc' ls ⟨hx, hb, hml, hown, hts, hF, hS0⟩ hS hs hl1 hl2 hL
  match st, hs with
  | (i1, j2) :: (x1, x2) :: st, hs =>
    obtain ⟨⟨rfl, rfl, g1, g2, g3⟩, he⟩ := d_if (show (if i1 = 0 ∧ x1 = 2 ∧ (x2 = 1000004 ∨ x2 = 1000005) ∧ 0 ≤ j2 ∧ j2 < (d_str (x2 - 1000004).toNat).length then some (pc + 1, L, (0, (d_str (x2 - 1000004).toNat).getD j2.toNat 0) :: st) else none) = some (pc', L', st') from hs)
    cases he
    obtain ⟨i, hi, rfl⟩ := d_two2 g1
    have e2 : (1000004 + (i : Int) - 1000004).toNat = i := by omega
    rw [e2] at g3 ⊢
    have hr : ∀ j : Nat, R32 ((d_str i).getD j 0) := by
      intro j
      have h0 : ∀ i, i < 2 → ∀ z ∈ d_str i, -128 ≤ z ∧ z < 128 := by decide +kernel
      rw [List.getD_eq_getElem?_getD]
      cases hz : (d_str i)[j]? with
      | none => show R32 0; unfold R32; omega
      | some z =>
        have := h0 i hi z (List.mem_of_getElem? hz)
        show R32 z
        unfold R32
        omega
    have hir : R32 j2 := d_rv_hd hl2
    refine ⟨hl1, d_rv_cons (d_rv_0 (hr _)) (d_rv_tl (d_rv_tl hl2)), fun k => ?_⟩
    obtain ⟨t, adK, adV, -, e1, -, -, -, -, k1, -⟩ := d_fcS hF.2.2.2
    have key := k ls hL
    rw [List.map_cons, d_cv_i] at key
    rw [List.map_cons, List.map_cons, d_cv_i, d_cv_r, (e1 i hi).2]
    have k2 := (k1.1 i hi).2.2.2
    rw [d_strlen hi] at k2
    refine va_tb hx hb k2 hS (d_clampI hir g2 g3) (v := .int (Int32.ofInt ((d_str i).getD j2.toNat 0))) ?_ hd key
    rw [d_strbyte hi, i32_clamp hir]
theorem rf_aboveld (hd : decode cc pc = .ok (.iaload, 1)) : d_RF own cc nL pc 39 1 0 0 [] := by
  rintro p l e R s m args below meth c G sc Q H locs cells slots L st L' st' pc' ls ⟨hx, hb, hml, hown, hts, hF, hS0⟩ hS hs hl1 hl2 hL
  match st, hs with
  | (i1, j2) :: (x1, x2) :: st, hs =>
    obtain ⟨⟨rfl, rfl, rfl, g2, g3⟩, he⟩ := d_if (show (if i1 = 0 ∧ x1 = 2 ∧ x2 = 1000000 ∧ 0 ≤ j2 ∧ j2 < 6 then some (pc + 1, L, (0, d_above.getD j2.toNat 0) :: st) else none) = some (pc', L', st') from hs)
    cases he
    have hr : ∀ j : Nat, j < 6 → R32 (d_above.getD j 0) := by
      intro j hj
      have h0 : ∀ j, j < 6 → -128 ≤ d_above.getD j 0 ∧ d_above.getD j 0 < 128 := by decide +kernel
      have := h0 j hj
      unfold R32
      omega
    have hir : R32 j2 := d_rv_hd hl2
    refine ⟨hl1, d_rv_cons (d_rv_0 (hr _ (by omega))) (d_rv_tl (d_rv_tl hl2)), fun k => ?_⟩
    obtain ⟨t, adK, adV, e0, -, -, k2, -⟩ := d_fcS hF.2.2.2
    have key := k ls hL
    rw [List.map_cons, d_cv_i] at key
    rw [List.map_cons, List.map_cons, d_cv_i, d_cv_r, e0]
    refine va_ti hx hb k2 hS (d_clampI hir g2 g3) (v := .int (Int32.ofInt (d_above.getD j2.toNat 0))) ?_ hd key
    rw [i32_clamp hir]
end DFK
