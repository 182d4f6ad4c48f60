theorem d_sl_app (K : List (Nat × Nat)) (c : Nat × Nat) : d_sl (K ++ [c]) = d_sl K + c.2 := by simp [d_sl]
theorem d_new_old {M : dM} {n tag : Nat} : ∀ (a : Nat) (j : Int), a < n → d_new M n tag a j = M a j := by
  intro a j h
  unfold d_new
  rw [if_neg (by omega)]
theorem d_new_R {M : dM} {n tag : Nat} (h : ∀ i j : Int, R32 (M i j)) : ∀ i j : Int, R32 (d_new M n tag i j) := by
  intro i j
  unfold d_new d_dfl
  split
  · split
    · split <;> (unfold R32; omega)
    · split <;> (unfold R32; omega)
  · exact h i j
theorem d_new_at {M : dM} {n tag : Nat} (j : Nat) : d_new M n tag n j = d_dfl tag j := by
  unfold d_new
  rw [if_pos rfl]
  congr 1
theorem d_P_push {G : dG} {K : List (Nat × Nat)} {M : dM} {tag sz : Nat} {H H1 : Heap} {D : va_G} {cl : List vw_C} (hP : va_P D cl (d_ws G (K, M)) H) (hz : H.size = G.1 + K.length) (ho : ∀ q, q < H.size → H1[q]? = H[q]?) (hn : va_at D cl (G.1 + K.length, d_E G (d_new M K.length tag) K.length (tag, sz)) H1) : va_P D cl (d_ws G (K ++ [(tag, sz)], d_new M K.length tag)) H1 := by
  rw [d_ws_push (fun a j h => d_new_old a j h)]
  have hk : ∀ (k : Nat) (x : Nat × va_E), (d_ws G (K, M))[k]? = some x → H1[x.1]? = H[x.1]? := fun k x hx => ho x.1 ((hP k x hx).lt)
  refine (hP.kept hk).app (fun k x hx => ?_)
  have hz : k < 1 := (List.getElem?_eq_some_iff.mp hx).1
  rw [show k = 0 by omega] at hx
  cases hx
  exact hn
theorem d_S_push {A : Nat → Prop} {H0 H H1 : Heap} {locs : List Loc} (hS : va_S A H0 H locs) (h1 : H1.size = H.size + 1) (ho : ∀ q, q < H.size → H1[q]? = H[q]?) : va_S A H0 H1 locs := ⟨Nat.le_trans hS.1 (by omega), fun x h1 h2 => (ho x (Nat.lt_of_lt_of_le h1 hS.1)).trans (hS.2.1 x h1 h2), hS.2.2⟩
theorem d_cat_sum (G : dG) : ∀ st : List dV, ((st.map (d_cv G)).map (fun v => v.category)).sum = d_cat st := by
  intro st
  induction st with
  | nil => rfl
  | cons v st ih =>
    simp only [List.map_cons, List.sum_cons, ih]
    unfold d_cat
    simp only [List.map_cons, List.sum_cons]
    congr 1
    by_cases h : v.1 = 1
    · rw [if_pos h]
      exact (d_cat2 G v).mpr h
    · rw [if_neg h]
      exact d_cat1 G h
section DHN
variable {P : Nat → Option dD} {ini : Bool} {own : String} {cc : ByteArray} {nL pc : Nat}
theorem rh_new {ci N idx : Nat} {C : String} {T : u_T} (hd : decode cc pc = .ok (.new idx, 3)) (hc : vwCl[ci]? = some (C, T, N)) (h8 : ci < 8) (hu : ∀ w ∈ u_ws C T N, w ∈ lw_gd) (hty : ∀ k, k < N → parseFieldDescriptor (T k).2.2.1 = some (d_ty ci k)) (hw1 : Cond.classLink own idx C ∈ lw_gd) (hw2 : Cond.instantiable C N ∈ lw_gd) (hw3 : Cond.initialized C ∈ lw_gd) (hdf : ∀ k, k < N → defaultValue (d_ty ci k) = (if d_tg (d_ty ci k) = 2 then .null else if d_tg (d_ty ci k) = 1 then .long 0 else .int 0)) : d_RH P ini own cc nL pc 25 3 (ci : Int) (N : Int) := by
  rintro p l e R s m args below meth c G sc Q H locs n0 s0 L st h x' ls ⟨hx, hb, hml, hown, hts, hF, hS0⟩ hini hfr hlo hg hz hP hS hL hs hn hs0 hR1 hR2 kk
  obtain ⟨g1, he⟩ := d_if (show (if h.1.length < 1000000 then some (pc + 3, L, (2, (h.1.length : Int)) :: st, (h.1 ++ [(ci, N)], d_new h.2 h.1.length ci)) else none) = some x' by
    cases st <;> exact hs)
  subst he
  have hKn := hF.1.1 ci _ hc
  have e1 : (h.1 ++ [(ci, N)]).length = h.1.length + 1 := by simp
  have e2 : d_sl (h.1 ++ [(ci, N)]) = d_sl h.1 + N := d_sl_app _ _
  have hR1 : (h.1 ++ [(ci, N)]).length ≤ n0 + R.cells := hR1
  have hR2 : d_sl (h.1 ++ [(ci, N)]) ≤ s0 + R.slots := hR2
  refine W.newcK hx hb hown (hts _ hw1) (hts _ hw2) (hts _ hw3) rfl hd (by omega) (by omega) hKn.2.1 rfl fun H1 kC hkC b1 z1 o1 => ?_
  have hPn : va_P G.2.2.1 vwCl (d_ws G (h.1 ++ [(ci, N)], d_new h.2 h.1.length ci)) H1 := by
    refine d_P_push hP hz o1 ?_
    rw [d_E_obj G _ _ h8]
    refine ⟨_, hc, ?_⟩
    have hb1 := (u_born (d_ty ci) hts hu hKn hkC b1 hty)
    rw [hz] at hb1
    refine hb1.to (fun j hj => ?_)
    rw [hdf j hj]
    unfold vp_V
    rw [List.getD_eq_getElem?_getD, List.getElem?_map, List.getElem?_range hj]
    simp only [Option.map_some, Option.getD_some]
    rw [d_new_at]
    unfold d_dfl
    rw [if_pos h8]
    by_cases q2 : d_tg (d_ty ci j) = 2
    · rw [if_pos q2, if_pos q2, q2]
      rfl
    · rw [if_neg q2, if_neg q2]
      by_cases q1 : d_tg (d_ty ci j) = 1
      · rw [if_pos q1, q1]
        rfl
      · rw [if_neg q1]
        have : d_tg (d_ty ci j) = 0 := by
          have : d_tg (d_ty ci j) ≤ 2 := by
            unfold d_tg
            split <;> omega
          omega
        rw [this]
        rfl
  have key := kk ⟨hg.1, d_rv_cons (d_rv_2 (by unfold R32; omega)) hg.2.1, d_new_R hg.2.2⟩ H1 locs ls (by rw [z1, hz]; dsimp only; omega) hPn (d_S_push hS z1 o1) hL
  rw [List.map_cons, d_cv_ref G g1, ← hz] at key
  dsimp only at key
  rw [e1, e2] at key
  have e3 : h.1.length + 1 - n0 = h.1.length - n0 + 1 := by omega
  have e4 : d_sl h.1 + N - s0 = d_sl h.1 - s0 + N := by omega
  rw [e3, e4] at key
  exact key
theorem rh_newa {tag : Nat} {aty : ArrayType} (hd : decode cc pc = .ok (.newarray aty, 2)) (ht : tag = 8 ∧ aty = .int ∨ tag = 9 ∧ aty = .boolean) (hw : Cond.arrayClass (newarray.typeOf aty) ∈ lw_gd) : d_RH P ini own cc nL pc 26 2 (tag : Int) 0 := by
  rintro p l e R s m args below meth c G sc Q H locs n0 s0 L st h x' ls ⟨hx, hb, hml, hown, hts, hF, hS0⟩ hini hfr hlo hg hz hP hS hL hs hn hs0 hR1 hR2 kk
  match st, hs with
  | (x1, x2) :: st, hs =>
  obtain ⟨⟨g1, g2, g3, g4⟩, he⟩ := d_if (show (if h.1.length < 1000000 ∧ x1 = 0 ∧ 0 ≤ x2 ∧ x2 < 1000000 then some (pc + 2, L, (2, (h.1.length : Int)) :: st, (h.1 ++ [(tag, x2.toNat)], d_new h.2 h.1.length tag)) else none) = some x' from hs)
  subst g2
  subst he
  have hxr : R32 x2 := d_rv_hd hg.2.1
  have e1 : (h.1 ++ [(tag, x2.toNat)]).length = h.1.length + 1 := by simp
  have e2 : d_sl (h.1 ++ [(tag, x2.toNat)]) = d_sl h.1 + x2.toNat := d_sl_app _ _
  have hR1 : (h.1 ++ [(tag, x2.toNat)]).length ≤ n0 + R.cells := hR1
  have hR2 : d_sl (h.1 ++ [(tag, x2.toNat)]) ≤ s0 + R.slots := hR2
  have hN : (Int32.ofInt x2).toNatClampNeg = x2.toNat := i32_clamp hxr
  have hneg : ¬ Int32.ofInt x2 < 0 := fun z => by
    have := (i32_lt hxr (show R32 0 by unfold R32; omega)).mp z
    omega
  refine va_newaK hx hb (hts _ hw) (g := F0 m pc ls (List.map (d_cv G) ((0, x2) :: st))) rfl hd rfl hneg hN (by rcases ht with ⟨-, rfl⟩ | ⟨-, rfl⟩ <;> (simp [newarray.typeOf, componentBytes]; omega)) (by omega) (by omega) rfl fun H1 cA b1 z1 o1 hAr hNm => ?_
  have hcA : cA = G.2.2.2 tag ∧ ¬ tag < 8 ∧ tag < 10 := by
    rcases ht with ⟨rfl, rfl⟩ | ⟨rfl, rfl⟩
    · have := (hF.1.2 0 _ (d_tys_at G).1).2
      exact ⟨Option.some.inj (hNm.symm.trans this), by decide, by decide⟩
    · have := (hF.1.2 1 _ (d_tys_at G).2.1).2
      exact ⟨Option.some.inj (hNm.symm.trans this), by decide, by decide⟩
  obtain ⟨hcA, h8, h10⟩ := hcA
  have hPn : va_P G.2.2.1 vwCl (d_ws G (h.1 ++ [(tag, x2.toNat)], d_new h.2 h.1.length tag)) H1 := by
    refine d_P_push hP hz o1 ?_
    rw [d_E_int G _ _ h8 h10]
    show H1[G.1 + h.1.length]? = some (vp_cell _ _)
    rw [← hz, b1, hcA, vp_cell_i]
    have hd0 : defaultValue (newarray.typeOf aty) = .int 0 := by rcases ht with ⟨-, rfl⟩ | ⟨-, rfl⟩ <;> rfl
    rw [hd0]
    congr 3
    funext j
    rw [d_new_at]
    unfold d_dfl
    rw [if_neg h8, if_pos h10]
    rfl
  have key := kk ⟨hg.1, d_rv_cons (d_rv_2 (by unfold R32; omega)) (d_rv_tl hg.2.1), d_new_R hg.2.2⟩ H1 locs ls (by rw [z1, hz]; dsimp only; omega) hPn (d_S_push hS z1 o1) hL
  rw [List.map_cons, d_cv_ref G g1, ← hz] at key
  dsimp only at key
  rw [e1, e2] at key
  have e3 : h.1.length + 1 - n0 = h.1.length - n0 + 1 := by omega
  have e4 : d_sl h.1 + x2.toNat - s0 = d_sl h.1 - s0 + x2.toNat := by omega
  rw [e3, e4] at key
  exact key
theorem rh_anewa {tag idx : Nat} {C : String} (hd : decode cc pc = .ok (.anewarray idx, 3)) (ht : tag = 10 ∧ C = RX0 ∨ tag = 11 ∧ C = RX4 ∨ tag = 12 ∧ C = RX3) (hw : Cond.classLink own idx C ∈ lw_gd) : d_RH P ini own cc nL pc 27 3 (tag : Int) 0 := by
  rintro p l e R s m args below meth c G sc Q H locs n0 s0 L st h x' ls ⟨hx, hb, hml, hown, hts, hF, hS0⟩ hini hfr hlo hg hz hP hS hL hs hn hs0 hR1 hR2 kk
  match st, hs with
  | (x1, x2) :: st, hs =>
  obtain ⟨⟨g1, g2, g3, g4⟩, he⟩ := d_if (show (if h.1.length < 1000000 ∧ x1 = 0 ∧ 0 ≤ x2 ∧ x2 < 1000000 then some (pc + 3, L, (2, (h.1.length : Int)) :: st, (h.1 ++ [(tag, x2.toNat)], d_new h.2 h.1.length tag)) else none) = some x' from hs)
  subst g2
  subst he
  have hxr : R32 x2 := d_rv_hd hg.2.1
  have e1 : (h.1 ++ [(tag, x2.toNat)]).length = h.1.length + 1 := by simp
  have e2 : d_sl (h.1 ++ [(tag, x2.toNat)]) = d_sl h.1 + x2.toNat := d_sl_app _ _
  have hR1 : (h.1 ++ [(tag, x2.toNat)]).length ≤ n0 + R.cells := hR1
  have hR2 : d_sl (h.1 ++ [(tag, x2.toNat)]) ≤ s0 + R.slots := hR2
  have hN : (Int32.ofInt x2).toNatClampNeg = x2.toNat := i32_clamp hxr
  have hneg : ¬ Int32.ofInt x2 < 0 := fun z => by
    have := (i32_lt hxr (show R32 0 by unfold R32; omega)).mp z
    omega
  have hAO : va_AO C s := by
    obtain ⟨k1, k2, k3⟩ := hF.2.2.1
    rcases ht with ⟨-, rfl⟩ | ⟨-, rfl⟩ | ⟨-, rfl⟩
    · exact k1
    · exact k2
    · exact k3
  refine W.anew hx hb hown (hts _ hw) (va_AO.use hAO) (g := F0 m pc ls (List.map (d_cv G) ((0, x2) :: st))) rfl hd rfl hneg (by rw [hN]; omega) (by omega) (by rw [hN]; omega) fun cA kA comp f1 f2 f3 f4 => ?_
  generalize hH1 : H.push ({ cls := cA, slots := Array.replicate (Int32.ofInt x2).toNatClampNeg .null, vm := .none } : Cell) = H1
  have z1 : H1.size = H.size + 1 := by rw [← hH1, Array.size_push]
  have b1 : H1[H.size]? = some (arrV cA (Int32.ofInt x2).toNatClampNeg (fun _ => .null)) := by rw [← hH1, Array.getElem?_push_size, ← arrV_new]
  have o1 : ∀ q : Nat, q < H.size → H1[q]? = H[q]? := fun q hq => by rw [← hH1, Array.getElem?_push, if_neg (Nat.ne_of_lt hq)]
  have hcA : cA = G.2.2.2 tag ∧ ¬ tag < 10 := by
    have q1 := (hF.1.2 2 _ (d_tys_at G).2.2.1).2
    have q2 := (hF.1.2 3 _ (d_tys_at G).2.2.2.1).2
    have q3 := (hF.1.2 4 _ (d_tys_at G).2.2.2.2).2
    rcases ht with ⟨rfl, rfl⟩ | ⟨rfl, rfl⟩ | ⟨rfl, rfl⟩
    · obtain ⟨_, _, -, -, -, q⟩ := q1
      exact ⟨Option.some.inj (f1.symm.trans q), by decide⟩
    · obtain ⟨_, _, -, -, -, q⟩ := q2
      exact ⟨Option.some.inj (f1.symm.trans q), by decide⟩
    · obtain ⟨_, _, -, -, -, q⟩ := q3
      exact ⟨Option.some.inj (f1.symm.trans q), by decide⟩
  obtain ⟨hcA, h10⟩ := hcA
  have hPn : va_P G.2.2.1 vwCl (d_ws G (h.1 ++ [(tag, x2.toNat)], d_new h.2 h.1.length tag)) H1 := by
    refine d_P_push hP hz o1 ?_
    rw [d_E_ref G _ _ h10]
    show H1[G.1 + h.1.length]? = some (vp_cell _ _)
    rw [← hz, b1, hcA, hN, vp_cell_q]
    congr 2
    funext j
    rw [d_new_at]
    unfold d_dfl
    rw [if_neg (by omega), if_neg h10]
    rfl
  have key := kk ⟨hg.1, d_rv_cons (d_rv_2 (by unfold R32; omega)) (d_rv_tl hg.2.1), d_new_R hg.2.2⟩ H1 locs ls (by rw [z1, hz]; dsimp only; omega) hPn (d_S_push hS z1 o1) hL
  rw [List.map_cons, d_cv_ref G g1, ← hz] at key
  dsimp only at key
  rw [e1, e2] at key
  have e3 : h.1.length + 1 - n0 = h.1.length - n0 + 1 := by omega
  have e4 : d_sl h.1 + x2.toNat - s0 = d_sl h.1 - s0 + (Int32.ofInt x2).toNatClampNeg := by omega
  rw [e3, e4] at key
  exact key
theorem rh_objInit {idx : Nat} (hd : decode cc pc = .ok (.invokespecial idx, 3)) (hw1 : Cond.methodLink own idx Lib.objectInit ∈ lw_gd) (hw2 : Cond.instanceMethod Lib.objectInit ∈ lw_gd) (hw3 : Cond.code Lib.objectInit ⟨#[0xb1]⟩ 1 none ∈ lw_gd) : d_RH P ini own cc nL pc 29 3 0 0 := by
  rintro p l e R s m args below meth c G sc Q H locs n0 s0 L st h x' ls ⟨hx, hb, hml, hown, hts, hF, hS0⟩ hini hfr hlo hg hz hP hS hL hs hn hs0 hR1 hR2 kk
  match st, hs with
  | (x1, x2) :: st, hs =>
  obtain ⟨⟨g1, g2, g3, g4⟩, he⟩ := d_if (show (if x1 = 2 ∧ 0 ≤ x2 ∧ x2 < 1000000 ∧ d_cat st ≤ 8 then some (pc + 3, L, st, h) else none) = some x' from hs)
  subst g1
  subst he
  have key := kk ⟨hg.1, d_rv_tl hg.2.1, hg.2.2⟩ H locs ls hz hP hS hL
  rw [List.map_cons, d_cv_r, d_rf_cell G g2 g3]
  refine W.objInit hx hb hown (hts _ hw1) (hts _ hw2) (hts _ hw3) rfl (by rw [hml]; exact hL.1) rfl hd hfr ?_ key
  have := d_cat_sum G st
  show 2 * 0 + _ + 12 ≤ _
  omega
end DHN
