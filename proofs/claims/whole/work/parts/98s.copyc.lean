/-! copy, both sides -/
def cpl (src dst : List Int) (i j n : Nat) : List Int := lst (fun k => if (j : Int) ≤ k ∧ k < (j : Int) + (n : Int) then src.getD ((i : Int) + (k - j)).toNat 0 else dst.getD k.toNat 0) dst.length
theorem cpl_len (src dst : List Int) (i j n : Nat) : (cpl src dst i j n).length = dst.length := lst_len _ _
theorem cpl_get {src dst : List Int} {i j n k : Nat} (h : k < (cpl src dst i j n).length) : (cpl src dst i j n)[k] = if j ≤ k ∧ k < j + n then src.getD (i + (k - j)) 0 else dst.getD k 0 := by
  have h' : k < dst.length := by rw [cpl_len] at h; exact h
  have e : (cpl src dst i j n)[k]? = some (if j ≤ k ∧ k < j + n then src.getD (i + (k - j)) 0 else dst.getD k 0) := (lst_get _ h').trans (congrArg some (by
    by_cases q : j ≤ k ∧ k < j + n
    · rw [if_pos q, if_pos (by omega), show ((i : Int) + ((k : Int) - j)).toNat = i + (k - j) by omega]
    · rw [if_neg q, if_neg (by omega), Int.toNat_natCast]))
  rw [List.getElem?_eq_getElem h] at e
  exact Option.some.inj e
def copyP (so : Nat → Int) (sl : Nat → List Int) (s i y j n : Int) : Prop := (0 ≤ n ∧ 0 ≤ i ∧ 0 ≤ j) ∧ i ≤ ((sl s.toNat).length : Int) - n ∧ j ≤ ((sl y.toNat).length : Int) - n
def copyB (so : Nat → Int) (sl : Nat → List Int) (s i y j n : Int) : Bool := decide (((0 ≤ s ∧ s < 4) ∧ 0 ≤ y ∧ y < 4) ∧ (¬ so s.toNat = -1 ∧ ¬ so y.toNat = -1) ∧ so s.toNat = so y.toNat ∧ (0 ≤ n ∧ 0 ≤ i ∧ 0 ≤ j) ∧ i ≤ ((sl s.toNat).length : Int) - n ∧ j ≤ ((sl y.toNat).length : Int) - n)
def copyF (so : Nat → Int) (sl : Nat → List Int) (s i y j n : Int) : Int := if 0 ≤ s ∧ s < 4 then (if 0 ≤ y ∧ y < 4 then (if so s.toNat = -1 then -11 else if so y.toNat = -1 then -11 else if so s.toNat = so y.toNat then (if (0 ≤ n ∧ 0 ≤ i ∧ 0 ≤ j) ∧ i ≤ ((sl s.toNat).length : Int) - n ∧ j ≤ ((sl y.toNat).length : Int) - n then n else -12) else -13) else -2) else -2
def copyL (so : Nat → Int) (sl : Nat → List Int) (s i y j n : Int) : Nat → List Int := if copyB so sl s i y j n = true then upf sl y.toNat (cpl (sl s.toNat) (sl y.toNat) i.toNat j.toNat n.toNat) else sl
theorem okS_copy {so : Nat → Int} {sl : Nat → List Int} (h : okS so sl) (s i y j n : Int) : okS so (copyL so sl s i y j n) := by
  unfold copyL
  by_cases p : copyB so sl s i y j n = true
  · rw [if_pos p]
    intro a ha
    by_cases z : a = y.toNat
    · subst z
      rw [upd_at, cpl_len]
      exact h _ ha
    · rw [upd_n z]
      exact h a ha
  · rw [if_neg p]
    exact h
theorem dcpy_n {M : dM} {x i y j n p k : Int} (h : p ≠ y) : d_cpy M x i y j n p k = M p k := by
  unfold d_cpy
  rw [if_neg (fun z => h z.1)]
theorem dcpy_at {M : dM} {x i y j n k : Int} (h : j ≤ k ∧ k < j + n) : d_cpy M x i y j n y k = M x (i + (k - j)) := by
  unfold d_cpy
  rw [if_pos ⟨rfl, h.1, h.2⟩]
theorem dcpy_o {M : dM} {x i y j n k : Int} (h : ¬ (j ≤ k ∧ k < j + n)) : d_cpy M x i y j n y k = M y k := by
  unfold d_cpy
  rw [if_neg (fun z => h z.2)]
theorem cg_of2 {x y i j n : Int} {c cy : Nat} (hx : kc K0 x = some (8, c)) (hy : kc K0 y = some (8, cy)) (h : 0 ≤ n ∧ 0 ≤ i ∧ 0 ≤ j ∧ i + n ≤ (c : Int) ∧ j + n ≤ (cy : Int)) : cg K0 x i y j n = true := by
  unfold cg
  rw [hx, hy]
  exact decide_eq_true ⟨rfl, rfl, h.1, h.2.1, h.2.2.1, h.2.2.2.1, h.2.2.2.2⟩
theorem cg_s {a b : Nat} (ha : a < 4) (hb : b < 4) {i j n : Int} (h : 0 ≤ n ∧ 0 ≤ i ∧ 0 ≤ j ∧ i + n ≤ 40 ∧ j + n ≤ 40) : cg K0 (sO a + 1) i (sO b + 1) j n = true := cg_of2 (sO_kc ha).2 (sO_kc hb).2 h
theorem copy_c {sc : dS} {d : Nat} {M : dM} (hs : Sk M) {so : Nat → Int} {sl : Nat → List Int} (hok : okS so sl) (hc : ∀ n : Nat, n < 4 → cS M n (so n) (sl n)) (s i y j n : Int) (hn : -2147483648 ≤ n ∧ n < 2147483648) : ∃ M' : dM, vc sc (d + 2) 103 [(2, 0), (0, s), (0, i), (0, y), (0, j), (0, n)] (K0, M) = some ([(0, copyF so sl s i y j n)], (K0, M')) ∧ Sk M' ∧ FSA M M' ∧ ∀ a : Nat, a < 4 → cS M' a (so a) (copyL so sl s i y j n a) := by
  rw [vc_s (md := m_X6_copy) (L := [(2, 0), (0, s), (0, i), (0, y), (0, j), (0, n), (3, 0), (3, 0)]) rfl (Nat.le_of_ble_eq_true rfl) rfl]
  show ∃ M', vr sc (d + 1) c_X6_copy (0, [(2, 0), (0, s), (0, i), (0, y), (0, j), (0, n), (3, 0), (3, 0)], [], (K0, M)) = _ ∧ _
  rw [e_X6_copy_0, isSheet_ok, Option.bind_some]
  show ∃ M', vr sc (d + 1) c_X6_copy (4, [(2, 0), (0, s), (0, i), (0, y), (0, j), (0, n), (3, 0), (3, 0)], [(0, _)], (K0, M)) = _ ∧ _
  rw [e_X6_copy_4]
  have same : FSA M M := fun _ _ _ => rfl
  unfold copyF copyL
  have no : ¬ (((0 ≤ s ∧ s < 4) ∧ 0 ≤ y ∧ y < 4) ∧ (¬ so s.toNat = -1 ∧ ¬ so y.toNat = -1) ∧ so s.toNat = so y.toNat ∧ (0 ≤ n ∧ 0 ≤ i ∧ 0 ≤ j) ∧ i ≤ ((sl s.toNat).length : Int) - n ∧ j ≤ ((sl y.toNat).length : Int) - n) → ¬ copyB so sl s i y j n = true := fun z w => z (of_decide_eq_true w)
  by_cases p : ¬ (0 ≤ s ∧ s < 4)
  · rw [bi_f p, if_pos rfl, if_neg p, if_neg (no (fun z => p z.1.1))]
    exact ⟨M, rfl, hs, same, hc⟩
  have p := Classical.not_not.mp p
  rw [bi_t p, if_neg (by decide), if_pos p, isSheet_ok, Option.bind_some]
  show ∃ M', vr sc (d + 1) c_X6_copy (11, [(2, 0), (0, s), (0, i), (0, y), (0, j), (0, n), (3, 0), (3, 0)], [(0, _)], (K0, M)) = _ ∧ _
  rw [e_X6_copy_11]
  by_cases q : ¬ (0 ≤ y ∧ y < 4)
  · rw [bi_f q, if_neg (fun z => z rfl), if_neg q, if_neg (no (fun z => q z.1.2))]
    exact ⟨M, rfl, hs, same, hc⟩
  have q := Classical.not_not.mp q
  obtain ⟨a, rfl⟩ : ∃ k : Nat, s = k := ⟨s.toNat, by omega⟩
  obtain ⟨b, rfl⟩ : ∃ k : Nat, y = k := ⟨y.toNat, by omega⟩
  rw [Int.toNat_natCast, Int.toNat_natCast] at no
  have ha : a < 4 := by omega
  have hb : b < 4 := by omega
  have ca := hc a ha
  have cb := hc b hb
  have oa := hok a ha
  have ob := hok b hb
  have g6 : og K0 6 0 6 = true := rfl
  have a90 : ∀ k : Nat, k < 4 → ag K0 12 90 (k : Int) = true := fun k hk => ag_of (n := 4) rfl (by omega) (by omega)
  rw [bi_t q, if_pos (by decide), if_pos q, Int.toNat_natCast, Int.toNat_natCast, if_pos g6, Sk_06 hs, if_pos (a90 a ha), if_pos g6, if_pos (a90 b hb), (Sk_s hs ha).1, (Sk_s hs hb).1, if_pos (rg_s ha), isMissing_ok ha, Option.bind_some, ca.1]
  show ∃ M', vr sc (d + 1) c_X6_copy (38, [(2, 0), (0, (a : Int)), (0, i), (0, (b : Int)), (0, j), (0, n), (2, sO a), (2, sO b)], [(0, bi (so a = -1))], (K0, M)) = _ ∧ _
  rw [e_X6_copy_38]
  by_cases o1 : so a = -1
  · rw [bi_t o1, if_pos (by decide), if_pos o1, if_neg (no (fun z => z.2.1.1 o1))]
    exact ⟨M, rfl, hs, same, hc⟩
  rw [bi_f o1, if_neg (fun z => z rfl), if_neg o1, if_pos (rg_s hb), isMissing_ok hb, Option.bind_some, cb.1]
  show ∃ M', vr sc (d + 1) c_X6_copy (46, [(2, 0), (0, (a : Int)), (0, i), (0, (b : Int)), (0, j), (0, n), (2, sO a), (2, sO b)], [(0, bi (so b = -1))], (K0, M)) = _ ∧ _
  rw [e_X6_copy_46]
  by_cases o2 : so b = -1
  · rw [bi_t o2, if_neg (by decide), if_pos o2, if_neg (no (fun z => z.2.1.2 o2))]
    exact ⟨M, rfl, hs, same, hc⟩
  rw [bi_f o2, if_pos rfl, if_neg o2, if_pos (og_s ha (by decide)), if_pos (og_s hb (by decide)), ca.1, cb.1]
  by_cases o3 : ¬ so a = so b
  · rw [if_neg o3, if_neg o3, if_neg (no (fun z => o3 z.2.2.1))]
    exact ⟨M, rfl, hs, same, hc⟩
  have o3 := Classical.not_not.mp o3
  rw [if_pos o3, if_pos o3, if_pos (rg_s ha), spans_ok ha ca oa.2.2 hn, Option.bind_some]
  show ∃ M', vr sc (d + 1) c_X6_copy (76, [(2, 0), (0, (a : Int)), (0, i), (0, (b : Int)), (0, j), (0, n), (2, sO a), (2, sO b)], [(0, _)], (K0, M)) = _ ∧ _
  rw [e_X6_copy_76]
  by_cases u : ¬ (0 ≤ i ∧ 0 ≤ n ∧ n ≤ ((sl a).length : Int) ∧ i ≤ ((sl a).length : Int) - n)
  · rw [bi_f u, if_pos rfl, if_neg (show ¬ ((0 ≤ n ∧ 0 ≤ i ∧ 0 ≤ j) ∧ i ≤ ((sl a).length : Int) - n ∧ j ≤ ((sl b).length : Int) - n) by omega), if_neg (no (by omega))]
    exact ⟨M, rfl, hs, same, hc⟩
  have u := Classical.not_not.mp u
  rw [bi_t u, if_neg (by decide), if_pos (rg_s hb), spans_ok hb cb ob.2.2 hn, Option.bind_some]
  show ∃ M', vr sc (d + 1) c_X6_copy (88, [(2, 0), (0, (a : Int)), (0, i), (0, (b : Int)), (0, j), (0, n), (2, sO a), (2, sO b)], [(0, _)], (K0, M)) = _ ∧ _
  rw [e_X6_copy_88]
  by_cases v : ¬ (0 ≤ j ∧ 0 ≤ n ∧ n ≤ ((sl b).length : Int) ∧ j ≤ ((sl b).length : Int) - n)
  · rw [bi_f v, if_neg (fun z => z rfl), if_neg (show ¬ ((0 ≤ n ∧ 0 ≤ i ∧ 0 ≤ j) ∧ i ≤ ((sl a).length : Int) - n ∧ j ≤ ((sl b).length : Int) - n) by omega), if_neg (no (by omega))]
    exact ⟨M, rfl, hs, same, hc⟩
  have v := Classical.not_not.mp v
  obtain ⟨I, rfl⟩ : ∃ k : Nat, i = k := ⟨i.toNat, by omega⟩
  obtain ⟨J, rfl⟩ : ∃ k : Nat, j = k := ⟨j.toNat, by omega⟩
  obtain ⟨N, rfl⟩ : ∃ k : Nat, n = k := ⟨n.toNat, by omega⟩
  have yB : copyB so sl (a : Int) (I : Int) (b : Int) (J : Int) (N : Int) = true := decide_eq_true ⟨⟨p, q⟩, ⟨by rw [Int.toNat_natCast]; exact o1, by rw [Int.toNat_natCast]; exact o2⟩, by rw [Int.toNat_natCast, Int.toNat_natCast]; exact o3, ⟨by omega, by omega, by omega⟩, by rw [Int.toNat_natCast]; omega, by rw [Int.toNat_natCast]; omega⟩
  have hcg : cg K0 (sO a + 1) (I : Int) (sO b + 1) (J : Int) (N : Int) = true := cg_s ha hb ⟨by omega, by omega, by omega, by omega, by omega⟩
  have f1 : FSh b M (d_cpy M (sO a + 1) (I : Int) (sO b + 1) (J : Int) (N : Int)) := fun x k g0 _ => dcpy_n g0
  have hnew : cS (d_cpy M (sO a + 1) (I : Int) (sO b + 1) (J : Int) (N : Int)) b (so b) (cpl (sl a) (sl b) I J N) := by
    have ne : sO b ≠ sO b + 1 := by omega
    refine ⟨(dcpy_n ne).trans cb.1, (dcpy_n ne).trans (by rw [cpl_len]; exact cb.2.1), lst_of fun k hk => ?_⟩
    rw [cpl_get hk]
    rw [cpl_len] at hk
    by_cases z : J ≤ k ∧ k < J + N
    · rw [dcpy_at (by omega), if_pos z, show (I : Int) + ((k : Int) - J) = ((I + (k - J) : Nat) : Int) by omega, ca.2.get (show I + (k - J) < (sl a).length by omega), gdx_0]
    · rw [dcpy_o (by omega), if_neg z, cb.2.get hk, gdx_0]
  have hall := cS_upd hc hb f1 hnew
  rw [upf_self] at hall
  rw [bi_t v, if_pos (by decide), if_pos (show ((0 ≤ (N : Int) ∧ 0 ≤ (I : Int) ∧ 0 ≤ (J : Int)) ∧ (I : Int) ≤ ((sl a).length : Int) - N ∧ (J : Int) ≤ ((sl b).length : Int) - N) by omega), if_pos yB, if_pos (og_s ha (by decide)), if_pos (og_s hb (by decide)), (Sk_s hs ha).2, (Sk_s hs hb).2, if_pos hcg, Int.toNat_natCast, Int.toNat_natCast, Int.toNat_natCast]
  exact ⟨_, rfl, f1.sk hb hs, f1.fa hb, hall⟩
