/-! one, on both sides -/
def one1 (t : Tn) (a b : Nat) : Int := onef (pul (redl (tKn t a))) (pul (redl (tKn t b)))
def oneF (t : Tn) (a b : Int) : Int := if 0 ≤ a ∧ a < 6 then (if 0 ≤ b ∧ b < 6 then one1 t a.toNat b.toNat else -2) else -2
theorem Sk_00 {M : dM} (h : Sk M) : M 0 0 = 1 ∧ M 0 1 = 20 ∧ M 0 2 = 39 ∧ M 0 8 = 93 := by
  have key : ((0, 0, 1) : Int × Int × Int) ∈ SKL ∧ (0, 1, 20) ∈ SKL ∧ (0, 2, 39) ∈ SKL ∧ (0, 8, 93) ∈ SKL := by decide +kernel
  exact ⟨h _ key.1, h _ key.2.1, h _ key.2.2.1, h _ key.2.2.2⟩
theorem isT_1 : isT 1 := (by decide : (1 : Int) ∈ TNL)
theorem pr_len {t : Tn} (hok : okT t) {f : Nat} (h : f < 6) : (pul (redl (tKn t f))).length ≤ 12 :=
  Nat.le_trans (pul_len _) (Nat.le_trans (redl_len _) (hok.2.2 f h).2.2.2.2.1)
theorem onef_01 (a b : List Int) : onef a b = 0 ∨ onef a b = 1 := by
  unfold onef
  split
  · exact Or.inr rfl
  · exact Or.inl rfl
theorem one_c {sc : dS} {d : Nat} {M : dM} (hs : Sk M) {t : Tn} (ht : cT M 1 t) (hok : okT t) (x y : Int) : ∃ M' : dM, vc sc (d + 4) 72 [(2, 0), (0, x), (0, y)] (K0, M) = some ([(0, oneF t x y)], (K0, M')) ∧ Fr M M' := by
  rw [vc_s (md := m_X6_one) (L := [(2, 0), (0, x), (0, y)]) rfl (Nat.le_of_ble_eq_true rfl) rfl]
  show ∃ M', vr sc (d + 3) c_X6_one (0, [(2, 0), (0, x), (0, y)], [], (K0, M)) = _ ∧ _
  rw [e_X6_one_0, isFoot_ok, Option.bind_some]
  show ∃ M', vr sc (d + 3) c_X6_one (4, [(2, 0), (0, x), (0, y)], [(0, _)], (K0, M)) = _ ∧ _
  rw [e_X6_one_4]
  unfold oneF
  by_cases p : ¬ (0 ≤ x ∧ x < 6)
  · rw [bi_f p, if_pos rfl, if_neg p]
    exact ⟨M, rfl, Fr.rf _⟩
  have p := Classical.not_not.mp p
  rw [bi_t p, if_neg (by decide), if_pos p, isFoot_ok, Option.bind_some]
  show ∃ M', vr sc (d + 3) c_X6_one (11, [(2, 0), (0, x), (0, y)], [(0, _)], (K0, M)) = _ ∧ _
  rw [e_X6_one_11]
  by_cases q : ¬ (0 ≤ y ∧ y < 6)
  · rw [bi_f q, if_neg (fun z => z rfl), if_neg q]
    exact ⟨M, rfl, Fr.rf _⟩
  have q := Classical.not_not.mp q
  obtain ⟨a, rfl⟩ : ∃ n : Nat, x = n := ⟨x.toNat, by omega⟩
  obtain ⟨b, rfl⟩ : ∃ n : Nat, y = n := ⟨y.toNat, by omega⟩
  have ha : a < 6 := by omega
  have hb : b < 6 := by omega
  have z := Sk_00 hs
  have zT := Sk_T hs isT_1
  have ka := isT_kn isT_1 ha
  have kb := isT_kn isT_1 hb
  obtain ⟨M1, a1, a2, a3⟩ := become_ok (sc := sc) (d := d + 2) isK_93 ka hs (hok.2.2 a ha).2.2.2.2.1 (ht.2.2 a ha).2.2
  have hs1 := a2.s93.sk hs
  obtain ⟨M2, b1, b2, b3⟩ := pull_ok (sc := sc) (d := d) isK_93 hs1 (hok.2.2 a ha).2.2.2.2.1 a3
  have f2 := a2.s93.tr b2.s93
  have hs2 := f2.sk hs
  have ht2 := ht.fr (Or.inl rfl) f2
  obtain ⟨M3, c1, c2, c3⟩ := become_ok (sc := sc) (d := d + 2) isK_95 kb hs2 (hok.2.2 b hb).2.2.2.2.1 (ht2.2.2 b hb).2.2
  have hs3 := c2.s95.sk hs2
  obtain ⟨M4, e1, e2, e3⟩ := pull_ok (sc := sc) (d := d) isK_95 hs3 (hok.2.2 b hb).2.2.2.2.1 c3
  have hs4 := e2.s95.sk hs3
  have b4 := (b3.fr isK_93 isK_95 (by decide) c2).fr isK_93 isK_95 (by decide) e2
  have f4 := f2.tr (c2.s95.tr e2.s95)
  rw [bi_t q, if_pos (by decide), if_pos (show og K0 6 0 8 = true from rfl), if_pos (show og K0 6 0 0 = true from rfl), z.1, z.2.2.2, if_pos (og_tn isT_1 (by decide)), zT.2.2.2.2.2, if_pos (ag_t6 isT_1 (by omega) (by omega)), if_pos (rg_kn isK_93), Sk_Tk hs isT_1 ha, a1, Option.bind_some, if_pos q]
  show ∃ M', vr sc (d + 3) c_X6_one (33, [(2, 0), (0, (a : Int)), (0, (b : Int))], [], (K0, M1)) = _ ∧ _
  rw [e_X6_one_33, if_pos (show og K0 6 0 8 = true from rfl), (Sk_00 hs1).2.2.2, if_pos (rg_kn isK_93), b1, Option.bind_some]
  show ∃ M', vr sc (d + 3) c_X6_one (40, [(2, 0), (0, (a : Int)), (0, (b : Int))], [], (K0, M2)) = _ ∧ _
  rw [e_X6_one_40, if_pos (show og K0 6 0 9 = true from rfl), if_pos (show og K0 6 0 0 = true from rfl), (Sk_00 hs2).1, Sk_09 hs2, if_pos (og_tn isT_1 (by decide)), (Sk_T hs2 isT_1).2.2.2.2.2, if_pos (ag_t6 isT_1 (by omega) (by omega)), if_pos (rg_kn isK_95), Sk_Tk hs2 isT_1 hb, c1, Option.bind_some]
  show ∃ M', vr sc (d + 3) c_X6_one (56, [(2, 0), (0, (a : Int)), (0, (b : Int))], [], (K0, M3)) = _ ∧ _
  rw [e_X6_one_56, if_pos (show og K0 6 0 9 = true from rfl), Sk_09 hs3, if_pos (rg_kn isK_95), e1, Option.bind_some]
  show ∃ M', vr sc (d + 3) c_X6_one (63, [(2, 0), (0, (a : Int)), (0, (b : Int))], [], (K0, M4)) = _ ∧ _
  rw [e_X6_one_63, if_pos (show og K0 6 0 8 = true from rfl), if_pos (show og K0 6 0 9 = true from rfl), (Sk_00 hs4).2.2.2, Sk_09 hs4, if_pos (rg_kn isK_93), isTurned_ok isK_93 isK_95 hs4 (pr_len hok ha) b4 e3, Option.bind_some]
  show ∃ M', vr sc (d + 3) c_X6_one (74, [(2, 0), (0, (a : Int)), (0, (b : Int))], [(0, _)], (K0, M4)) = _ ∧ _
  rw [e_X6_one_74]
  refine ⟨M4, ?_, f4⟩
  show _ = some ([(0, onef (pul (redl (tKn t a))) (pul (redl (tKn t b))))], (K0, M4))
  rcases onef_01 (pul (redl (tKn t a))) (pul (redl (tKn t b))) with e | e
  · rw [e, if_pos rfl]
  · rw [e, if_neg (by decide)]
theorem WF.s115 {M : dM} {j v : Int} : Fr M (d_up M 115 j v) := fun x k g => d_up_n1 M (fun z => by rw [z, scr_o (by decide +kernel)] at g; cases g)
theorem other_loop {sc : dS} {d : Nat} {v1 v2 : Int} {q5 : dV} {l : List Int} (hl : l.length ≤ 12) : ∀ (m i : Nat) (M : dM), l.length - i = m → i ≤ l.length → Sk M → KV 107 29 114 M l → (∀ (j : Nat) (h : j < l.length), j < i → M 115 j = l[j]) →
    ∃ M' : dM, vr sc d c_X7_one (30, [(2, 107), (0, v1), (0, v2), (0, (l.length : Int)), (0, (i : Int)), q5], [], (K0, M)) = vr sc d c_X7_one (30, [(2, 107), (0, v1), (0, v2), (0, (l.length : Int)), (0, (l.length : Int)), q5], [], (K0, M')) ∧ Fr M M' ∧ lst (M' 115) l.length = l := by
  intro m
  induction m with
  | zero =>
    intro i M hm hi hs hk h1
    have e : i = l.length := by omega
    subst e
    exact ⟨M, rfl, Fr.rf _, lst_of fun j hj => h1 j hj hj⟩
  | succ m ih =>
    intro i M hm hi hs hk h1
    have c1 : ¬ (l.length : Int) ≤ i := by omega
    have hi' : i < l.length := by omega
    rw [e_X7_one_30, if_neg c1, if_pos (show og K0 7 107 30 = true from rfl), if_pos (show og K0 7 107 28 = true from rfl), Sk_m28 hs, Sk_m30 hs, if_pos (ag_wd (by omega) (by omega)), if_pos (ag_ot (by omega) (by omega)), hk.get hi', w_s i (by omega)]
    have fr : Fr M (d_up M 115 i l[i]) := WF.s115
    obtain ⟨M', g1, g2, g3⟩ := ih (i + 1) (d_up M 115 i l[i]) (by omega) (by omega) (fr.sk hs) (hk.up (d_up_n1 _ (by decide)) (fun j _ _ => d_up_n1 _ (by decide))) (fun j hj hji => by
      by_cases q : j = i
      · subst q; rw [d_up_at]
      · rw [d_up_n2 _ (by omega)]; exact h1 j hj (by omega))
    exact ⟨M', g1, fr.tr g2, g3⟩
theorem one_end {sc : dS} {d : Nat} {M : dM} {v1 v2 n y : Int} : vr sc d c_X7_one (85, [(2, 107), (0, v1), (0, v2), (0, n), (0, 1), (0, y)], [], (K0, M)) = some ([(0, 1)], (K0, M)) := by
  rw [e_X7_one_85]
  by_cases p : n ≤ y
  · rw [if_pos p, if_neg (by decide)]
  · rw [if_neg p, if_pos (by decide), if_neg (by decide)]
theorem one_loop {sc : dS} {d : Nat} {M : dM} (hs : Sk M) {v1 v2 : Int} {a b : List Int} (hl : a.length ≤ 12) (hab : b.length = a.length) (hka : KV 107 29 114 M a) (hkb : lst (M 115) b.length = b) : ∀ (m y : Nat), a.length - y = m → y ≤ a.length →
    vr sc (d + 1) c_X7_one (85, [(2, 107), (0, v1), (0, v2), (0, (a.length : Int)), (0, 0), (0, (y : Int))], [], (K0, M)) = some ([(0, if ((List.range' y m).any fun y => (List.range' 0 a.length).all (tB a b a.length y)) = true then 1 else 0)], (K0, M)) := by
  intro m
  induction m with
  | zero =>
    intro y hm hy
    have c1 : (a.length : Int) ≤ y := by omega
    rw [e_X7_one_85, if_pos c1, if_pos rfl]
    rfl
  | succ m ih =>
    intro y hm hy
    have c1 : ¬ (a.length : Int) ≤ y := by omega
    rw [e_X7_one_85, if_neg c1, if_neg (fun z => z rfl), if_pos (show rg K0 7 107 = true from rfl), mturned_ok hs hl hab hka hkb (by omega), Option.bind_some]
    show vr sc (d + 1) c_X7_one (102, [(2, 107), (0, v1), (0, v2), (0, (a.length : Int)), (0, 0), (0, (y : Int))], [(0, _)], (K0, M)) = _
    rw [e_X7_one_102, w_s y (by omega), List.range'_succ, List.any_cons]
    by_cases z : (List.range' 0 a.length).all (tB a b a.length y) = true
    · rw [if_pos z, z, Bool.true_or, if_pos rfl]
      exact one_end
    · rw [if_neg z, Bool.eq_false_iff.mpr z, Bool.false_or]
      exact ih (y + 1) (by omega) (by omega)
theorem one_r {sc : dS} {d : Nat} {M : dM} (hs : Sk M) {t : Tn} (ht : rT M t) (hok : okT t) (x y : Int) : ∃ M' : dM, vc sc (d + 5) 163 [(2, 107), (0, x), (0, y)] (K0, M) = some ([(0, oneF t x y)], (K0, M')) ∧ Fr M M' := by
  rw [vc_s (md := m_X7_one) (L := [(2, 107), (0, x), (0, y), (3, 0), (3, 0), (3, 0)]) rfl (Nat.le_of_ble_eq_true rfl) rfl]
  show ∃ M', vr sc (d + 4) c_X7_one (0, [(2, 107), (0, x), (0, y), (3, 0), (3, 0), (3, 0)], [], (K0, M)) = _ ∧ _
  rw [e_X7_one_0, isFoot7_ok, Option.bind_some]
  show ∃ M', vr sc (d + 4) c_X7_one (4, [(2, 107), (0, x), (0, y), (3, 0), (3, 0), (3, 0)], [(0, _)], (K0, M)) = _ ∧ _
  rw [e_X7_one_4]
  unfold oneF
  by_cases p : ¬ (0 ≤ x ∧ x < 6)
  · rw [bi_f p, if_pos rfl, if_neg p]
    exact ⟨M, rfl, Fr.rf _⟩
  have p := Classical.not_not.mp p
  rw [bi_t p, if_neg (by decide), if_pos p, isFoot7_ok, Option.bind_some]
  show ∃ M', vr sc (d + 4) c_X7_one (11, [(2, 107), (0, x), (0, y), (3, 0), (3, 0), (3, 0)], [(0, _)], (K0, M)) = _ ∧ _
  rw [e_X7_one_11]
  by_cases q : ¬ (0 ≤ y ∧ y < 6)
  · rw [bi_f q, if_neg (fun z => z rfl), if_neg q]
    exact ⟨M, rfl, Fr.rf _⟩
  have q := Classical.not_not.mp q
  obtain ⟨a, rfl⟩ : ∃ n : Nat, x = n := ⟨x.toNat, by omega⟩
  obtain ⟨b, rfl⟩ : ∃ n : Nat, y = n := ⟨y.toNat, by omega⟩
  have ha : a < 6 := by omega
  have hb : b < 6 := by omega
  obtain ⟨M1, a1, a2, a3⟩ := takesFoot_ok (sc := sc) (d := d + 3) hs ht hok hb
  have hs1 := a2.s107.sk hs
  obtain ⟨M2, b1, b2, b3⟩ := pulledSize_ok (sc := sc) (d := d) hs1 (hok.2.2 b hb).2.2.2.2.1 a3
  have f2 := a2.s107.tr b2.s107
  have hs2 := f2.sk hs
  obtain ⟨M3, c1, c2, c3⟩ := other_loop (sc := sc) (d := d + 4) (v1 := (a : Int)) (v2 := (b : Int)) (q5 := (3, 0)) (pr_len hok hb) (pul (redl (tKn t b))).length 0 M2 rfl (by omega) hs2 b3 (fun j hj hji => absurd hji (by omega))
  have f3 := f2.tr c2
  have hs3 := f3.sk hs
  obtain ⟨M4, e1, e2, e3⟩ := takesFoot_ok (sc := sc) (d := d + 3) hs3 (ht.fr f3) hok ha
  have hs4 := e2.s107.sk hs3
  obtain ⟨M5, g1, g2, g3⟩ := pulledSize_ok (sc := sc) (d := d) hs4 (hok.2.2 a ha).2.2.2.2.1 e3
  have hs5 := g2.s107.sk hs4
  have k5 : lst (M5 115) (pul (redl (tKn t b))).length = pul (redl (tKn t b)) := by
    rw [← c3]
    rw [lst_len]
    exact lst_cg fun j _ _ => ((e2.tr g2) 115 j (by omega) (by decide)).trans rfl
  have f5 := f3.tr (e2.s107.tr g2.s107)
  rw [bi_t q, if_pos (by decide), if_pos (show rg K0 7 107 = true from rfl), a1, Option.bind_some, if_pos q]
  show ∃ M', vr sc (d + 4) c_X7_one (22, [(2, 107), (0, (a : Int)), (0, (b : Int)), (3, 0), (3, 0), (3, 0)], [], (K0, M1)) = _ ∧ _
  rw [e_X7_one_22, if_pos (show rg K0 7 107 = true from rfl), b1, Option.bind_some]
  show ∃ M', vr sc (d + 4) c_X7_one (26, [(2, 107), (0, (a : Int)), (0, (b : Int)), (3, 0), (3, 0), (3, 0)], [(0, _)], (K0, M2)) = _ ∧ _
  rw [e_X7_one_26]
  show ∃ M', vr sc (d + 4) c_X7_one (30, [(2, 107), (0, (a : Int)), (0, (b : Int)), (0, ((pul (redl (tKn t b))).length : Int)), (0, ((0 : Nat) : Int)), (3, 0)], [], (K0, M2)) = _ ∧ _
  rw [c1, e_X7_one_30, if_pos (Int.le_refl _), if_pos (show rg K0 7 107 = true from rfl), e1, Option.bind_some]
  show ∃ M', vr sc (d + 4) c_X7_one (61, [(2, 107), (0, (a : Int)), (0, (b : Int)), (0, ((pul (redl (tKn t b))).length : Int)), (0, ((pul (redl (tKn t b))).length : Int)), (3, 0)], [], (K0, M4)) = _ ∧ _
  rw [e_X7_one_61, if_pos (show rg K0 7 107 = true from rfl), g1, Option.bind_some]
  show ∃ M', vr sc (d + 4) c_X7_one (65, [(2, 107), (0, (a : Int)), (0, (b : Int)), (0, ((pul (redl (tKn t b))).length : Int)), (0, ((pul (redl (tKn t b))).length : Int)), (3, 0)], [(0, _)], (K0, M5)) = _ ∧ _
  rw [e_X7_one_65]
  refine ⟨M5, ?_, f5⟩
  show _ = some ([(0, onef (pul (redl (tKn t a))) (pul (redl (tKn t b))))], (K0, M5))
  have la := pr_len hok ha
  generalize pul (redl (tKn t a)) = A at la g3 ⊢
  generalize pul (redl (tKn t b)) = B at k5 ⊢
  unfold onef
  by_cases n : A.length = B.length
  · rw [if_pos (by omega)]
    by_cases n0 : A.length = 0
    · rw [if_neg (show ¬ ¬ (B.length : Int) = 0 by omega), if_pos ⟨n, Or.inl n0⟩]
      exact one_end
    · have := one_loop (sc := sc) (d := d + 3) (v1 := (a : Int)) (v2 := (b : Int)) hs5 la n.symm g3 k5 A.length 0 rfl (by omega)
      rw [if_pos (show ¬ (B.length : Int) = 0 by omega), ← n]
      refine this.trans ?_
      rw [show ((List.range' 0 A.length).any fun y => (List.range' 0 A.length).all (tB A B A.length y)) = rotB A B A.length from rfl, ← rot_iff]
      by_cases r : rotA A B A.length = true
      · rw [if_pos r, if_pos ⟨rfl, Or.inr r⟩]
      · rw [if_neg r, if_neg (fun z => z.2.elim n0 r)]
  · rw [if_neg (by omega), if_neg (fun z => n z.1)]
