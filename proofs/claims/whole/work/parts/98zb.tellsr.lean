/-! tells, reference side: whole -/
theorem tells_r {sc : dS} {d : Nat} {M : dM} (hs : Sk M) {t : Tn} (ht : rT M t) (hok : okT t) {xs : List (List Int)} (hx : rXs M xs) (hxs : okXs xs) (hr : (tRule t).toNat < xs.length) {so : Nat → Int} {sl : Nat → List Int} (hos : okS so sl) (hc : ∀ n : Nat, n < 4 → rS M n (so n) (sl n)) (s x w : Int) : ∃ M' : dM, vc sc (d + 53) 188 [(2, 107), (0, s), (0, x), (0, w)] (K0, M) = some ([(0, tellF xs t so sl s x w)], (K0, M')) ∧ FV M M' ∧ rT M' t := by
  rw [vc_s (md := m_X7_tells) (L := [(2, 107), (0, s), (0, x), (0, w), (3, 0), (3, 0), (3, 0), (3, 0), (3, 0), (3, 0), (3, 0), (3, 0)]) rfl (Nat.le_of_ble_eq_true rfl) rfl]
  show ∃ M', vr sc (d + 52) c_X7_tells (0, [(2, 107), (0, s), (0, x), (0, w), (3, 0), (3, 0), (3, 0), (3, 0), (3, 0), (3, 0), (3, 0), (3, 0)], [], (K0, M)) = _ ∧ _
  rw [e_X7_tells_0, isSheet7_ok, Option.bind_some]
  show ∃ M', vr sc (d + 52) c_X7_tells (4, [(2, 107), (0, s), (0, x), (0, w), (3, 0), (3, 0), (3, 0), (3, 0), (3, 0), (3, 0), (3, 0), (3, 0)], [(0, _)], (K0, M)) = _ ∧ _
  rw [e_X7_tells_4]
  unfold tellF
  by_cases p : ¬ (0 ≤ s ∧ s < 4)
  · rw [bi_f p, if_pos rfl, if_neg p]
    exact ⟨M, rfl, FV.rf _, ht⟩
  have p := Classical.not_not.mp p
  rw [bi_t p, if_neg (by decide), if_pos p, if_pos (show rg K0 7 107 = true from rfl), isLad_ok (d := d + 50) hok.1.2.2.2.2.2 ht.1.2.2.2, Option.bind_some]
  show ∃ M', vr sc (d + 52) c_X7_tells (12, [(2, 107), (0, s), (0, x), (0, w), (3, 0), (3, 0), (3, 0), (3, 0), (3, 0), (3, 0), (3, 0), (3, 0)], [(0, _)], (K0, M)) = _ ∧ _
  rw [e_X7_tells_12]
  by_cases q : ¬ (0 ≤ x ∧ x < (tMany t : Int))
  · rw [bi_f q, if_pos rfl, if_neg q]
    exact ⟨M, rfl, FV.rf _, ht⟩
  have q := Classical.not_not.mp q
  rw [bi_t q, if_neg (by decide), if_pos q, in_ok, Option.bind_some]
  show ∃ M', vr sc (d + 52) c_X7_tells (24, [(2, 107), (0, s), (0, x), (0, w), (3, 0), (3, 0), (3, 0), (3, 0), (3, 0), (3, 0), (3, 0), (3, 0)], [(0, _)], (K0, M)) = _ ∧ _
  rw [e_X7_tells_24]
  by_cases r : ¬ (0 ≤ w ∧ w ≤ 8)
  · rw [bi_f r, if_neg (fun z => z rfl), if_neg r]
    exact ⟨M, rfl, FV.rf _, ht⟩
  have r := Classical.not_not.mp r
  obtain ⟨n, rfl⟩ : ∃ j : Nat, s = j := ⟨s.toNat, by omega⟩
  obtain ⟨l, rfl⟩ : ∃ j : Nat, x = j := ⟨x.toNat, by omega⟩
  have hn : n < 4 := by omega
  have hl : l < tMany t := by omega
  have cn := hc n hn
  have on := hos n hn
  have sm := Sk_m42 hs
  rw [bi_t r, if_pos (by decide), if_pos r, Int.toNat_natCast, Int.toNat_natCast, if_pos (show og K0 7 107 42 = true from rfl), sm.1, if_pos (ag_121 (by omega) (by omega)), cn.1]
  by_cases o1 : so n = -1
  · rw [bi_f (by omega), if_neg (fun z => z rfl), if_pos o1]
    exact ⟨M, rfl, FV.rf _, ht⟩
  have ho : 0 ≤ so n := by omega
  have rn := cn.2 ho
  rw [bi_t ho, if_pos (by decide), if_neg o1, if_pos (show og K0 7 107 44 = true from rfl), sm.2.2.1, if_pos (ag_123 (by omega) (by omega)), rn.2.1]
  by_cases z : ¬ (sl n).length ≤ 13
  · rw [if_neg (by omega), if_neg z]
    exact ⟨M, rfl, FV.rf _, ht⟩
  have z := Classical.not_not.mp z
  rw [if_pos (by omega), if_pos z]
  by_cases w0 : w = 0
  · subst w0
    obtain ⟨M1, a1, a2⟩ := firstOther_ok (sc := sc) (d := d + 3) hok hxs hr hn ho z hl hs ht hx cn
    rw [if_pos rfl, if_neg (fun y => y rfl), if_pos (show rg K0 7 107 = true from rfl), a1, Option.bind_some]
    show ∃ M', vr sc (d + 52) c_X7_tells (76, [(2, 107), (0, (n : Int)), (0, (l : Int)), (0, 0), (3, 0), (3, 0), (3, 0), (3, 0), (3, 0), (3, 0), (3, 0), (3, 0)], [(0, _)], (K0, M1)) = _ ∧ _
    rw [e_X7_tells_76, e_X7_tells_84]
    exact ⟨M1, rfl, a2.fv, ht.ru a2⟩
  rw [if_neg w0]
  by_cases w8 : w = 8
  · subst w8
    obtain ⟨M1, a1, a2⟩ := likeSet_ok (sc := sc) (d := d + 2) hok hxs hr hn ho z hs ht hx cn
    rw [if_neg (fun y => y rfl), if_pos (by decide), if_pos (show rg K0 7 107 = true from rfl), a1, Option.bind_some]
    show ∃ M', vr sc (d + 52) c_X7_tells (84, [(2, 107), (0, (n : Int)), (0, (l : Int)), (0, 8), (3, 0), (3, 0), (3, 0), (3, 0), (3, 0), (3, 0), (3, 0), (3, 0)], [(0, _)], (K0, M1)) = _ ∧ _
    rw [e_X7_tells_84]
    exact ⟨M1, rfl, a2.fv, ht.ru a2⟩
  rw [if_pos w8]
  have step : ∀ (ws of : Int), ofOk l ws of → (w = 1 ∧ ws = 5 ∨ w = 2 ∧ ws = 2 ∨ w = 3 ∧ ws = 3 ∨ w = 4 ∧ ws = 3 ∨ w = 5 ∧ ws = 4 ∨ w = 6 ∧ ws = 4 ∨ w = 7 ∧ ws = 6) → (tellC xs t l (sl n) w = if w = 3 ∨ w = 5 then ((cnt (fv xs t ws of l (sl n)) (bndN xs ws) : Nat) : Int) else if w = 4 ∨ w = 6 then lea (fv xs t ws of l (sl n)) (bndN xs ws) else dnS (fv xs t ws of l (sl n)) (bndN xs ws) 0) → ∃ M', vr sc (d + 52) c_X7_tells (124, [(2, 107), (0, (n : Int)), (0, (l : Int)), (0, w), (3, 0), (3, 0), (3, 0), (3, 0), (3, 0), (3, 0), (3, 0), (3, 0)], [(0, ws)], (K0, M)) = some ([(0, tellC xs t l (sl n) w)], (K0, M')) ∧ FV M M' ∧ rT M' t := by
    intro ws of hw _ he
    obtain ⟨M1, b, e, a1, a2, a3⟩ := tl_124 (sc := sc) (d := d) hok hxs hr hn ho z hl hw (wh := w) (q4 := (3, 0)) (q5 := (3, 0)) (q6 := (3, 0)) (q7 := (3, 0)) (q8 := (3, 0)) (q9 := (3, 0)) (q10 := (3, 0)) (q11 := (3, 0)) hs ht hx cn
    rw [a1, e_X7_tells_285, he]
    refine ⟨M1, ?_, a2, a3⟩
    by_cases k3 : w = 3
    · rw [if_pos k3, if_pos (Or.inl k3)]
    rw [if_neg k3]
    by_cases k5 : w = 5
    · rw [if_neg (fun y => y k5), if_pos (Or.inr k5)]
    rw [if_pos k5, if_neg (show ¬ (w = 3 ∨ w = 5) from fun y => y.elim k3 k5)]
    by_cases k4 : w = 4
    · rw [if_pos k4, if_pos (Or.inl k4)]
    rw [if_neg k4]
    by_cases k6 : w = 6
    · rw [if_neg (fun y => y k6), if_pos (Or.inr k6)]
    · rw [if_pos k6, if_neg (show ¬ (w = 4 ∨ w = 6) from fun y => y.elim k4 k6)]
  have hx6 := hxs.1
  by_cases w1 : w = 1
  · subst w1
    rw [if_neg (fun y => y rfl)]
    exact step 5 (l : Int) (Or.inl ⟨Or.inl rfl, rfl⟩) (Or.inl ⟨rfl, rfl⟩) (dnS_0 _ (by decide)).symm
  rw [if_pos w1]
  by_cases w2 : w = 2
  · subst w2
    rw [if_neg (fun y => y rfl)]
    exact step 2 (l : Int) (Or.inl ⟨Or.inr (Or.inl rfl), rfl⟩) (Or.inr (Or.inl ⟨rfl, rfl⟩)) (dnS_0 _ (by decide)).symm
  rw [if_pos w2]
  by_cases w3 : w = 3
  · subst w3
    rw [if_neg (by decide)]
    exact step 3 (l : Int) (Or.inl ⟨Or.inr (Or.inr (Or.inl rfl)), rfl⟩) (Or.inr (Or.inr (Or.inl ⟨rfl, rfl⟩))) (by rw [if_pos (by decide), show bndN xs 3 = 100 from rfl]; unfold tellC; rw [if_neg (by decide), if_neg (by decide), if_neg (by decide), if_pos (by decide)])
  by_cases w4 : w = 4
  · subst w4
    rw [if_neg (by decide)]
    exact step 3 (l : Int) (Or.inl ⟨Or.inr (Or.inr (Or.inl rfl)), rfl⟩) (Or.inr (Or.inr (Or.inr (Or.inl ⟨rfl, rfl⟩)))) (by rw [if_neg (by decide), if_pos (by decide), show bndN xs 3 = 100 from rfl]; unfold tellC; rw [if_neg (by decide), if_neg (by decide), if_neg (by decide), if_neg (by decide), if_pos (by decide)])
  rw [if_pos (by omega)]
  by_cases w5 : w = 5
  · subst w5
    rw [if_neg (by decide)]
    exact step 4 0 (Or.inr ⟨rfl, rfl⟩) (Or.inr (Or.inr (Or.inr (Or.inr (Or.inl ⟨rfl, rfl⟩))))) (by rw [if_pos (by decide), show bndN xs 4 = 100 from rfl]; unfold tellC; rw [if_neg (by decide), if_neg (by decide), if_neg (by decide), if_neg (by decide), if_neg (by decide), if_pos (by decide)])
  by_cases w6 : w = 6
  · subst w6
    rw [if_neg (by decide)]
    exact step 4 0 (Or.inr ⟨rfl, rfl⟩) (Or.inr (Or.inr (Or.inr (Or.inr (Or.inr (Or.inl ⟨rfl, rfl⟩)))))) (by rw [if_neg (by decide), if_pos (by decide), show bndN xs 4 = 100 from rfl]; unfold tellC; rw [if_neg (by decide), if_neg (by decide), if_neg (by decide), if_neg (by decide), if_neg (by decide), if_neg (by decide), if_pos (by decide)])
  · have w7 : w = 7 := by omega
    subst w7
    rw [if_pos (by decide)]
    exact step 6 (l : Int) (Or.inl ⟨Or.inr (Or.inr (Or.inr rfl)), rfl⟩) (Or.inr (Or.inr (Or.inr (Or.inr (Or.inr (Or.inr ⟨rfl, rfl⟩)))))) (dnS_0 _ (Nat.le_trans hx6 (by decide))).symm
