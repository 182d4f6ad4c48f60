/-! the reference reads and reckons: not, and what stands alone -/
theorem jn2 {k : Int} : jn 2 k = true ↔ k = 60 ∨ k = 61 := decide_eq_true_iff
theorem not_r {sc : dS} {d : Nat} {ns : Nat → Int} {t : Nat} {b : List Int} (ht : t < 6) (hb : okB b) {F G : Ps → Ps} {op n : Nat} (hop : op ≤ 5) (hn1 : 1 ≤ n) (hsub : SimR sc (d + 4) ns t b 137 op n F) (hden : op < 5 → SimR sc (d + 4) ns t b 138 (op + 1) n G) : SimR sc (d + 5) ns t b 138 op (n + 1) (fun x => if pK x = 15 then (if op < 5 then emt 15 0 (G (stp b x)) else fai x) else lp b F 2 1 (F x)) := by
  have rg1 : rg K0 7 107 = true := rfl
  intro M x h g iv
  dsimp only
  have wq : vc sc (d + 4) 131 [(2, 107), (0, 110), (0, 111), (0, 116), (0, 0), (0, 0), (0, 0), (0, 0), (0, 0)] (K0, M) = some ([(0, bi (pF x = -1 ∧ wcb 11 (pK x) (pV x) = true))], (K0, M)) := word_r (sc := sc) (d := d + 1) ht hb h (q := 11) (by decide)
  rw [vc_s (md := m_X7_not) (L := [(2, 107), (3, 0), (3, 0), (3, 0)]) rfl (Nat.le_of_ble_eq_true rfl) rfl]
  show ∃ M' v, vr sc (d + 4) c_X7_not (0, [(2, 107), (3, 0), (3, 0), (3, 0)], [], (K0, M)) = _ ∧ _
  rw [e_X7_not_0, if_pos rg1, wq, Option.bind_some]
  show ∃ M' v, vr sc (d + 4) c_X7_not (15, [(2, 107), (3, 0), (3, 0), (3, 0)], [(0, bi (pF x = -1 ∧ wcb 11 (pK x) (pV x) = true))], (K0, M)) = _ ∧ _
  rw [e_X7_not_15]
  have hbl := hb.1
  by_cases k15 : pK x = 15
  · have hx : nxt (pK x) := by rw [k15]; exact ⟨by decide, by decide⟩
    obtain ⟨M1, a1, a2, a3, a4⟩ := opens_r (sc := sc) (d := d + 1) ht hb hop h g hx
    rw [bi_t ⟨g, decide_eq_true k15⟩, if_neg (by decide), if_pos rg1, a1, Option.bind_some, if_pos k15]
    show ∃ M' v, vr sc (d + 4) c_X7_not (22, [(2, 107), (3, 0), (3, 0), (3, 0)], [(0, if op < 5 then 1 else 0)], (K0, M1)) = _ ∧ _
    rw [e_X7_not_22]
    by_cases q : op < 5
    · rw [if_pos q, if_pos (by decide), if_pos rg1, if_pos q]
      have iv' := Iv_stp iv hx.1
      obtain ⟨M2, v, b1, b2, b3, b4⟩ := hden q M1 (stp b x) (a3 q) g iv'.1
      rw [b1, Option.bind_some]
      show ∃ M' v', vr sc (d + 4) c_X7_not (31, [(2, 107), (3, 0), (3, 0), (3, 0)], [(0, v)], (K0, M2)) = _ ∧ _
      have e25 := b2.2.2.1
      have rn : RN M2 (d_up M2 107 25 (op : Int)) := RN.up (by decide) _
      have hfin : RQ ns t b (d_up M2 107 25 (op : Int)) (emt 15 0 (G (stp b x))) op := by
        refine ⟨b2.1.rn rn, fun i hi => (rn 107 _ (fun _ => by omega)).trans (b2.2.1 i hi), d_up_at _ _ _ _, b2.2.2.2.1, ?_⟩
        have e : ∀ j : Int, j ≠ 25 → (d_up M2 107 25 (op : Int)) 107 j = M2 107 j := fun j z => d_up_n2 _ z
        unfold rK
        rw [e 23 (by decide), e 22 (by decide), e 21 (by decide), e 24 (by decide), e 26 (by decide), e 27 (by decide)]
        exact b2.2.2.2.2
      have hout : Out ns b (n + 1) x (emt 15 0 (G (stp b x))) (bi (v = 0)) := by
        refine ⟨fun z => ?_, fun z => b4.2 z⟩
        obtain ⟨iy, ly, c, ec, lc, hc⟩ := b4.1 z
        have hy := iy.1
        have hy2 := iy.2.1
        have hy3 := iy.2.2.1
        have eC : pC (stp b x) = pC x := rfl
        rw [eC] at ec
        have hx0 := iv.1
        have hlen : (pC (G (stp b x))).length + 1 ≤ pS (G (stp b x)) := by
          rw [ec, List.length_append]
          omega
        have e2 := emt_C (k := 15) (v := 0) (x := G (stp b x)) (by omega)
        have hsz : pS (emt 15 0 (G (stp b x))) = pS (G (stp b x)) := rfl
        refine ⟨⟨by rw [e2, List.length_append]; exact hlen, iy.2.1, iy.2.2.1, iy.2.2.2⟩, by rw [hsz]; omega, c ++ [(15, 0)], by rw [e2, ec]; simp, by rw [List.length_append, hsz]; simp; omega, fun st hst => ?_⟩
        rw [ev_app, hc st (by omega)]
        rfl
      rw [e_X7_not_31, if_pos (show og K0 7 107 25 = true from rfl), if_pos (show og K0 7 107 25 = true from rfl), e25, w_p op (by omega), if_pos ⟨by omega, by omega⟩]
      by_cases v0 : v = 0
      · rw [if_neg (fun z => z v0)]
        rw [bi_t v0] at hout
        exact ⟨_, 1, rfl, hfin, (a2.tr b3).tr rn, hout⟩
      · rw [if_pos v0]
        rw [bi_f v0] at hout
        exact ⟨_, 0, rfl, hfin, (a2.tr b3).tr rn, hout⟩
    · have e : pF (fai x) = (pS x : Int) := if_pos g
      rw [if_neg q, if_neg (fun z => z rfl), if_neg q]
      exact ⟨M1, 0, rfl, a4 q, a2, fun z => by omega, fun _ => rfl⟩
  have hw : ¬ (pF x = -1 ∧ wcb 11 (pK x) (pV x) = true) := fun z => k15 (by
    have := wcb_iff.mp z.2
    unfold wcd at this
    rw [if_neg (by decide)] at this
    omega)
  obtain ⟨M1, v, a1, a2, a3, a4⟩ := hsub M x h g iv
  rw [bi_f hw, if_pos rfl, if_pos rg1, a1, Option.bind_some, if_neg k15]
  show ∃ M' v', vr sc (d + 4) c_X7_not (56, [(2, 107), (3, 0), (3, 0), (3, 0)], [(0, v)], (K0, M1)) = _ ∧ _
  rw [e_X7_not_56, if_pos rg1, sign_r (d := d + 3) a2 (by decide), Option.bind_some]
  show ∃ M' v', vr sc (d + 4) c_X7_not (63, [(2, 107), (0, v), (3, 0), (3, 0)], [(0, bi (pF (F x) = -1 ∧ pK (F x) = 60))], (K0, M1)) = _ ∧ _
  rw [e_X7_not_63]
  have elp : lp b F 2 1 (F x) = if jn 2 (pK (F x)) = true then emt (pK (F x)) 0 (F (stp b (F x))) else F x := rfl
  rw [elp]
  by_cases gy : ¬ pF (F x) = -1
  · have k1 := a4.2 gy
    rw [bi_f (fun z => gy z.1), if_neg (fun z => z rfl), if_pos rg1, sign_r (d := d + 3) a2 (by decide), Option.bind_some]
    show ∃ M' v', vr sc (d + 4) c_X7_not (72, [(2, 107), (0, v), (3, 0), (3, 0)], [(0, bi (pF (F x) = -1 ∧ pK (F x) = 61))], (K0, M1)) = _ ∧ _
    rw [e_X7_not_72, bi_f (fun z => gy z.1), if_neg (fun z => z rfl), k1, if_neg (jn_1 2)]
    exact ⟨M1, v, rfl, a2, a3, fun z => absurd z gy, fun _ => k1⟩
  have gy := Classical.not_not.mp gy
  obtain ⟨iy, ly, c, ec, lc, hc⟩ := a4.1 gy
  by_cases j : jn 2 (pK (F x)) = true
  · have jk := jn_k j
    have j2 := jn2.mp j
    have hw2 := rK_worth (a2.good gy).2 (by omega)
    have iv' := Iv_stp iy jk.1.1
    obtain ⟨M2, b1, b2, b3⟩ := next_q (sc := sc) (d := d + 2) ht hb a2 gy jk.1
    obtain ⟨M3, w, c1, c2, c3, c4⟩ := hsub M2 (stp b (F x)) b2 gy iv'.1
    rw [if_pos j]
    have hout : Out ns b (n + 1) x (emt (pK (F x)) 0 (F (stp b (F x)))) (njoin (pK (F x)) v w) := by
      refine ⟨fun z => ?_, fun z => c4.2 z⟩
      obtain ⟨iz, lz, e, ee, le, he⟩ := c4.1 z
      have hy := iz.1
      have hy2 := iz.2.1
      have hy3 := iz.2.2.1
      have eC : pC (stp b (F x)) = pC (F x) := rfl
      rw [eC] at ee
      have hx0 := iy.1
      have hlen : (pC (F (stp b (F x)))).length + 1 ≤ pS (F (stp b (F x))) := by
        rw [ee, List.length_append]
        omega
      have e2 := emt_C (k := pK (F x)) (v := 0) (x := F (stp b (F x))) (by omega)
      have hsz : pS (emt (pK (F x)) 0 (F (stp b (F x)))) = pS (F (stp b (F x))) := rfl
      refine ⟨⟨by rw [e2, List.length_append]; exact hlen, iz.2.1, iz.2.2.1, iz.2.2.2⟩, by rw [hsz]; omega, c ++ (e ++ [(pK (F x), 0)]), by rw [e2, ee, ec]; simp, ?_, fun st hst => ?_⟩
      · rw [List.length_append, List.length_append, hsz]
        simp
        omega
      · rw [ev_app, ev_app, hc st (by omega), he (v :: st) (by rw [List.length_cons]; omega), evs_j jk.2.1 jk.2.2.1 jk.2.2.2.1 jk.2.2.2.2]
    by_cases k60 : pK (F x) = 60
    · rw [bi_t ⟨gy, k60⟩, if_pos (by decide), if_pos (show og K0 7 107 24 = true from rfl), hw2, k60, if_neg (fun z => z ((i_cmp_0 _ _).mpr rfl)), if_pos rg1, b1, Option.bind_some]
      show ∃ M' v', vr sc (d + 4) c_X7_not (98, [(2, 107), (0, v), (0, 1), (3, 0)], [], (K0, M2)) = _ ∧ _
      rw [e_X7_not_98, if_pos rg1, c1, Option.bind_some]
      show ∃ M' v', vr sc (d + 4) c_X7_not (102, [(2, 107), (0, v), (0, 1), (3, 0)], [(0, w)], (K0, M3)) = _ ∧ _
      rw [k60, show njoin 60 v w = bi (v < w) from rfl] at hout
      rw [e_X7_not_102, if_neg (by decide)]
      by_cases lt : w ≤ v
      · rw [if_pos lt]
        rw [bi_f (by omega)] at hout
        exact ⟨M3, 0, rfl, c2, (a3.tr b3).tr c3, hout⟩
      · rw [if_neg lt]
        rw [bi_t (by omega)] at hout
        exact ⟨M3, 1, rfl, c2, (a3.tr b3).tr c3, hout⟩
    · have k61 : pK (F x) = 61 := j2.elim (fun z => absurd z k60) id
      rw [bi_f (fun z => k60 z.2), if_neg (fun z => z rfl), if_pos rg1, sign_r (d := d + 3) a2 (by decide), Option.bind_some]
      show ∃ M' v', vr sc (d + 4) c_X7_not (72, [(2, 107), (0, v), (3, 0), (3, 0)], [(0, bi (pF (F x) = -1 ∧ pK (F x) = 61))], (K0, M1)) = _ ∧ _
      rw [e_X7_not_72, bi_t ⟨gy, k61⟩, if_pos (by decide), if_pos (show og K0 7 107 24 = true from rfl), hw2, k61, if_pos (fun z => absurd ((i_cmp_0 _ _).mp z) (by decide)), if_pos rg1, b1, Option.bind_some]
      show ∃ M' v', vr sc (d + 4) c_X7_not (98, [(2, 107), (0, v), (0, 0), (3, 0)], [], (K0, M2)) = _ ∧ _
      rw [e_X7_not_98, if_pos rg1, c1, Option.bind_some]
      show ∃ M' v', vr sc (d + 4) c_X7_not (102, [(2, 107), (0, v), (0, 0), (3, 0)], [(0, w)], (K0, M3)) = _ ∧ _
      rw [k61, show njoin 61 v w = bi (v = w) from rfl] at hout
      rw [e_X7_not_102, if_pos rfl]
      by_cases lt : v = w
      · rw [if_neg (fun z => z lt)]
        rw [bi_t lt] at hout
        exact ⟨M3, 1, rfl, c2, (a3.tr b3).tr c3, hout⟩
      · rw [if_pos lt]
        rw [bi_f lt] at hout
        exact ⟨M3, 0, rfl, c2, (a3.tr b3).tr c3, hout⟩
  · have hj : ∀ z : Int, (z = 60 ∨ z = 61) → ¬ (pF (F x) = -1 ∧ pK (F x) = z) := fun z hz y => j (jn2.mpr (by rw [y.2]; exact hz))
    rw [bi_f (hj 60 (Or.inl rfl)), if_neg (fun z => z rfl), if_pos rg1, sign_r (d := d + 3) a2 (by decide), Option.bind_some]
    show ∃ M' v', vr sc (d + 4) c_X7_not (72, [(2, 107), (0, v), (3, 0), (3, 0)], [(0, bi (pF (F x) = -1 ∧ pK (F x) = 61))], (K0, M1)) = _ ∧ _
    rw [e_X7_not_72, bi_f (hj 61 (Or.inr rfl)), if_neg (fun z => z rfl), if_neg j]
    exact ⟨M1, v, rfl, a2, a3, fun _ => ⟨iy, ly, c, ec, lc, fun st hst => hc st (by omega)⟩, fun z => absurd gy z⟩
