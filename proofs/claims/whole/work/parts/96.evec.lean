/-! evenings, class side: what is learnt, and the end of a day -/
theorem lesson_ok {sc : dS} {d : Nat} {M : dM} (hs : Sk M) {T : Int} (hT : isT T) {t : Tn} (ht : cT M T t) (hok : okT t) {xs : List (List Int)} (hx : cXs M xs) (hxs : okXs xs) (hr : (tRule t).toNat < xs.length) {f : Nat} (hf : f < 6) (hb : 0 ≤ tBy t f) (p : Bool) : ∃ M' : dM, vc sc (d + 6) 41 [(2, 58), (2, T), (0, (f : Int)), (0, if p = true then 1 else 0)] (K0, M) = some ([(0, lesF xs t f p)], (K0, M')) ∧ FS M M' := by
  have o3 := hok.2.2 f hf
  have kt := ht.2.2 f hf
  obtain ⟨l, hl⟩ : ∃ n : Nat, tBy t f = n := ⟨(tBy t f).toNat, by omega⟩
  have hlm : l < tMany t := by omega
  have o1 := hok.1
  have hl5 : l < 5 := by omega
  have o2 := hok.2.1 l hl5
  have kn := isT_kn hT hf
  have hn12 := pr_len hok hf
  obtain ⟨M1, a1, a2⟩ := turns_ok (sc := sc) (d := d + 1) kn hs o3.2.2.2.2.1 kt.2.2
  have ht1 := ht.fs hT a2.fs
  have hs1 := a2.fs.sk hs
  have hx1 := hx.fs hxs.1 a2.fs
  rw [vc_s (md := m_X2_lesson) (L := [(2, 58), (2, T), (0, (f : Int)), (0, if p = true then 1 else 0), (3, 0), (3, 0), (3, 0)]) rfl (Nat.le_of_ble_eq_true rfl) rfl]
  show ∃ M', vr sc (d + 5) c_X2_lesson (0, [(2, 58), (2, T), (0, (f : Int)), (0, if p = true then 1 else 0), (3, 0), (3, 0), (3, 0)], [], (K0, M)) = _ ∧ _
  rw [e_X2_lesson_0, if_pos (og_tn hT (by decide)), (Sk_T hs hT).2.2.2.2.1, if_pos (ag_t5 hT (by omega) (by omega)), if_pos (og_tn hT (by decide)), (Sk_T hs hT).2.2.2.2.2, if_pos (ag_t6 hT (by omega) (by omega)), if_pos (show rg K0 2 58 = true from rfl), Sk_Tk hs hT hf, a1, Option.bind_some, kt.2.1, hl]
  show ∃ M', vr sc (d + 5) c_X2_lesson (23, [(2, 58), (2, T), (0, (f : Int)), (0, if p = true then 1 else 0), (0, (l : Int)), (3, 0), (3, 0)], [(0, ((tno t f : Nat) : Int)), (0, (l : Int)), (0, 1), (2, T), (2, 58)], (K0, M1)) = _ ∧ _
  rw [e_X2_lesson_23, if_pos (og_tn hT (by decide)), (Sk_T hs1 hT).2.2.2.1, if_pos (ag_t4 hT (by omega) (by omega)), if_pos (show rg K0 2 58 = true from rfl), (ht1.2.2 f hf).1]
  obtain ⟨M2, b1, b2⟩ := say_ok (sc := sc) (d := d) hs1 hT ht1 hok hx1 hxs hr (w := 1) (by decide) hlm ((tno t f : Nat) : Int) (tWlk t f)
  have ht2 := ht1.fs hT b2
  have hs2 := b2.sk hs1
  rw [show vc sc (d + 5) 34 [(2, 58), (2, T), (0, 1), (0, (l : Int)), (0, ((tno t f : Nat) : Int)), (0, tWlk t f)] (K0, M1) = _ from b1, Option.bind_some]
  have hv := say_r (xs := xs) (t := t) (w := 1) (l := l) (a := ((tno t f : Nat) : Int)) (b := tWlk t f)
  unfold lesF
  rw [hl, Int.toNat_natCast]
  dsimp only
  generalize sayF xs t 1 l ((tno t f : Nat) : Int) (tWlk t f) = v at *
  show ∃ M', vr sc (d + 5) c_X2_lesson (32, [(2, 58), (2, T), (0, (f : Int)), (0, if p = true then 1 else 0), (0, (l : Int)), (3, 0), (3, 0)], [(0, v)], (K0, M2)) = _ ∧ _
  have e32 : vr sc (d + 5) c_X2_lesson (32, [(2, 58), (2, T), (0, (f : Int)), (0, if p = true then 1 else 0), (0, (l : Int)), (3, 0), (3, 0)], [(0, v)], (K0, M2)) = vr sc (d + 5) c_X2_lesson (44, [(2, 58), (2, T), (0, (f : Int)), (0, if p = true then 1 else 0), (0, (l : Int)), (0, v), (3, 0)], [(0, if p = true then v else 0)], (K0, M2)) := by
    rw [e_X2_lesson_32]
    cases p
    · rw [if_pos (by decide)]
      rfl
    · rw [if_neg (by decide), if_pos (show true = true from rfl), if_pos (show true = true from rfl)]
  rw [e32, e_X2_lesson_44, if_pos (og_tn hT (by decide)), (Sk_T hs2 hT).1, if_pos (ag_t1 hT (by omega) (by omega)), (ht2.2.1 l hl5).1]
  have hvp : -99 ≤ (if p = true then v else 0) ∧ (if p = true then v else 0) ≤ 99 := by split <;> omega
  have ew : w32 ((if p = true then v else 0) + 1) = (if p = true then v else 0) + 1 := w32_i (by omega) (by omega)
  have en2 : w32 (-tNum t l) = -tNum t l := w32_i (by omega) (by omega)
  rw [ew]
  clear ew
  by_cases k2 : tKind t l = 2
  · rw [if_pos k2, if_neg (show ¬ tKind t l = 5 by rw [k2]; decide), if_neg (fun z => absurd (k2.symm.trans z.1) (by decide)), if_pos k2]
    exact ⟨M2, rfl, a2.fs.tr b2⟩
  rw [if_neg k2]
  by_cases k3 : tKind t l = 3
  · rw [if_pos k3, if_neg (show ¬ tKind t l = 5 by rw [k3]; decide), if_neg (show ¬ (tKind t l = 4 ∧ p = false) from fun z => absurd (k3.symm.trans z.1) (by decide)), if_neg k2, if_pos k3]
    exact ⟨M2, rfl, a2.fs.tr b2⟩
  rw [if_neg k3]
  by_cases k4 : tKind t l = 4
  · rw [if_pos k4, if_neg (show ¬ tKind t l = 5 by rw [k4]; decide)]
    cases p
    · rw [if_pos (by decide), if_pos (og_tn hT (by decide)), (Sk_T hs2 hT).2.1, if_pos (ag_t2 hT (by clear en2; omega) (by clear en2; omega)), (ht2.2.1 l hl5).2.1, en2, if_pos ⟨k4, rfl⟩]
      exact ⟨M2, rfl, a2.fs.tr b2⟩
    · rw [if_neg (by decide), if_neg (fun z => absurd z.2 (by decide)), if_neg k2, if_neg k3, if_pos rfl]
      exact ⟨M2, rfl, a2.fs.tr b2⟩
  rw [if_neg k4]
  by_cases k5 : tKind t l = 5
  · rw [if_pos k5, if_pos k5]
    exact ⟨M2, rfl, a2.fs.tr b2⟩
  · rw [if_neg k5, if_neg k5, if_neg (show ¬ (tKind t l = 4 ∧ p = false) from fun z => k4 z.1), if_neg k2, if_neg k3]
    exact ⟨M2, rfl, a2.fs.tr b2⟩
theorem lesF_r {xs : List (List Int)} {t : Tn} (hok : okT t) {f : Nat} (hf : f < 6) (hb : 0 ≤ tBy t f) {p : Bool} : -99 ≤ lesF xs t f p ∧ lesF xs t f p ≤ 100 := by
  have o1 := hok.1
  have o3 := hok.2.2 f hf
  have o2 := hok.2.1 (tBy t f).toNat (by omega)
  have hv := say_r (xs := xs) (t := t) (w := 1) (l := (tBy t f).toNat) (a := ((tno t f : Nat) : Int)) (b := tWlk t f)
  unfold lesF
  dsimp only
  generalize sayF xs t 1 (tBy t f).toNat ((tno t f : Nat) : Int) (tWlk t f) = v at *
  have hvp : -99 ≤ (if p = true then v else 0) ∧ (if p = true then v else 0) ≤ 99 := by split <;> omega
  split
  · omega
  · split
    · omega
    · split
      · omega
      · split <;> omega
theorem endDay_ok {sc : dS} {d : Nat} {M : dM} (hs : Sk M) {T : Int} (hT : isT T) {t : Tn} (ht : cT M T t) (hok : okT t) {xs : List (List Int)} (hx : cXs M xs) (hxs : okXs xs) (hr : (tRule t).toNat < xs.length) {f : Nat} (hf : f < 6) (hb : 0 ≤ tBy t f) (p : Nat → Bool) : ∃ M' : dM, vc sc (d + 7) 43 [(2, 58), (2, T), (0, (f : Int)), (0, if p f = true then 1 else 0)] (K0, M) = some ([], (K0, M')) ∧ FT T M M' ∧ cT M' T (edF xs p t f) := by
  have o3 := hok.2.2 f hf
  have kt := ht.2.2 f hf
  obtain ⟨l, hl⟩ : ∃ n : Nat, tBy t f = n := ⟨(tBy t f).toNat, by omega⟩
  have o1 := hok.1
  have hl5 : l < 5 := by omega
  have o2 := hok.2.1 l hl5
  have bT := isT_c hT
  obtain ⟨M1, a1, a2⟩ := lesson_ok (sc := sc) (d := d) hs hT ht hok hx hxs hr hf hb (p f)
  have hs1 := a2.sk hs
  have ht1 := ht.fs hT a2
  have hlr := lesF_r (xs := xs) hok hf hb (p := p f)
  have ew : w32 (tSkl t l + lesF xs t f (p f)) = tSkl t l + lesF xs t f (p f) := w32_i (by omega) (by omega)
  rw [vc_s (md := m_X2_endDay) (L := [(2, 58), (2, T), (0, (f : Int)), (0, if p f = true then 1 else 0), (3, 0)]) rfl (Nat.le_of_ble_eq_true rfl) rfl]
  show ∃ M', vr sc (d + 6) c_X2_endDay (0, [(2, 58), (2, T), (0, (f : Int)), (0, if p f = true then 1 else 0), (3, 0)], [], (K0, M)) = _ ∧ _
  rw [e_X2_endDay_0, if_pos (og_tn hT (by decide)), (Sk_T hs hT).2.2.2.2.1, if_pos (ag_t5 hT (by clear ew; omega) (by clear ew; omega)), if_pos (og_tn hT (by decide)), if_pos (og_tn hT (by decide)), (Sk_T hs hT).2.2.1, kt.2.1, hl, if_pos (ag_t3 hT (by clear ew; omega) (by clear ew; omega)), if_pos (show rg K0 2 58 = true from rfl), a1, Option.bind_some, (ht.2.1 l hl5).2.2]
  show ∃ M', vr sc (d + 6) c_X2_endDay (28, [(2, 58), (2, T), (0, (f : Int)), (0, if p f = true then 1 else 0), (0, (l : Int))], [(0, lesF xs t f (p f)), (0, tSkl t l), (0, (l : Int)), (2, T + 3)], (K0, M1)) = _ ∧ _
  rw [e_X2_endDay_28, ew, bounded_ok, Option.bind_some]
  clear ew
  unfold edF
  rw [if_pos hb, hl, Int.toNat_natCast]
  dsimp only
  generalize bnd (tSkl t l + lesF xs t f (p f)) 0 99 = v
  show ∃ M', vr sc (d + 6) c_X2_endDay (35, [(2, 58), (2, T), (0, (f : Int)), (0, if p f = true then 1 else 0), (0, (l : Int))], [(0, v), (0, (l : Int)), (2, T + 3)], (K0, M1)) = _ ∧ _
  have f3 : FT T M1 (d_up M1 (T + 3) (l : Int) v) := FT.up (Or.inr (Or.inl (by omega))) v
  have ht3 := cT_sk hT ht1 (l := l) v
  have hs3 := f3.sk hT hs1
  rw [e_X2_endDay_35, if_pos (ag_t3 hT (by omega) (by omega))]
  cases hp : p f
  · rw [if_neg (show ¬ false = true by decide), if_neg (fun z => z rfl), if_pos (rg_tn hT), if_neg (show ¬ false = true by decide), vc_s (md := m_X5_undo) (L := [(2, T), (0, (f : Int))]) rfl (Nat.le_of_ble_eq_true rfl) rfl]
    show ∃ M', (vr sc (d + 5) c_X5_undo (0, [(2, T), (0, (f : Int))], [], (K0, d_up M1 (T + 3) (l : Int) v))).bind _ = _ ∧ _
    have kn := isT_kn hT hf
    have f4 : FT T (d_up M1 (T + 3) (l : Int) v) (d_up (d_up M1 (T + 3) (l : Int) v) (T + 7 + 2 * (f : Int)) 1 0) := FT.up (Or.inr (Or.inr (by omega))) 0
    have hs4 := f4.sk hT hs3
    have f5 : FT T (d_up (d_up M1 (T + 3) (l : Int) v) (T + 7 + 2 * (f : Int)) 1 0) (d_up (d_up (d_up M1 (T + 3) (l : Int) v) (T + 7 + 2 * (f : Int)) 1 0) (T + 5) (f : Int) (-1)) := FT.up (Or.inr (Or.inl (by omega))) _
    rw [e_X5_undo_0, if_pos (og_tn hT (by decide)), (Sk_T hs3 hT).2.2.2.2.2, if_pos (ag_t6 hT (by omega) (by omega)), Sk_Tk hs3 hT hf, if_pos (og_kn kn (by decide)), if_pos (by decide), if_pos (og_tn hT (by decide)), (Sk_T hs4 hT).2.2.2.2.1, if_pos (ag_t5 hT (by omega) (by omega)), Option.bind_some]
    show ∃ M', vr sc (d + 6) c_X2_endDay (45, [(2, 58), (2, T), (0, (f : Int)), (0, 0), (0, (l : Int))], [], (K0, _)) = _ ∧ _
    rw [e_X2_endDay_45]
    exact ⟨_, rfl, (((a2.ft T).tr f3).tr f4).tr f5, cT_un hT ht3⟩
  · rw [if_pos rfl, if_pos (by decide), if_pos rfl, e_X2_endDay_45]
    exact ⟨_, rfl, (a2.ft T).tr f3, ht3⟩
theorem spend_loop {sc : dS} {d : Nat} {T : Int} (hT : isT T) {t : Tn} (hok : okT t) (hd : tDay t < 99999) {xs : List (List Int)} (hxs : okXs xs) (hr : (tRule t).toNat < xs.length) {v : Int} (b : Nat → Bool) (hv : v = pset b 6) : ∀ (m i : Nat) (M : dM), 6 - i = m → i ≤ 6 → Sk M → cT M T (edN xs b i t) → cXs M xs →
    ∃ M' : dM, vr sc (d + 7) c_X2_spendEvening (8, [(2, 58), (2, T), (0, v), (0, (i : Int))], [], (K0, M)) = some ([(0, v)], (K0, M')) ∧ FT T M M' ∧ cT M' T (tDy (edN xs b 6 t) (tDay t + 1)) := by
  intro m
  induction m with
  | zero =>
    intro i M hm hi hs ht hx
    have e : i = 6 := by omega
    subst e
    have e1 := edN_1 (xs := xs) (p := b) (t := t) 6
    have e0 : M T 0 = tDay t := ht.1.1.trans (by show (edN xs b 6 t).1.1 = t.1.1; rw [e1])
    have o1 := hok.1
    have ew : w32 (tDay t + 1) = tDay t + 1 := w32_i (by omega) (by omega)
    rw [e_X2_spendEvening_8, if_pos (by decide), if_pos (og_tn hT (by decide)), if_pos (og_tn hT (by decide)), e0, ew]
    clear ew
    rw [if_pos ⟨by omega, by omega⟩]
    exact ⟨_, rfl, FT.up (Or.inl ⟨rfl, by decide, by decide⟩) _, cT_dy hT ht _⟩
  | succ m ih =>
    intro i M hm hi hs ht hx
    have hi' : i < 6 := by omega
    have hok' := okT_edN (xs := xs) (p := b) hok i
    have e1 := edN_1 (xs := xs) (p := b) (t := t) i
    have er : tRule (edN xs b i t) = tRule t := by show (edN xs b i t).1.2.2.1 = t.1.2.2.1; rw [e1]
    have o3 := hok'.2.2 i hi'
    have kt := ht.2.2 i hi'
    have eN : edN xs b (i + 1) t = edF xs b (edN xs b i t) i := rfl
    rw [e_X2_spendEvening_8, if_neg (by omega), if_pos (rg_tn hT), isTied_ok (d := d + 5) hs hT hi', Option.bind_some, kt.2.1, ht.1.2.2.2]
    show ∃ M', vr sc (d + 7) c_X2_spendEvening (19, [(2, 58), (2, T), (0, v), (0, (i : Int))], [(0, bi (0 ≤ tBy (edN xs b i t) i ∧ tBy (edN xs b i t) i < (tMany (edN xs b i t) : Int)))], (K0, M)) = _ ∧ _
    rw [e_X2_spendEvening_19]
    by_cases p : ¬ 0 ≤ tBy (edN xs b i t) i
    · have eF : edF xs b (edN xs b i t) i = edN xs b i t := if_neg p
      rw [bi_f (fun z => p z.1), if_pos rfl, e_X2_spendEvening_41, w_s i (by omega)]
      exact ih (i + 1) M (by omega) (by omega) hs (by rw [eN, eF]; exact ht) hx
    have p := Classical.not_not.mp p
    obtain ⟨M1, a1, a2, a3⟩ := endDay_ok (sc := sc) (d := d) hs hT ht hok' hx hxs (by rw [er]; exact hr) hi' p b
    obtain ⟨M2, b1, b2, b3⟩ := ih (i + 1) M1 (by omega) (by omega) (a2.sk hT hs) a3 (hx.ft hT hxs.1 a2)
    have ebit := pset_bit b hi'
    rw [bi_t ⟨p, o3.2.2.2.1⟩, if_neg (by decide), hv, ebit]
    rw [hv] at b1
    by_cases q : b i = true
    · rw [if_pos q] at a1
      rw [if_pos q, if_neg (by decide), if_pos (show rg K0 2 58 = true from rfl), a1, Option.bind_some]
      show ∃ M', vr sc (d + 7) c_X2_spendEvening (41, [(2, 58), (2, T), (0, pset b 6), (0, (i : Int))], [], (K0, M1)) = _ ∧ _
      rw [e_X2_spendEvening_41, w_s i (by omega)]
      exact ⟨M2, b1, a2.tr b2, b3⟩
    · rw [if_neg q] at a1
      rw [if_neg q, if_pos rfl, if_pos (show rg K0 2 58 = true from rfl), a1, Option.bind_some]
      show ∃ M', vr sc (d + 7) c_X2_spendEvening (41, [(2, 58), (2, T), (0, pset b 6), (0, (i : Int))], [], (K0, M1)) = _ ∧ _
      rw [e_X2_spendEvening_41, w_s i (by omega)]
      exact ⟨M2, b1, a2.tr b2, b3⟩
theorem spend_ok {sc : dS} {d : Nat} {M : dM} (hs : Sk M) {T : Int} (hT : isT T) {t : Tn} (ht : cT M T t) (hok : okT t) (hd : tDay t < 99999) {xs : List (List Int)} (hx : cXs M xs) (hxs : okXs xs) (hr : (tRule t).toNat < xs.length) : ∃ M' : dM, vc sc (d + 8) 42 [(2, 58), (2, T)] (K0, M) = some ([(0, pset (psB xs t) 6)], (K0, M')) ∧ FT T M M' ∧ cT M' T (evS xs t) := by
  obtain ⟨M1, a1, a2⟩ := passing_ok (sc := sc) (d := d) hs hT ht hok hx hxs hr
  rw [vc_s (md := m_X2_spendEvening) (L := [(2, 58), (2, T), (3, 0), (3, 0)]) rfl (Nat.le_of_ble_eq_true rfl) rfl]
  show ∃ M', vr sc (d + 7) c_X2_spendEvening (0, [(2, 58), (2, T), (3, 0), (3, 0)], [], (K0, M)) = _ ∧ _
  rw [e_X2_spendEvening_0, if_pos (show rg K0 2 58 = true from rfl), a1, Option.bind_some]
  show ∃ M', vr sc (d + 7) c_X2_spendEvening (5, [(2, 58), (2, T), (3, 0), (3, 0)], [(0, pset (psB xs t) 6)], (K0, M1)) = _ ∧ _
  rw [e_X2_spendEvening_5]
  obtain ⟨M2, b1, b2, b3⟩ := spend_loop (sc := sc) (d := d) hT hok hd hxs hr (psB xs t) rfl 6 0 M1 rfl (by omega) (a2.sk hs) (ht.fs hT a2) (hx.fs hxs.1 a2)
  exact ⟨M2, b1, (a2.ft T).tr b2, b3⟩
