/-! an evening, reference side -/
def FU (M M' : dM) : Prop := ∀ x k : Int, x ≠ 111 → x ≠ 112 → x ≠ 114 → (x = 107 → k ≠ 7 ∧ (k < 13 ∨ 27 < k) ∧ k ≠ 29) → M' x k = M x k
theorem FU.rf (M : dM) : FU M M := fun _ _ _ _ _ _ => rfl
theorem FU.tr {M M1 M2 : dM} (h1 : FU M M1) (h2 : FU M1 M2) : FU M M2 := fun x k g0 g1 g2 g3 => (h2 x k g0 g1 g2 g3).trans (h1 x k g0 g1 g2 g3)
theorem RU.fu {M M' : dM} (h : RU M M') : FU M M' := fun x k _ _ g2 g3 => h x k g2 fun z => (g3 z).2
theorem FU.sk {M M' : dM} (h : FU M M') (hs : Sk M) : Sk M' := Sk_of hs fun x k hq => by
  have e : ∀ a : Int, SKL.all (fun q => !(q.1 == a)) = true → x ≠ a := fun a ha z => by rw [z, isRf_cell ha] at hq; cases hq
  refine h x k (e 111 (by decide +kernel)) (e 112 (by decide +kernel)) (e 114 (by decide +kernel)) fun z => ⟨fun y => ?_, ?_, fun y => ?_⟩
  · rw [z, y, show isRf 107 7 = false by decide +kernel] at hq; cases hq
  · by_cases p : 13 ≤ k ∧ k ≤ 27
    · rw [z, rf_107 k p.1 p.2] at hq; cases hq
    · omega
  · rw [z, y, show isRf 107 29 = false by decide +kernel] at hq; cases hq
theorem rXs.fu {M M' : dM} {xs : List (List Int)} (h : rXs M xs) (hf : FU M M') : rXs M' xs := ⟨(hf 107 3 (by decide) (by decide) (by decide) (fun _ => by omega)).trans h.1, fun t ht => ⟨(hf 109 _ (by decide) (by decide) (by decide) (fun z => absurd z (by decide))).trans (h.2 t ht).1, fun i hi => (hf 108 _ (by decide) (by decide) (by decide) (fun z => absurd z (by decide))).trans ((h.2 t ht).2 i hi)⟩⟩
theorem d_up_id {M : dM} {a k v : Int} (h : M a k = v) : d_up M a k v = M := by
  funext x j
  unfold d_up
  split
  · next z => rw [z.1, z.2, h]
  · rfl
theorem rT_sk {M : dM} {t : Tn} (ht : rT M t) {l : Nat} (v : Int) : rT (d_up M 111 ((3 * l + 1 : Nat) : Int) v) (tSk t l v) := by
  refine ⟨⟨(d_up_n1 _ (by decide)).trans ht.1.1, (d_up_n1 _ (by decide)).trans ht.1.2.1, (d_up_n1 _ (by decide)).trans ht.1.2.2.1, (d_up_n1 _ (by decide)).trans ht.1.2.2.2⟩, fun j hj => ?_, fun j hj => ?_⟩
  · have k := ht.2.1 j hj
    refine ⟨(d_up_n2 _ (by omega)).trans k.1, ?_, (d_up_n2 _ (by omega)).trans k.2.2⟩
    show _ = if j = l then v else tSkl t j
    by_cases q : j = l
    · rw [if_pos q, q, d_up_at]
    · rw [if_neg q, d_up_n2 _ (by omega)]; exact k.2.1
  · have k := ht.2.2 j hj
    exact ⟨(d_up_n1 _ (by decide)).trans k.1, (d_up_n1 _ (by decide)).trans k.2.1, (d_up_n1 _ (by decide)).trans k.2.2.1, fun i hi => (d_up_n1 _ (by decide)).trans (k.2.2.2 i hi)⟩
theorem rT_un {M : dM} {t : Tn} (ht : rT M t) {f : Nat} : rT (d_up (d_up M 112 ((3 * f + 1 : Nat) : Int) (-1)) 112 ((3 * f + 2 : Nat) : Int) 0) (tUn t f) := by
  have e : ∀ x k : Int, x ≠ 112 → d_up (d_up M 112 ((3 * f + 1 : Nat) : Int) (-1)) 112 ((3 * f + 2 : Nat) : Int) 0 x k = M x k := fun x k h => (d_up_n1 _ h).trans (d_up_n1 _ h)
  refine ⟨⟨(e _ _ (by decide)).trans ht.1.1, (e _ _ (by decide)).trans ht.1.2.1, (e _ _ (by decide)).trans ht.1.2.2.1, (e _ _ (by decide)).trans ht.1.2.2.2⟩, fun j hj => ?_, fun j hj => ?_⟩
  · have k := ht.2.1 j hj
    exact ⟨(e _ _ (by decide)).trans k.1, (e _ _ (by decide)).trans k.2.1, (e _ _ (by decide)).trans k.2.2⟩
  · have k := ht.2.2 j hj
    by_cases q : j = f
    · subst q
      have e1 : tBy (tUn t j) j = -1 := if_pos rfl
      have e2 : tKn (tUn t j) j = [] := if_pos rfl
      rw [e1, e2]
      exact ⟨(d_up_n2 _ (by omega)).trans ((d_up_n2 _ (by omega)).trans k.1), (d_up_n2 _ (by omega)).trans (d_up_at _ _ _ _), d_up_at _ _ _ _, fun i hi => absurd hi (Nat.not_lt_zero i)⟩
    · have e1 : tBy (tUn t f) j = tBy t j := if_neg q
      have e2 : tKn (tUn t f) j = tKn t j := if_neg q
      rw [e1, e2]
      exact ⟨(d_up_n2 _ (by omega)).trans ((d_up_n2 _ (by omega)).trans k.1), (d_up_n2 _ (by omega)).trans ((d_up_n2 _ (by omega)).trans k.2.1), (d_up_n2 _ (by omega)).trans ((d_up_n2 _ (by omega)).trans k.2.2.1), fun i hi => (e _ _ (by decide)).trans (k.2.2.2 i hi)⟩
theorem rT_dy {M : dM} {t : Tn} (ht : rT M t) (v : Int) : rT (d_up M 107 7 v) (tDy t v) := by
  have e : ∀ k : Int, k ≠ 7 → d_up M 107 7 v 107 k = M 107 k := fun k h => d_up_n2 _ h
  refine ⟨⟨d_up_at _ _ _ _, (e _ (by decide)).trans ht.1.2.1, (e _ (by decide)).trans ht.1.2.2.1, (e _ (by decide)).trans ht.1.2.2.2⟩, fun j hj => ?_, fun j hj => ?_⟩
  · have k := ht.2.1 j hj
    exact ⟨(d_up_n1 _ (by decide)).trans k.1, (d_up_n1 _ (by decide)).trans k.2.1, (d_up_n1 _ (by decide)).trans k.2.2⟩
  · have k := ht.2.2 j hj
    exact ⟨(d_up_n1 _ (by decide)).trans k.1, (d_up_n1 _ (by decide)).trans k.2.1, (d_up_n1 _ (by decide)).trans k.2.2.1, fun i hi => (d_up_n1 _ (by decide)).trans (k.2.2.2 i hi)⟩
theorem passes_loop1 {sc : dS} {d : Nat} {t : Tn} (hok : okT t) {xs : List (List Int)} (hxs : okXs xs) (hr : (tRule t).toNat < xs.length) {q3 q4 : dV} : ∀ (m i : Nat) (M : dM), 6 - i = m → i ≤ 6 → Sk M → rT M t → rXs M xs →
    ∃ M' : dM, vr sc (d + 50) c_X7_passes (4, [(2, 107), (0, pset (psB xs t) i), (0, (i : Int)), q3, q4], [], (K0, M)) = vr sc (d + 50) c_X7_passes (36, [(2, 107), (0, pset (psB xs t) 6), (0, 0), q3, q4], [], (K0, M')) ∧ RU M M' := by
  intro m
  induction m with
  | zero =>
    intro i M hm hi hs ht hx
    have e : i = 6 := by omega
    subst e
    rw [e_X7_passes_4, if_pos (by decide)]
    exact ⟨M, rfl, RU.rf _⟩
  | succ m ih =>
    intro i M hm hi hs ht hx
    have hi' : i < 6 := by omega
    obtain ⟨M1, a1, a2⟩ := passesAt_ok (sc := sc) (d := d) hs ht hok hx hxs hr hi'
    obtain ⟨M2, b1, b2⟩ := ih (i + 1) M1 (by omega) (by omega) (a2.sk hs) (ht.ru a2) (hx.ru a2)
    rw [e_X7_passes_4, if_neg (by omega), if_pos (show rg K0 7 107 = true from rfl), a1, Option.bind_some]
    show ∃ M', vr sc (d + 50) c_X7_passes (16, [(2, 107), (0, pset (psB xs t) i), (0, (i : Int)), q3, q4], [(0, if psB xs t i = true then 1 else 0), (0, pset (psB xs t) i)], (K0, M1)) = _ ∧ _
    rw [e_X7_passes_16, w_s i (by omega)]
    by_cases p : psB xs t i = true
    · have e : pset (psB xs t) (i + 1) = i_or (pset (psB xs t) i) (i_shl 1 i) := if_pos p
      rw [e] at b1
      rw [if_pos p, if_neg (by decide)]
      exact ⟨M2, b1, a2.tr b2⟩
    · have e : pset (psB xs t) (i + 1) = pset (psB xs t) i := if_neg p
      rw [e] at b1
      rw [if_neg p, if_pos rfl, or_0 hi hi']
      exact ⟨M2, b1, a2.tr b2⟩
theorem passes_loop2 {sc : dS} {d : Nat} {t : Tn} (hok : okT t) (hd : tDay t < 99999) {xs : List (List Int)} (hxs : okXs xs) (hr : (tRule t).toNat < xs.length) {v : Int} (b : Nat → Bool) (hv : v = pset b 6) : ∀ (m i : Nat) (M : dM) (q3 q4 : dV), 6 - i = m → i ≤ 6 → Sk M → rT M (edN xs b i t) → rXs M xs →
    ∃ M' : dM, vr sc (d + 50) c_X7_passes (36, [(2, 107), (0, v), (0, (i : Int)), q3, q4], [], (K0, M)) = some ([(0, v)], (K0, M')) ∧ FU M M' ∧ rT M' (tDy (edN xs b 6 t) (tDay t + 1)) := by
  intro m
  induction m with
  | zero =>
    intro i M q3 q4 hm hi hs ht hx
    have e : i = 6 := by omega
    subst e
    have e1 := edN_1 (xs := xs) (p := b) (t := t) 6
    have e0 : M 107 7 = tDay t := ht.1.1.trans (by show (edN xs b 6 t).1.1 = t.1.1; rw [e1])
    have o1 := hok.1
    have ew : w32 (tDay t + 1) = tDay t + 1 := w32_i (by omega) (by omega)
    rw [e_X7_passes_36, if_pos (by decide), if_pos (show og K0 7 107 7 = true from rfl), if_pos (show og K0 7 107 7 = true from rfl), e0, ew]
    clear ew
    rw [if_pos ⟨by omega, by omega⟩]
    refine ⟨_, rfl, fun x k g0 g1 g2 g3 => ?_, rT_dy ht _⟩
    unfold d_up
    rw [if_neg]
    rintro ⟨rfl, rfl⟩
    exact (g3 rfl).1 rfl
  | succ m ih =>
    intro i M q3 q4 hm hi hs ht hx
    have hi' : i < 6 := by omega
    have hok' := okT_edN (xs := xs) (p := b) hok i
    have e1 := edN_1 (xs := xs) (p := b) (t := t) i
    have er : tRule (edN xs b i t) = tRule t := by show (edN xs b i t).1.2.2.1 = t.1.2.2.1; rw [e1]
    have o1 := hok'.1
    have o3 := hok'.2.2 i hi'
    have kt := ht.2.2 i hi'
    have eN : edN xs b (i + 1) t = edF xs b (edN xs b i t) i := rfl
    have w31 : w32 (w32 (3 * (i : Int)) + 1) = ((3 * i + 1 : Nat) : Int) := w_t3 i 1 (by omega) (by omega)
    have w32f : w32 (w32 (3 * (i : Int)) + 2) = ((3 * i + 2 : Nat) : Int) := w_t3 i 2 (by omega) (by omega)
    have ebit := pset_bit b hi'
    have e36 : vr sc (d + 50) c_X7_passes (36, [(2, 107), (0, v), (0, (i : Int)), q3, q4], [], (K0, M)) = vr sc (d + 50) c_X7_passes (67, [(2, 107), (0, v), (0, (i : Int)), (0, tBy (edN xs b i t) i), q4], [(0, if b i = true then 1 else 0)], (K0, M)) := by
      rw [e_X7_passes_36, if_neg (by clear w31 w32f; omega), if_pos (show og K0 7 107 10 = true from rfl), (Sk_m10 hs).1, w31]
      clear w31 w32f
      rw [if_pos (ag_112 (by omega) (by omega)), kt.2.1, hv, ebit]
      by_cases q : b i = true
      · rw [if_pos q, if_neg (fun z => z rfl)]
      · rw [if_neg q, if_pos (by decide)]
    rw [e36, e_X7_passes_67]
    by_cases p : ¬ 0 ≤ tBy (edN xs b i t) i
    · have eF : edF xs b (edN xs b i t) i = edN xs b i t := if_neg p
      rw [if_pos (by clear w31 w32f; omega), w_s i (by clear w31 w32f; omega)]
      exact ih (i + 1) M _ _ (by clear w31 w32f; omega) (by clear w31 w32f; omega) hs (by rw [eN, eF]; exact ht) hx
    have p := Classical.not_not.mp p
    obtain ⟨l, hl⟩ : ∃ n : Nat, tBy (edN xs b i t) i = n := ⟨(tBy (edN xs b i t) i).toNat, by clear w31 w32f; omega⟩
    have hl5 : l < 5 := by clear w31 w32f; omega
    have o2 := hok'.2.1 l hl5
    have w3l : w32 (w32 (3 * (l : Int)) + 1) = ((3 * l + 1 : Nat) : Int) := w_t3 l 1 (by clear w31 w32f; omega) (by clear w31 w32f; omega)
    obtain ⟨M1, a1, a2⟩ := learnsOf_ok (sc := sc) (d := d + 2) hs ht hok' hx hxs (by rw [er]; exact hr) hi' hl (b i)
    have hs1 := a2.sk hs
    have ht1 := ht.ru a2
    have hx1 := hx.ru a2
    have a15 : ∀ j : Int, 0 ≤ j → j < 15 → ag K0 8 111 j = true := fun j h0 h1 => ag_of (n := 15) rfl h0 h1
    have hlr := lesF_r (xs := xs) hok' hi' p (p := b i)
    have eF : edF xs b (edN xs b i t) i = (if b i = true then tSk (edN xs b i t) l (bnd (tSkl (edN xs b i t) l + lesF xs (edN xs b i t) i (b i)) 0 99) else tUn (tSk (edN xs b i t) l (bnd (tSkl (edN xs b i t) l + lesF xs (edN xs b i t) i (b i)) 0 99)) i) := by
      unfold edF
      rw [if_pos p, hl, Int.toNat_natCast]
    have ew : w32 (tSkl (edN xs b i t) l + lesF xs (edN xs b i t) i (b i)) = tSkl (edN xs b i t) l + lesF xs (edN xs b i t) i (b i) := by
      clear w31 w32f w3l
      exact w32_i (by omega) (by omega)
    rw [hl, if_neg (by clear w31 w32f w3l ew; omega), if_pos (show og K0 7 107 9 = true from rfl), if_pos (show og K0 7 107 9 = true from rfl), Sk_m9b hs, w3l, if_pos (a15 _ (by clear w31 w32f w3l ew; omega) (by clear w31 w32f w3l ew; omega)), if_pos (show rg K0 7 107 = true from rfl), a1, Option.bind_some, (ht.2.1 l hl5).2.1]
    clear w3l
    show ∃ M', vr sc (d + 50) c_X7_passes (101, [(2, 107), (0, v), (0, (i : Int)), (0, (l : Int)), (0, if b i = true then 1 else 0)], [(0, lesF xs (edN xs b i t) i (b i)), (0, tSkl (edN xs b i t) l), (0, ((3 * l + 1 : Nat) : Int)), (2, 111)], (K0, M1)) = _ ∧ _
    rw [e_X7_passes_101, ew, within_ok, Option.bind_some]
    clear ew
    generalize bnd (tSkl (edN xs b i t) l + lesF xs (edN xs b i t) i (b i)) 0 99 = z at *
    show ∃ M', vr sc (d + 50) c_X7_passes (108, [(2, 107), (0, v), (0, (i : Int)), (0, (l : Int)), (0, if b i = true then 1 else 0)], [(0, z), (0, ((3 * l + 1 : Nat) : Int)), (2, 111)], (K0, M1)) = _ ∧ _
    have f3 : FU M1 (d_up M1 111 ((3 * l + 1 : Nat) : Int) z) := fun x k g0 _ _ _ => d_up_n1 _ g0
    have ht3 := rT_sk ht1 (l := l) z
    have hs3 := f3.sk hs1
    have kt3 := ht3.2.2 i hi'
    rw [e_X7_passes_108, if_pos (a15 _ (by clear w31 w32f; omega) (by clear w31 w32f; omega)), if_pos (show og K0 7 107 10 = true from rfl), (Sk_m10 hs3).1, w31]
    clear w31
    have f112 : ∀ (N : dM) (k w : Int), FU N (d_up N 112 k w) := fun N k w x j _ g1 _ _ => d_up_n1 _ g1
    by_cases q : b i = true
    · rw [if_pos q, if_neg (by decide)]
      have e4 : d_up (d_up M1 111 ((3 * l + 1 : Nat) : Int) z) 112 ((3 * i + 1 : Nat) : Int) (l : Int) = d_up M1 111 ((3 * l + 1 : Nat) : Int) z := d_up_id (kt3.2.1.trans hl)
      rw [e_X7_passes_128, if_pos (ag_112 (by clear w32f; omega) (by clear w32f; omega)), if_pos (show og K0 7 107 10 = true from rfl), if_neg (by decide), e4, (Sk_m10 hs3).1, if_pos (show og K0 7 107 10 = true from rfl), w32f]
      clear w32f
      rw [if_pos (ag_112 (by omega) (by omega)), if_pos (ag_112 (by omega) (by omega)), d_up_id rfl, w_s i (by omega)]
      obtain ⟨M4, c1, c2, c3⟩ := ih (i + 1) _ (0, (l : Int)) (0, 1) (by omega) (by omega) hs3 (by rw [eN, eF, if_pos q]; exact ht3) ((hx1.fu f3))
      exact ⟨M4, c1, (a2.fu.tr f3).tr c2, c3⟩
    · rw [if_neg q, if_pos rfl]
      have f4 := f112 (d_up M1 111 ((3 * l + 1 : Nat) : Int) z) ((3 * i + 1 : Nat) : Int) (-1)
      have hs4 := f4.sk hs3
      rw [e_X7_passes_128, if_pos (ag_112 (by clear w32f; omega) (by clear w32f; omega)), if_pos (show og K0 7 107 10 = true from rfl), if_pos rfl, (Sk_m10 hs4).1, w32f]
      clear w32f
      rw [if_pos (ag_112 (by omega) (by omega)), w_s i (by omega)]
      have f5 := f112 (d_up (d_up M1 111 ((3 * l + 1 : Nat) : Int) z) 112 ((3 * i + 1 : Nat) : Int) (-1)) ((3 * i + 2 : Nat) : Int) 0
      obtain ⟨M4, c1, c2, c3⟩ := ih (i + 1) _ (0, (l : Int)) (0, 0) (by omega) (by omega) (f5.sk hs4) (by rw [eN, eF, if_neg q]; exact rT_un ht3) (((hx1.fu f3).fu f4).fu f5)
      exact ⟨M4, c1, (((a2.fu.tr f3).tr f4).tr f5).tr c2, c3⟩
theorem passes_ok {sc : dS} {d : Nat} {M : dM} (hs : Sk M) {t : Tn} (ht : rT M t) (hok : okT t) (hd : tDay t < 99999) {xs : List (List Int)} (hx : rXs M xs) (hxs : okXs xs) (hr : (tRule t).toNat < xs.length) : ∃ M' : dM, vc sc (d + 51) 170 [(2, 107)] (K0, M) = some ([(0, pset (psB xs t) 6)], (K0, M')) ∧ FU M M' ∧ rT M' (evS xs t) := by
  obtain ⟨M1, a1, a2⟩ := passes_loop1 (sc := sc) (d := d) hok hxs hr (q3 := (3, 0)) (q4 := (3, 0)) 6 0 M rfl (by omega) hs ht hx
  obtain ⟨M2, b1, b2, b3⟩ := passes_loop2 (sc := sc) (d := d) hok hd hxs hr (psB xs t) rfl 6 0 M1 (3, 0) (3, 0) rfl (by omega) (a2.sk hs) (ht.ru a2) (hx.ru a2)
  rw [vc_s (md := m_X7_passes) (L := [(2, 107), (3, 0), (3, 0), (3, 0), (3, 0)]) rfl (Nat.le_of_ble_eq_true rfl) rfl]
  show ∃ M', vr sc (d + 50) c_X7_passes (0, [(2, 107), (3, 0), (3, 0), (3, 0), (3, 0)], [], (K0, M)) = _ ∧ _
  rw [e_X7_passes_0, show vr sc (d + 50) c_X7_passes (4, [(2, 107), (0, 0), (0, 0), (3, 0), (3, 0)], [], (K0, M)) = _ from a1]
  exact ⟨M2, b1, a2.fu.tr b2, b3⟩
