/-! set and lad, both sides -/
def tWt (t : Tn) (v : Int) : Tn := ((tDay t, v, tRule t, tMany t), tKind t, tNum t, tSkl t, tWlk t, tBy t, tKn t)
def tNm (t : Tn) (l : Nat) (v : Int) : Tn := (t.1, tKind t, fun i => if i = l then v else tNum t i, tSkl t, tWlk t, tBy t, tKn t)
def tWk (t : Tn) (f : Nat) (v : Int) : Tn := (t.1, tKind t, tNum t, tSkl t, fun i => if i = f then v else tWlk t i, tBy t, tKn t)
theorem cT_wt {M : dM} {T : Int} (hT : isT T) {t : Tn} (ht : cT M T t) (v : Int) : cT (d_up M T 1 v) T (tWt t v) := by
  have b := isT_c hT
  have e : ∀ x k : Int, ¬ (x = T ∧ k = 1) → d_up M T 1 v x k = M x k := fun x k h => if_neg h
  refine ⟨⟨(e _ _ (by omega)).trans ht.1.1, d_up_at _ _ _ _, (e _ _ (by omega)).trans ht.1.2.2.1, (e _ _ (by omega)).trans ht.1.2.2.2⟩, fun j hj => ?_, fun j hj => ?_⟩
  · have k := ht.2.1 j hj
    exact ⟨(e _ _ (by omega)).trans k.1, (e _ _ (by omega)).trans k.2.1, (e _ _ (by omega)).trans k.2.2⟩
  · have k := ht.2.2 j hj
    exact ⟨(e _ _ (by omega)).trans k.1, (e _ _ (by omega)).trans k.2.1, k.2.2.up (e _ _ (by omega)) fun i _ _ => e _ _ (by omega)⟩
theorem cT_nm {M : dM} {T : Int} (hT : isT T) {t : Tn} (ht : cT M T t) {l : Nat} (v : Int) : cT (d_up M (T + 2) l v) T (tNm t l v) := by
  have b := isT_c hT
  have e : ∀ x k : Int, x ≠ T + 2 → d_up M (T + 2) l v x k = M x k := fun x k hx => d_up_n1 _ hx
  refine ⟨⟨(e _ _ (by omega)).trans ht.1.1, (e _ _ (by omega)).trans ht.1.2.1, (e _ _ (by omega)).trans ht.1.2.2.1, (e _ _ (by omega)).trans ht.1.2.2.2⟩, fun j hj => ?_, fun j hj => ?_⟩
  · have k := ht.2.1 j hj
    refine ⟨(e _ _ (by omega)).trans k.1, ?_, (e _ _ (by omega)).trans k.2.2⟩
    show _ = if j = l then v else tNum t j
    by_cases q : j = l
    · rw [if_pos q, q, d_up_at]
    · rw [if_neg q, d_up_n2 _ (by omega)]; exact k.2.1
  · have k := ht.2.2 j hj
    exact ⟨(e _ _ (by omega)).trans k.1, (e _ _ (by omega)).trans k.2.1, k.2.2.up (e _ _ (by omega)) fun i _ _ => e _ _ (by omega)⟩
theorem cT_wk {M : dM} {T : Int} (hT : isT T) {t : Tn} (ht : cT M T t) {f : Nat} (v : Int) : cT (d_up M (T + 4) f v) T (tWk t f v) := by
  have b := isT_c hT
  have e : ∀ x k : Int, x ≠ T + 4 → d_up M (T + 4) f v x k = M x k := fun x k hx => d_up_n1 _ hx
  refine ⟨⟨(e _ _ (by omega)).trans ht.1.1, (e _ _ (by omega)).trans ht.1.2.1, (e _ _ (by omega)).trans ht.1.2.2.1, (e _ _ (by omega)).trans ht.1.2.2.2⟩, fun j hj => ?_, fun j hj => ?_⟩
  · have k := ht.2.1 j hj
    exact ⟨(e _ _ (by omega)).trans k.1, (e _ _ (by omega)).trans k.2.1, (e _ _ (by omega)).trans k.2.2⟩
  · have k := ht.2.2 j hj
    refine ⟨?_, (e _ _ (by omega)).trans k.2.1, k.2.2.up (e _ _ (by omega)) fun i _ _ => e _ _ (by omega)⟩
    show _ = if j = f then v else tWlk t j
    by_cases q : j = f
    · rw [if_pos q, q, d_up_at]
    · rw [if_neg q, d_up_n2 _ (by omega)]; exact k.1
theorem rT_wt {M : dM} {t : Tn} (ht : rT M t) (v : Int) : rT (d_up M 107 8 v) (tWt t v) := by
  have e : ∀ k : Int, k ≠ 8 → d_up M 107 8 v 107 k = M 107 k := fun k h => d_up_n2 _ h
  refine ⟨⟨(e _ (by decide)).trans ht.1.1, d_up_at _ _ _ _, (e _ (by decide)).trans ht.1.2.2.1, (e _ (by decide)).trans ht.1.2.2.2⟩, fun j hj => ?_, fun j hj => ?_⟩
  · have k := ht.2.1 j hj
    exact ⟨(d_up_n1 _ (by decide)).trans k.1, (d_up_n1 _ (by decide)).trans k.2.1, (d_up_n1 _ (by decide)).trans k.2.2⟩
  · have k := ht.2.2 j hj
    exact ⟨(d_up_n1 _ (by decide)).trans k.1, (d_up_n1 _ (by decide)).trans k.2.1, (d_up_n1 _ (by decide)).trans k.2.2.1, fun i hi => (d_up_n1 _ (by decide)).trans (k.2.2.2 i hi)⟩
theorem rT_nm {M : dM} {t : Tn} (ht : rT M t) {l : Nat} (v : Int) : rT (d_up M 111 ((3 * l : Nat) : Int) v) (tNm t l v) := by
  refine ⟨⟨(d_up_n1 _ (by decide)).trans ht.1.1, (d_up_n1 _ (by decide)).trans ht.1.2.1, (d_up_n1 _ (by decide)).trans ht.1.2.2.1, (d_up_n1 _ (by decide)).trans ht.1.2.2.2⟩, fun j hj => ?_, fun j hj => ?_⟩
  · have k := ht.2.1 j hj
    refine ⟨?_, (d_up_n2 _ (by omega)).trans k.2.1, (d_up_n2 _ (by omega)).trans k.2.2⟩
    show _ = if j = l then v else tNum t j
    by_cases q : j = l
    · rw [if_pos q, q, d_up_at]
    · rw [if_neg q, d_up_n2 _ (by omega)]; exact k.1
  · have k := ht.2.2 j hj
    exact ⟨(d_up_n1 _ (by decide)).trans k.1, (d_up_n1 _ (by decide)).trans k.2.1, (d_up_n1 _ (by decide)).trans k.2.2.1, fun i hi => (d_up_n1 _ (by decide)).trans (k.2.2.2 i hi)⟩
theorem rT_wk {M : dM} {t : Tn} (ht : rT M t) {f : Nat} (v : Int) : rT (d_up M 112 ((3 * f : Nat) : Int) v) (tWk t f v) := by
  refine ⟨⟨(d_up_n1 _ (by decide)).trans ht.1.1, (d_up_n1 _ (by decide)).trans ht.1.2.1, (d_up_n1 _ (by decide)).trans ht.1.2.2.1, (d_up_n1 _ (by decide)).trans ht.1.2.2.2⟩, fun j hj => ?_, fun j hj => ?_⟩
  · have k := ht.2.1 j hj
    exact ⟨(d_up_n1 _ (by decide)).trans k.1, (d_up_n1 _ (by decide)).trans k.2.1, (d_up_n1 _ (by decide)).trans k.2.2⟩
  · have k := ht.2.2 j hj
    refine ⟨?_, (d_up_n2 _ (by omega)).trans k.2.1, (d_up_n2 _ (by omega)).trans k.2.2.1, fun i hi => (d_up_n1 _ (by decide)).trans (k.2.2.2 i hi)⟩
    show _ = if j = f then v else tWlk t j
    by_cases q : j = f
    · rw [if_pos q, q, d_up_at]
    · rw [if_neg q, d_up_n2 _ (by omega)]; exact k.1
def setOk (t : Tn) (w of v : Int) : Prop := (w = 0 ∧ 0 ≤ v ∧ v ≤ 999) ∨ (w = 1 ∧ 0 ≤ v ∧ v ≤ 1) ∨ (w = 2 ∧ (0 ≤ of ∧ of < (tMany t : Int)) ∧ 0 ≤ v ∧ v ≤ 9) ∨ (w = 3 ∧ (0 ≤ of ∧ of < (tMany t : Int)) ∧ 0 ≤ v ∧ v ≤ 99) ∨ (w = 4 ∧ (0 ≤ of ∧ of < 6) ∧ 0 ≤ v ∧ v ≤ 99)
def setB (t : Tn) (w of v : Int) : Bool := decide ((w = 0 ∧ 0 ≤ v ∧ v ≤ 999) ∨ (w = 1 ∧ 0 ≤ v ∧ v ≤ 1) ∨ (w = 2 ∧ (0 ≤ of ∧ of < (tMany t : Int)) ∧ 0 ≤ v ∧ v ≤ 9) ∨ (w = 3 ∧ (0 ≤ of ∧ of < (tMany t : Int)) ∧ 0 ≤ v ∧ v ≤ 99) ∨ (w = 4 ∧ (0 ≤ of ∧ of < 6) ∧ 0 ≤ v ∧ v ≤ 99))
theorem setB_iff {t : Tn} {w of v : Int} : setB t w of v = true ↔ setOk t w of v := decide_eq_true_iff
def tSet (t : Tn) (w of v : Int) : Tn := if w = 0 then tDy t v else if w = 1 then tWt t v else if w = 2 then tNm t of.toNat v else if w = 3 then tSk t of.toNat v else tWk t of.toNat v
def setF (xs : List (List Int)) (t : Tn) (w of v : Int) : Int := if setB t w of v = true then toldF xs t of w else -2
def setS (t : Tn) (w of v : Int) : Tn := if setB t w of v = true then tSet t w of v else t
theorem okT_set {t : Tn} (h : okT t) (w of v : Int) : okT (setS t w of v) := by
  unfold setS
  by_cases p : setB t w of v = true
  · rw [if_pos p]
    have q := setB_iff.mp p
    unfold setOk at q
    unfold tSet
    by_cases k0 : w = 0
    · rw [if_pos k0]; exact okT_tDy h (by omega)
    rw [if_neg k0]
    by_cases k1 : w = 1
    · rw [if_pos k1]; exact ⟨⟨h.1.1, h.1.2.1, (by show v = 0 ∨ v = 1; omega), h.1.2.2.2⟩, h.2.1, h.2.2⟩
    rw [if_neg k1]
    by_cases k2 : w = 2
    · rw [if_pos k2]
      refine ⟨h.1, fun j hj => ?_, h.2.2⟩
      have k := h.2.1 j hj
      refine ⟨k.1, k.2.1, ?_, ?_, k.2.2.2.2⟩
      · show 0 ≤ (if j = of.toNat then v else tNum t j)
        split
        · omega
        · exact k.2.2.1
      · show (if j = of.toNat then v else tNum t j) ≤ 9
        split
        · omega
        · exact k.2.2.2.1
    rw [if_neg k2]
    by_cases k3 : w = 3
    · rw [if_pos k3]; exact okT_tSk h _ (by omega)
    rw [if_neg k3]
    refine ⟨h.1, h.2.1, fun j hj => ?_⟩
    have k := h.2.2 j hj
    refine ⟨?_, ?_, k.2.2⟩
    · show 0 ≤ (if j = of.toNat then v else tWlk t j)
      split
      · omega
      · exact k.1
    · show (if j = of.toNat then v else tWlk t j) ≤ 99
      split
      · omega
      · exact k.2.1
  · rw [if_neg p]; exact h
theorem canSet_ok {sc : dS} {d : Nat} {M : dM} (hs : Sk M) {t : Tn} (ht : cT M 1 t) (w of v : Int) : vc sc (d + 2) 61 [(2, 0), (0, w), (0, of), (0, v)] (K0, M) = some ([(0, if setB t w of v = true then 1 else 0)], (K0, M)) := by
  rw [vc_s (md := m_X6_canSet) (L := [(2, 0), (0, w), (0, of), (0, v)]) rfl (Nat.le_of_ble_eq_true rfl) rfl]
  show vr sc (d + 1) c_X6_canSet (0, [(2, 0), (0, w), (0, of), (0, v)], [], (K0, M)) = _
  have g0 : og K0 6 0 0 = true := rfl
  rw [e_X6_canSet_0, (Sk_00 hs).1, hasLad_ok isT_1, isFoot_ok, isWithin_ok, isWithin_ok, ht.1.2.2.2]
  have fin : ∀ {P : Prop} [Decidable P], (setB t w of v = true ↔ P) → (if setB t w of v = true then (1 : Int) else 0) = bi P := fun {P} _ h => by
    by_cases z : P
    · rw [bi_t z, if_pos (h.mpr z)]
    · rw [bi_f z, if_neg (fun y => z (h.mp y))]
  by_cases k0 : w = 0
  · rw [if_pos k0, Option.bind_some, fin (P := 0 ≤ v ∧ v ≤ 999) (by rw [setB_iff]; unfold setOk; omega)]
    show vr sc (d + 1) c_X6_canSet (43, [(2, 0), (0, w), (0, of), (0, v)], [(0, _)], (K0, M)) = _
    rw [e_X6_canSet_43, bi_ret]
  rw [if_neg k0]
  by_cases k1 : w = 1
  · rw [if_pos k1, Option.bind_some, fin (P := 0 ≤ v ∧ v ≤ 1) (by rw [setB_iff]; unfold setOk; omega)]
    show vr sc (d + 1) c_X6_canSet (49, [(2, 0), (0, w), (0, of), (0, v)], [(0, _)], (K0, M)) = _
    rw [e_X6_canSet_49, bi_ret]
  rw [if_neg k1]
  by_cases k2 : w = 2
  · rw [if_pos k2, if_pos g0, if_pos (rg_tn isT_1), Option.bind_some]
    show vr sc (d + 1) c_X6_canSet (58, [(2, 0), (0, w), (0, of), (0, v)], [(0, _)], (K0, M)) = _
    rw [e_X6_canSet_58]
    by_cases p : ¬ (0 ≤ of ∧ of < (tMany t : Int))
    · rw [bi_f p, if_pos rfl, if_neg (by rw [setB_iff]; unfold setOk; omega)]
    have p := Classical.not_not.mp p
    rw [bi_t p, if_neg (by decide), isWithin_ok, Option.bind_some, fin (P := 0 ≤ v ∧ v ≤ 9) (by rw [setB_iff]; unfold setOk; omega)]
    show vr sc (d + 1) c_X6_canSet (67, [(2, 0), (0, w), (0, of), (0, v)], [(0, bi (0 ≤ v ∧ v ≤ 9))], (K0, M)) = _
    rw [e_X6_canSet_67]
    by_cases q : 0 ≤ v ∧ v ≤ 9
    · rw [bi_t q, if_neg (by decide)]
    · rw [bi_f q, if_pos rfl]
  rw [if_neg k2]
  by_cases k3 : w = 3
  · rw [if_pos k3, if_pos g0, if_pos (rg_tn isT_1), Option.bind_some]
    show vr sc (d + 1) c_X6_canSet (84, [(2, 0), (0, w), (0, of), (0, v)], [(0, _)], (K0, M)) = _
    rw [e_X6_canSet_84]
    by_cases p : ¬ (0 ≤ of ∧ of < (tMany t : Int))
    · rw [bi_f p, if_pos rfl, if_neg (by rw [setB_iff]; unfold setOk; omega)]
    have p := Classical.not_not.mp p
    rw [bi_t p, if_neg (by decide), isWithin_ok, Option.bind_some, fin (P := 0 ≤ v ∧ v ≤ 99) (by rw [setB_iff]; unfold setOk; omega)]
    show vr sc (d + 1) c_X6_canSet (93, [(2, 0), (0, w), (0, of), (0, v)], [(0, bi (0 ≤ v ∧ v ≤ 99))], (K0, M)) = _
    rw [e_X6_canSet_93]
    by_cases q : 0 ≤ v ∧ v ≤ 99
    · rw [bi_t q, if_neg (by decide)]
    · rw [bi_f q, if_pos rfl]
  rw [if_neg k3]
  by_cases k4 : w = 4
  · rw [if_pos k4, Option.bind_some]
    show vr sc (d + 1) c_X6_canSet (106, [(2, 0), (0, w), (0, of), (0, v)], [(0, _)], (K0, M)) = _
    rw [e_X6_canSet_106]
    by_cases p : ¬ (0 ≤ of ∧ of < 6)
    · rw [bi_f p, if_pos rfl, if_neg (by rw [setB_iff]; unfold setOk; omega)]
    have p := Classical.not_not.mp p
    rw [bi_t p, if_neg (by decide), isWithin_ok, Option.bind_some, fin (P := 0 ≤ v ∧ v ≤ 99) (by rw [setB_iff]; unfold setOk; omega)]
    show vr sc (d + 1) c_X6_canSet (115, [(2, 0), (0, w), (0, of), (0, v)], [(0, bi (0 ≤ v ∧ v ≤ 99))], (K0, M)) = _
    rw [e_X6_canSet_115]
    by_cases q : 0 ≤ v ∧ v ≤ 99
    · rw [bi_t q, if_neg (by decide)]
    · rw [bi_f q, if_pos rfl]
  rw [if_neg k4, if_neg (by rw [setB_iff]; unfold setOk; omega)]
theorem set_c {sc : dS} {d : Nat} {M : dM} (hs : Sk M) {t : Tn} (ht : cT M 1 t) (hok : okT t) {xs : List (List Int)} (hx : cXs M xs) (hxs : okXs xs) (hr : (tRule t).toNat < xs.length) (w of v : Int) : ∃ M' : dM, vc sc (d + 9) 60 [(2, 0), (0, w), (0, of), (0, v)] (K0, M) = some ([(0, setF xs t w of v)], (K0, M')) ∧ FT 1 M M' ∧ cT M' 1 (setS t w of v) := by
  rw [vc_s (md := m_X6_set) (L := [(2, 0), (0, w), (0, of), (0, v), (3, 0)]) rfl (Nat.le_of_ble_eq_true rfl) rfl]
  show ∃ M', vr sc (d + 8) c_X6_set (0, [(2, 0), (0, w), (0, of), (0, v), (3, 0)], [], (K0, M)) = _ ∧ _
  have g0 : og K0 6 0 0 = true := rfl
  have m1 := hok.1.2.2.2.2.2
  rw [e_X6_set_0, if_pos (show rg K0 6 0 = true from rfl), canSet_ok (d := d + 6) hs ht, Option.bind_some]
  show ∃ M', vr sc (d + 8) c_X6_set (7, [(2, 0), (0, w), (0, of), (0, v), (3, 0)], [(0, _)], (K0, M)) = _ ∧ _
  rw [e_X6_set_7]
  unfold setF setS
  by_cases p : ¬ setB t w of v = true
  · rw [if_neg p, if_neg (fun z => z rfl), if_neg p, if_neg p]
    exact ⟨M, rfl, FT.rf _ _, ht⟩
  have p := Classical.not_not.mp p
  have so := setB_iff.mp p
  unfold setOk at so
  obtain ⟨M1, a1, a2⟩ := told_c (sc := sc) (d := d) hs ht hok hx hxs hr of w
  have hs1 := a2.sk hs
  have ht1 := ht.fs isT_1 a2
  have f1 := a2.ft 1
  rw [if_pos p, if_pos (by decide), if_pos p, if_pos p, if_pos (show rg K0 6 0 = true from rfl), a1, Option.bind_some]
  show ∃ M', vr sc (d + 8) c_X6_set (19, [(2, 0), (0, w), (0, of), (0, v), (3, 0)], [(0, _)], (K0, M1)) = _ ∧ _
  rw [e_X6_set_19, (Sk_00 hs1).1, (Sk_T hs1 isT_1).2.1, (Sk_T hs1 isT_1).2.2.1, (Sk_T hs1 isT_1).2.2.2.1]
  unfold tSet
  by_cases k0 : w = 0
  · rw [if_pos k0, if_pos k0, if_pos g0, if_pos (og_tn isT_1 (by decide)), if_pos (by omega)]
    exact ⟨_, rfl, f1.tr (FT.up (Or.inl (by decide)) _), cT_dy isT_1 ht1 v⟩
  rw [if_neg k0, if_neg k0]
  by_cases k1 : w = 1
  · rw [if_pos k1, if_pos k1, if_pos g0, if_pos (og_tn isT_1 (by decide)), if_pos (by omega)]
    exact ⟨_, rfl, f1.tr (FT.up (Or.inl (by decide)) _), cT_wt isT_1 ht1 v⟩
  rw [if_neg k1, if_neg k1]
  obtain ⟨n, rfl⟩ : ∃ n : Nat, of = n := ⟨of.toNat, by omega⟩
  by_cases k2 : w = 2
  · rw [if_pos k2, if_pos k2, if_pos g0, if_pos (og_tn isT_1 (by decide)), if_pos (ag_t2 isT_1 (by omega) (by omega))]
    exact ⟨_, rfl, f1.tr (FT.up (Or.inr (Or.inl (by decide))) _), cT_nm isT_1 ht1 v⟩
  rw [if_neg k2, if_neg k2]
  by_cases k3 : w = 3
  · rw [if_pos k3, if_pos k3, if_pos g0, if_pos (og_tn isT_1 (by decide)), if_pos (ag_t3 isT_1 (by omega) (by omega))]
    exact ⟨_, rfl, f1.tr (FT.up (Or.inr (Or.inl (by decide))) _), cT_sk isT_1 ht1 v⟩
  rw [if_neg k3, if_neg k3, if_pos g0, if_pos (og_tn isT_1 (by decide)), if_pos (ag_t4 isT_1 (by omega) (by omega))]
  exact ⟨_, rfl, f1.tr (FT.up (Or.inr (Or.inl (by decide))) _), cT_wk isT_1 ht1 v⟩
def FV (M M' : dM) : Prop := ∀ x k : Int, x ≠ 111 → x ≠ 112 → x ≠ 113 → x ≠ 114 → (x = 107 → k ≠ 4 ∧ k ≠ 7 ∧ k ≠ 8 ∧ k ≠ 12 ∧ (k < 13 ∨ 27 < k) ∧ k ≠ 29) → M' x k = M x k
theorem FV.rf (M : dM) : FV M M := fun _ _ _ _ _ _ _ => rfl
theorem FV.tr {M M1 M2 : dM} (h1 : FV M M1) (h2 : FV M1 M2) : FV M M2 := fun x k g0 g1 g2 g3 g4 => (h2 x k g0 g1 g2 g3 g4).trans (h1 x k g0 g1 g2 g3 g4)
theorem FU.fv {M M' : dM} (h : FU M M') : FV M M' := fun x k g0 g1 _ g3 g4 => h x k g0 g1 g3 fun z => by have := g4 z; omega
theorem RU.fv {M M' : dM} (h : RU M M') : FV M M' := h.fu.fv
theorem FV.sk {M M' : dM} (h : FV M M') (hs : Sk M) : Sk M' := Sk_of hs fun x k hq => by
  have e : ∀ a : Int, SKL.all (fun q => !(q.1 == a)) = true → x ≠ a := fun a ha z => by rw [z, isRf_cell ha] at hq; cases hq
  have e2 : ∀ a : Int, isRf 107 a = false → x = 107 → k ≠ a := fun a ha z y => by rw [z, y, ha] at hq; cases hq
  refine h x k (e 111 (by decide +kernel)) (e 112 (by decide +kernel)) (e 113 (by decide +kernel)) (e 114 (by decide +kernel)) fun z => ⟨e2 4 (by decide +kernel) z, e2 7 (by decide +kernel) z, e2 8 (by decide +kernel) z, e2 12 (by decide +kernel) z, ?_, e2 29 (by decide +kernel) z⟩
  by_cases p : 13 ≤ k ∧ k ≤ 27
  · rw [z, rf_107 k p.1 p.2] at hq; cases hq
  · omega
theorem FV.up7 {M : dM} {k : Int} (h : k = 4 ∨ k = 7 ∨ k = 8 ∨ k = 12) (v : Int) : FV M (d_up M 107 k v) := fun x j _ _ _ _ g => by
  unfold d_up
  rw [if_neg]
  rintro ⟨rfl, rfl⟩
  have := g rfl
  omega
theorem FV.upA {M : dM} {a : Int} (h : a = 111 ∨ a = 112 ∨ a = 113) (k v : Int) : FV M (d_up M a k v) := fun x j g0 g1 g2 _ _ => d_up_n1 _ (by omega)
