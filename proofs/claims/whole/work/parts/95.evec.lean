/-! evenings, class side -/
def tslot (T x k : Int) : Prop := (x = T ∧ 0 ≤ k ∧ k ≤ 3) ∨ (T + 1 ≤ x ∧ x ≤ T + 5) ∨ (T + 7 ≤ x ∧ x ≤ T + 18 ∧ ((x - T) % 2 = 0 ∨ k = 1))
def FT (T : Int) (M M' : dM) : Prop := ∀ x k : Int, ¬ tslot T x k → x ≠ 60 → x ≠ 61 → x ≠ 63 → ¬ (x = 62 ∧ k = 1) → M' x k = M x k
theorem FT.rf (T : Int) (M : dM) : FT T M M := fun _ _ _ _ _ _ _ => rfl
theorem FT.tr {T : Int} {M M1 M2 : dM} (h1 : FT T M M1) (h2 : FT T M1 M2) : FT T M M2 := fun x k g0 g1 g2 g3 g4 => (h2 x k g0 g1 g2 g3 g4).trans (h1 x k g0 g1 g2 g3 g4)
theorem FS.ft {M M' : dM} (h : FS M M') (T : Int) : FT T M M' := fun x k _ g1 g2 g3 g4 => h x k g1 g2 g3 g4
theorem FT.up {T : Int} {M : dM} {x k : Int} (h : tslot T x k) (v : Int) : FT T M (d_up M x k v) := fun y j g _ _ _ _ => by
  unfold d_up
  rw [if_neg]
  rintro ⟨rfl, rfl⟩
  exact g h
theorem tslot_rf {T : Int} (hT : isT T) {x k : Int} (h : tslot T x k) : isRf x k = false := by
  have key : ∀ T ∈ TNL, (∀ k ∈ List.range 4, isRf T ((k : Nat) : Int) = false) ∧ (∀ j ∈ List.range 5, SKL.all (fun q => !(q.1 == T + 1 + ((j : Nat) : Int))) = true) ∧ ∀ f ∈ List.range 6, isRf (T + 7 + 2 * ((f : Nat) : Int)) 1 = false ∧ SKL.all (fun q => !(q.1 == T + 8 + 2 * ((f : Nat) : Int))) = true := by decide +kernel
  obtain ⟨k1, k2, k3⟩ := key T hT
  rcases h with ⟨rfl, h0, h1⟩ | ⟨h0, h1⟩ | ⟨h0, h1, h2⟩
  · have := k1 k.toNat (List.mem_range.mpr (by omega))
    rw [show ((k.toNat : Nat) : Int) = k by omega] at this
    exact this
  · have := k2 (x - T - 1).toNat (List.mem_range.mpr (by omega))
    rw [show T + 1 + (((x - T - 1).toNat : Nat) : Int) = x by omega] at this
    exact isRf_cell this k
  · by_cases e : (x - T) % 2 = 0
    · have := (k3 ((x - T - 8) / 2).toNat (List.mem_range.mpr (by omega))).2
      rw [show T + 8 + 2 * ((((x - T - 8) / 2).toNat : Nat) : Int) = x by omega] at this
      exact isRf_cell this k
    · have k1 : k = 1 := h2.elim (fun z => absurd z e) id
      have := (k3 ((x - T - 7) / 2).toNat (List.mem_range.mpr (by omega))).1
      rw [show T + 7 + 2 * ((((x - T - 7) / 2).toNat : Nat) : Int) = x by omega] at this
      rw [k1]
      exact this
theorem FT.sk {T : Int} (hT : isT T) {M M' : dM} (h : FT T M M') (hs : Sk M) : Sk M' := Sk_of hs fun x k hq => by
  have e : ∀ a : Int, SKL.all (fun q => !(q.1 == a)) = true → x ≠ a := fun a ha z => by rw [z, isRf_cell ha] at hq; cases hq
  refine h x k (fun z => ?_) (e 60 (by decide +kernel)) (e 61 (by decide +kernel)) (e 63 (by decide +kernel)) ?_
  · rw [tslot_rf hT z] at hq; cases hq
  · rintro ⟨rfl, rfl⟩
    rw [show isRf 62 1 = false by decide +kernel] at hq
    cases hq
theorem cXs.ft {T : Int} (hT : isT T) {M M' : dM} {xs : List (List Int)} (h : cXs M xs) (hl : xs.length ≤ 6) (hf : FT T M M') : cXs M' xs := by
  have b := isT_c hT
  have e : ∀ x k : Int, (x = 58 ∨ 64 ≤ x) → M' x k = M x k := fun x k hx => hf x k (fun z => by unfold tslot at z; omega) (by omega) (by omega) (by omega) (by omega)
  exact ⟨(e 58 1 (Or.inl rfl)).trans h.1, fun t ht => (h.2 t ht).fr (fun k => e _ _ (by omega)) (fun k => e _ _ (by omega)) (fun k => e _ _ (by omega)) (fun k => e _ _ (by omega))⟩
theorem cT_sk {M : dM} {T : Int} (hT : isT T) {t : Tn} (ht : cT M T t) {l : Nat} (v : Int) : cT (d_up M (T + 3) l v) T (tSk t l v) := by
  have b := isT_c hT
  have e : ∀ x k : Int, x ≠ T + 3 → d_up M (T + 3) l v x k = M x k := fun x k hx => d_up_n1 _ hx
  refine ⟨⟨(e _ _ (by omega)).trans ht.1.1, (e _ _ (by omega)).trans ht.1.2.1, (e _ _ (by omega)).trans ht.1.2.2.1, (e _ _ (by omega)).trans ht.1.2.2.2⟩, fun j hj => ?_, fun j hj => ?_⟩
  · have k := ht.2.1 j hj
    refine ⟨(e _ _ (by omega)).trans k.1, (e _ _ (by omega)).trans k.2.1, ?_⟩
    show _ = if j = l then v else tSkl t j
    by_cases q : j = l
    · rw [if_pos q, q, d_up_at]
    · rw [if_neg q, d_up_n2 _ (by omega)]; exact k.2.2
  · have k := ht.2.2 j hj
    exact ⟨(e _ _ (by omega)).trans k.1, (e _ _ (by omega)).trans k.2.1, k.2.2.up (e _ _ (by omega)) fun i _ _ => e _ _ (by omega)⟩
theorem cT_un {M : dM} {T : Int} (hT : isT T) {t : Tn} (ht : cT M T t) {f : Nat} : cT (d_up (d_up M (T + 7 + 2 * (f : Int)) 1 0) (T + 5) f (-1)) T (tUn t f) := by
  have b := isT_c hT
  have e : ∀ x k : Int, x ≠ T + 5 → ¬ (x = T + 7 + 2 * (f : Int) ∧ k = 1) → d_up (d_up M (T + 7 + 2 * (f : Int)) 1 0) (T + 5) f (-1) x k = M x k := fun x k h1 h2 => (d_up_n1 _ h1).trans (if_neg h2)
  refine ⟨⟨(e _ _ (by omega) (by omega)).trans ht.1.1, (e _ _ (by omega) (by omega)).trans ht.1.2.1, (e _ _ (by omega) (by omega)).trans ht.1.2.2.1, (e _ _ (by omega) (by omega)).trans ht.1.2.2.2⟩, fun j hj => ?_, fun j hj => ?_⟩
  · have k := ht.2.1 j hj
    exact ⟨(e _ _ (by omega) (by omega)).trans k.1, (e _ _ (by omega) (by omega)).trans k.2.1, (e _ _ (by omega) (by omega)).trans k.2.2⟩
  · have k := ht.2.2 j hj
    refine ⟨(e _ _ (by omega) (by omega)).trans k.1, ?_, ?_⟩
    · show _ = if j = f then -1 else tBy t j
      by_cases q : j = f
      · rw [if_pos q, q, d_up_at]
      · rw [if_neg q, d_up_n2 _ (by omega), d_up_n1 _ (by omega)]; exact k.2.1
    · show KV _ _ _ _ (if j = f then [] else tKn t j)
      by_cases q : j = f
      · rw [if_pos q, q]
        exact ⟨by rw [d_up_n1 _ (by omega), d_up_at]; rfl, rfl⟩
      · rw [if_neg q]
        exact k.2.2.up (e _ _ (by omega) (by omega)) fun i _ _ => e _ _ (by omega) (by omega)
theorem cT_dy {M : dM} {T : Int} (hT : isT T) {t : Tn} (ht : cT M T t) (v : Int) : cT (d_up M T 0 v) T (tDy t v) := by
  have b := isT_c hT
  have e : ∀ x k : Int, ¬ (x = T ∧ k = 0) → d_up M T 0 v x k = M x k := fun x k h => if_neg h
  refine ⟨⟨d_up_at _ _ _ _, (e _ _ (by omega)).trans ht.1.2.1, (e _ _ (by omega)).trans ht.1.2.2.1, (e _ _ (by omega)).trans ht.1.2.2.2⟩, fun j hj => ?_, fun j hj => ?_⟩
  · have k := ht.2.1 j hj
    exact ⟨(e _ _ (by omega)).trans k.1, (e _ _ (by omega)).trans k.2.1, (e _ _ (by omega)).trans k.2.2⟩
  · have k := ht.2.2 j hj
    exact ⟨(e _ _ (by omega)).trans k.1, (e _ _ (by omega)).trans k.2.1, k.2.2.up (e _ _ (by omega)) fun i _ _ => e _ _ (by omega)⟩
theorem psB_no {xs : List (List Int)} {t : Tn} {f : Nat} (h : ¬ 0 ≤ tBy t f) : psB xs t f = false := by
  unfold psB
  rw [decide_eq_false h]
  rfl
theorem psB_iff {xs : List (List Int)} {t : Tn} {f : Nat} (h : 0 ≤ tBy t f) : psB xs t f = true ↔ tWlk t f ≤ strF xs t (tBy t f).toNat f (tno t f) := by
  unfold psB
  rw [decide_eq_true h, Bool.true_and, decide_eq_true_iff]
theorem passing_loop {sc : dS} {d : Nat} {T : Int} (hT : isT T) {t : Tn} (hok : okT t) {xs : List (List Int)} (hxs : okXs xs) (hr : (tRule t).toNat < xs.length) : ∀ (m i : Nat) (M : dM), 6 - i = m → i ≤ 6 → Sk M → cT M T t → cXs M xs →
    ∃ M' : dM, vr sc (d + 6) c_X2_passing (4, [(2, 58), (2, T), (0, pset (psB xs t) i), (0, (i : Int))], [], (K0, M)) = some ([(0, pset (psB xs t) 6)], (K0, M')) ∧ FS M M' := by
  intro m
  induction m with
  | zero =>
    intro i M hm hi hs ht hx
    have e : i = 6 := by omega
    subst e
    rw [e_X2_passing_4, if_pos (by decide)]
    exact ⟨M, rfl, FS.rf _⟩
  | succ m ih =>
    intro i M hm hi hs ht hx
    have hi' : i < 6 := by omega
    have o3 := hok.2.2 i hi'
    have kt := ht.2.2 i hi'
    rw [e_X2_passing_4, if_neg (by omega), if_pos (rg_tn hT), isTied_ok (d := d + 4) hs hT hi', Option.bind_some, kt.2.1, ht.1.2.2.2]
    show ∃ M', vr sc (d + 6) c_X2_passing (15, [(2, 58), (2, T), (0, pset (psB xs t) i), (0, (i : Int))], [(0, bi (0 ≤ tBy t i ∧ tBy t i < (tMany t : Int)))], (K0, M)) = _ ∧ _
    rw [e_X2_passing_15]
    by_cases p : ¬ 0 ≤ tBy t i
    · have e : pset (psB xs t) (i + 1) = pset (psB xs t) i := if_neg (by rw [psB_no p]; decide)
      obtain ⟨M', a1, a2⟩ := ih (i + 1) M (by omega) (by omega) hs ht hx
      rw [e] at a1
      rw [bi_f (fun z => p z.1), if_pos rfl, w_s i (by omega)]
      exact ⟨M', a1, a2⟩
    have p := Classical.not_not.mp p
    obtain ⟨l, hl⟩ : ∃ n : Nat, tBy t i = n := ⟨(tBy t i).toNat, by omega⟩
    have hlm : l < tMany t := by omega
    have kn := isT_kn hT hi'
    obtain ⟨M1, a1, a2⟩ := turns_ok (sc := sc) (d := d + 2) kn hs o3.2.2.2.2.1 kt.2.2
    have ht1 := ht.fs hT a2.fs
    have hs1 := a2.fs.sk hs
    have hx1 := hx.fs hxs.1 a2.fs
    have hn12 := pr_len hok hi'
    rw [bi_t ⟨p, o3.2.2.2.1⟩, if_neg (by decide), if_pos (og_tn hT (by decide)), (Sk_T hs hT).2.2.2.2.1, if_pos (ag_t5 hT (by omega) (by omega)), if_pos (og_tn hT (by decide)), (Sk_T hs hT).2.2.2.2.2, if_pos (ag_t6 hT (by omega) (by omega)), if_pos (show rg K0 2 58 = true from rfl), Sk_Tk hs hT hi', a1, Option.bind_some, kt.2.1, hl]
    show ∃ M', vr sc (d + 6) c_X2_passing (37, [(2, 58), (2, T), (0, pset (psB xs t) i), (0, (i : Int))], [(0, ((tno t i : Nat) : Int)), (0, (i : Int)), (0, (l : Int)), (2, T), (2, 58)], (K0, M1)) = _ ∧ _
    obtain ⟨M2, b1, b2⟩ := strength_ok (sc := sc) (d := d) hs1 hT ht1 hok hx1 hxs hr hlm hi' (n := tno t i) (by unfold tno; omega)
    have ht2 := ht1.fs hT b2
    have hs2 := b2.sk hs1
    have hx2 := hx1.fs hxs.1 b2
    rw [e_X2_passing_37, if_pos (show rg K0 2 58 = true from rfl), b1, Option.bind_some]
    show ∃ M', vr sc (d + 6) c_X2_passing (40, [(2, 58), (2, T), (0, pset (psB xs t) i), (0, (i : Int))], [(0, strF xs t l i (tno t i))], (K0, M2)) = _ ∧ _
    rw [e_X2_passing_40, if_pos (og_tn hT (by decide)), (Sk_T hs2 hT).2.2.2.1, if_pos (ag_t4 hT (by omega) (by omega)), (ht2.2.2 i hi').1]
    obtain ⟨M', c1, c2⟩ := ih (i + 1) M2 (by omega) (by omega) hs2 ht2 hx2
    have pi := psB_iff (xs := xs) p
    rw [hl, Int.toNat_natCast] at pi
    by_cases q : strF xs t l i (tno t i) < tWlk t i
    · have e : pset (psB xs t) (i + 1) = pset (psB xs t) i := if_neg (fun z => by have := pi.mp z; omega)
      rw [e] at c1
      rw [if_pos q, w_s i (by omega)]
      exact ⟨M', c1, (a2.fs.tr b2).tr c2⟩
    · have e : pset (psB xs t) (i + 1) = i_or (pset (psB xs t) i) (i_shl 1 i) := if_pos (pi.mpr (by omega))
      rw [e] at c1
      rw [if_neg q, w_s i (by omega)]
      exact ⟨M', c1, (a2.fs.tr b2).tr c2⟩
theorem passing_ok {sc : dS} {d : Nat} {M : dM} (hs : Sk M) {T : Int} (hT : isT T) {t : Tn} (ht : cT M T t) (hok : okT t) {xs : List (List Int)} (hx : cXs M xs) (hxs : okXs xs) (hr : (tRule t).toNat < xs.length) : ∃ M' : dM, vc sc (d + 7) 40 [(2, 58), (2, T)] (K0, M) = some ([(0, pset (psB xs t) 6)], (K0, M')) ∧ FS M M' := by
  rw [vc_s (md := m_X2_passing) (L := [(2, 58), (2, T), (3, 0), (3, 0)]) rfl (Nat.le_of_ble_eq_true rfl) rfl]
  show ∃ M', vr sc (d + 6) c_X2_passing (0, [(2, 58), (2, T), (3, 0), (3, 0)], [], (K0, M)) = _ ∧ _
  rw [e_X2_passing_0]
  exact passing_loop hT hok hxs hr 6 0 M rfl (by omega) hs ht hx
