/-! lasts, image, back: reference side; taken, both sides -/
def lrF (xs : List (List Int)) (f n : Nat) (t : Tn) : Int := if 40 < n then -1 else if 0 ≤ tBy t f then lstI xs f (40 - n) (n + 1) t else (n : Int)
theorem lrF_s {xs : List (List Int)} {f n : Nat} {t : Tn} (hn : n ≤ 40) (hb : 0 ≤ tBy t f) : lrF xs f n t = lrF xs f (n + 1) (evS xs t) := by
  unfold lrF
  rw [if_neg (by omega), if_pos hb]
  by_cases e : n = 40
  · subst e
    rw [if_pos (by omega)]
    rfl
  · rw [if_neg (by omega), show 40 - n = (40 - (n + 1)) + 1 by omega]
    rfl
theorem lasts_loop_r {sc : dS} {d : Nat} {xs : List (List Int)} (hxs : okXs xs) {f : Nat} (hf : f < 6) : ∀ (m n : Nat) (M : dM) (t : Tn), 41 - n = m → n ≤ 41 → Sk M → rT M t → okT t → tDay t + m ≤ 99999 → rXs M xs → (tRule t).toNat < xs.length →
    ∃ (M' : dM) (n' : Nat) (t' : Tn), vr sc (d + 52) c_X7_lasts (33, [(2, 107), (0, (f : Int)), (0, (n : Int))], [], (K0, M)) = vr sc (d + 52) c_X7_lasts (33, [(2, 107), (0, (f : Int)), (0, (n' : Int))], [], (K0, M')) ∧ FU M M' ∧ Sk M' ∧ rT M' t' ∧ okT t' ∧ n' ≤ 41 ∧ (40 < n' ∨ ¬ 0 ≤ tBy t' f) ∧ lrF xs f n t = (if n' ≤ 40 then (n' : Int) else -1) := by
  intro m
  induction m with
  | zero =>
    intro n M t hm hn hs ht hok hd hx hr
    refine ⟨M, n, t, rfl, FU.rf _, hs, ht, hok, hn, Or.inl (by omega), ?_⟩
    unfold lrF
    rw [if_pos (by omega), if_neg (by omega)]
  | succ m ih =>
    intro n M t hm hn hs ht hok hd hx hr
    by_cases q : 0 ≤ tBy t f
    · have o3 := hok.2.2 f hf
      obtain ⟨M1, a1, a2, a3⟩ := passes_ok (sc := sc) (d := d + 1) hs ht hok (by omega) hx hxs hr
      have e := evS_1 xs t
      obtain ⟨M2, n', t', b1, b2, b3, b4, b5, b6, b7, b8⟩ := ih (n + 1) M1 (evS xs t) (by omega) (by omega) (a2.sk hs) a3 (okT_evS hok (by omega)) (by rw [e.1]; omega) (hx.fu a2) (by rw [e.2.2.1]; exact hr)
      have w31 : w32 (w32 (3 * (f : Int)) + 1) = ((3 * f + 1 : Nat) : Int) := w_t3 f 1 (by omega) (by omega)
      refine ⟨M2, n', t', ?_, a2.tr b2, b3, b4, b5, b6, b7, (lrF_s (by omega) q).trans b8⟩
      rw [e_X7_lasts_33, if_neg (show ¬ (40 : Int) < n by clear w31; omega), if_pos (show og K0 7 107 10 = true from rfl), w31, (Sk_m10 hs).1]
      clear w31
      rw [if_pos (ag_112 (by omega) (by omega)), (ht.2.2 f hf).2.1, if_neg (by omega), if_pos (show rg K0 7 107 = true from rfl), a1, Option.bind_some]
      show vr sc (d + 52) c_X7_lasts (57, [(2, 107), (0, (f : Int)), (0, (n : Int))], [(0, _)], (K0, M1)) = _
      rw [e_X7_lasts_57, w_s n (by omega)]
      exact b1
    · refine ⟨M, n, t, rfl, FU.rf _, hs, ht, hok, hn, Or.inr q, ?_⟩
      unfold lrF
      rw [if_neg (by omega), if_neg q, if_pos (by omega)]
theorem lasts_r {sc : dS} {d : Nat} {M : dM} (hs : Sk M) {t : Tn} (ht : rT M t) (hok : okT t) (hd : tDay t ≤ 999) {xs : List (List Int)} (hx : rXs M xs) (hxs : okXs xs) (hr : (tRule t).toNat < xs.length) (y : Int) : ∃ M' : dM, vc sc (d + 53) 177 [(2, 107), (0, y)] (K0, M) = some ([(0, lastF xs t y)], (K0, M')) ∧ Sk M' ∧ FW M M' ∧ rT M' t := by
  rw [vc_s (md := m_X7_lasts) (L := [(2, 107), (0, y), (3, 0)]) rfl (Nat.le_of_ble_eq_true rfl) rfl]
  show ∃ M', vr sc (d + 52) c_X7_lasts (0, [(2, 107), (0, y), (3, 0)], [], (K0, M)) = _ ∧ _
  have rg1 : rg K0 7 107 = true := rfl
  have f0 : FW M M := fun _ _ _ _ _ _ _ => rfl
  rw [e_X7_lasts_0, isFoot7_ok (d := d + 50), Option.bind_some]
  show ∃ M', vr sc (d + 52) c_X7_lasts (4, [(2, 107), (0, y), (3, 0)], [(0, _)], (K0, M)) = _ ∧ _
  rw [e_X7_lasts_4]
  unfold lastF
  by_cases p : ¬ (0 ≤ y ∧ y < 6)
  · rw [bi_f p, if_neg (fun z => z rfl), if_neg p]
    exact ⟨M, rfl, hs, f0, ht⟩
  have p := Classical.not_not.mp p
  obtain ⟨f, rfl⟩ : ∃ n : Nat, y = n := ⟨y.toNat, by omega⟩
  have hf : f < 6 := by omega
  have o3 := hok.2.2 f hf
  have w31 : w32 (w32 (3 * (f : Int)) + 1) = ((3 * f + 1 : Nat) : Int) := w_t3 f 1 (by omega) (by omega)
  rw [bi_t p, if_pos (by decide), if_pos p, Int.toNat_natCast, if_pos (show og K0 7 107 10 = true from rfl), (Sk_m10 hs).1, w31]
  clear w31
  rw [if_pos (ag_112 (by omega) (by omega)), (ht.2.2 f hf).2.1]
  by_cases q : ¬ 0 ≤ tBy t f
  · rw [if_neg (by omega), if_neg q]
    exact ⟨M, rfl, hs, f0, ht⟩
  have q := Classical.not_not.mp q
  obtain ⟨M1, a1, a2, a3, a4⟩ := aside_ok (sc := sc) (d := d + 51) hs
  have ht1 : rT M1 t := rT_cg ht hok (a3 _ _ (by decide)) (a3 _ _ (by decide)) (a3 _ _ (by decide)) (a3 _ _ (by decide)) (fun i _ => a3 _ _ (by decide)) (fun i _ => a3 _ _ (by decide)) (fun k => a3 _ _ (by decide))
  have hx1 : rXs M1 xs := ⟨(a3 _ _ (by decide)).trans hx.1, fun j hj => ⟨(a3 _ _ (by decide)).trans (hx.2 j hj).1, fun i hi => (a3 _ _ (by decide)).trans ((hx.2 j hj).2 i hi)⟩⟩
  rw [if_pos (by omega), if_pos q, if_pos rg1, a1, Option.bind_some]
  show ∃ M', vr sc (d + 52) c_X7_lasts (31, [(2, 107), (0, (f : Int)), (3, 0)], [], (K0, M1)) = _ ∧ _
  obtain ⟨M2, n', t', b1, b2, b3, b4, b5, b6, b7, b8⟩ := lasts_loop_r (sc := sc) (d := d) hxs hf 41 0 M1 t rfl (by omega) a2 ht1 hok (by omega) hx1 hr
  obtain ⟨M3, c1, c2, c3, c4⟩ := aside_back (sc := sc) (d := d + 51) ht hok a3 a4 b2 b3
  have e8 : lrF xs f 0 t = lstI xs f 40 1 t := by
    unfold lrF
    rw [if_neg (by omega), if_pos q]
  rw [e8] at b8
  have fin : vr sc (d + 52) c_X7_lasts (68, [(2, 107), (0, (f : Int)), (0, (n' : Int))], [], (K0, M3)) = some ([(0, lstI xs f 40 1 t)], (K0, M3)) := by
    rw [e_X7_lasts_68, b8]
    by_cases z : n' ≤ 40
    · rw [if_pos (by omega), if_pos z]
    · rw [if_neg (by omega), if_neg z]
  rw [e_X7_lasts_31, show vr sc (d + 52) c_X7_lasts (33, [(2, 107), (0, (f : Int)), (0, 0)], [], (K0, M1)) = _ from b1, e_X7_lasts_33]
  refine ⟨M3, ?_, c2, c3, c4⟩
  by_cases z : 40 < n'
  · rw [if_pos (by omega), if_pos rg1, c1, Option.bind_some]
    exact fin
  · have o3' := b5.2.2 f hf
    have w31 : w32 (w32 (3 * (f : Int)) + 1) = ((3 * f + 1 : Nat) : Int) := w_t3 f 1 (by omega) (by omega)
    rw [if_neg (by clear w31; omega), if_pos (show og K0 7 107 10 = true from rfl), (Sk_m10 b3).1, w31]
    clear w31
    rw [if_pos (ag_112 (by omega) (by omega)), (b4.2.2 f hf).2.1, if_pos (by omega), if_pos rg1, c1, Option.bind_some]
    exact fin
def kT (M : dM) (t : Tn) : Prop := (M 107 39 = tDay t ∧ M 107 40 = tWet t ∧ M 107 41 = tRule t ∧ M 107 38 = (tMany t : Int)) ∧
  (∀ l : Nat, l < 5 → M 118 ((3 * l : Nat) : Int) = tNum t l ∧ M 118 ((3 * l + 1 : Nat) : Int) = tSkl t l ∧ M 118 ((3 * l + 2 : Nat) : Int) = tKind t l) ∧
  ∀ f : Nat, f < 6 → M 119 ((3 * f : Nat) : Int) = tWlk t f ∧ M 119 ((3 * f + 1 : Nat) : Int) = tBy t f ∧ M 119 ((3 * f + 2 : Nat) : Int) = (tKn t f).length ∧ ∀ (k : Nat) (h : k < (tKn t f).length), M 120 ((12 * f + k : Nat) : Int) = (tKn t f)[k]
def rKp (M : dM) (ko : Option Tn) : Prop := match ko with
  | none => M 107 38 = -1
  | some k => kT M k
def FI (M M' : dM) : Prop := ∀ x k : Int, x ≠ 118 → x ≠ 119 → x ≠ 120 → (x = 107 → k < 38 ∨ 41 < k) → M' x k = M x k
theorem rf_kept : isRf 107 38 = false ∧ isRf 107 39 = false ∧ isRf 107 40 = false ∧ isRf 107 41 = false ∧ isRf 107 12 = false ∧ isRf 107 7 = false ∧ isRf 107 8 = false ∧ isRf 107 4 = false := by decide +kernel
theorem Sk_slot {k : Int} (h : isRf 107 k = false) (M : dM) (v : Int) (hs : Sk M) : Sk (d_up M 107 k v) := Sk_of hs fun x j hq => if_neg (by
  rintro ⟨rfl, rfl⟩
  rw [h] at hq
  cases hq)
theorem image_r {sc : dS} {d : Nat} {M : dM} (hs : Sk M) {t : Tn} (ht : rT M t) (hok : okT t) : ∃ M' : dM, vc sc (d + 1) 193 [(2, 107)] (K0, M) = some ([(0, (tMany t : Int))], (K0, M')) ∧ Sk M' ∧ FI M M' ∧ rKp M' (some t) := by
  have o1 := hok.1
  rw [vc_s (md := m_X7_image) (L := [(2, 107), (3, 0)]) rfl (Nat.le_of_ble_eq_true rfl) rfl]
  show ∃ M', vr sc d c_X7_image (0, [(2, 107), (3, 0)], [], (K0, M)) = _ ∧ _
  have c118 : sRf 118 := by unfold sRf; decide +kernel
  have c119 : sRf 119 := by unfold sRf; decide +kernel
  have c120 : sRf 120 := by unfold sRf; decide +kernel
  obtain ⟨M1, a1, a2, a3, a4, a5⟩ := cploop (H := fun (M : dM) (i : Nat) => vr sc d c_X7_image (2, [(2, 107), (0, (i : Int))], [], (K0, M))) (src := 111) (dst := 118) (o := 0) (p := 0) (n := 15) (by decide) (P := Sk) (fun N k v h => Sk_cell c118 N k v h) (fun N i h hi => by
    rw [e_X7_image_2, if_neg (by omega), if_pos (show og K0 7 107 35 = true from rfl), if_pos (show og K0 7 107 9 = true from rfl), Sk_m9b h, (Sk_r2 h).2.1, if_pos (ag_of (n := 15) rfl (by omega) (by omega)), if_pos (ag_of (n := 15) rfl (by omega) (by omega)), w_s i (by omega), Nat.zero_add]) 15 0 M rfl (by omega) hs
  obtain ⟨M2, b1, b2, b3, b4, b5⟩ := cploop (H := fun (M : dM) (i : Nat) => vr sc d c_X7_image (28, [(2, 107), (0, (i : Int))], [], (K0, M))) (src := 112) (dst := 119) (o := 0) (p := 0) (n := 18) (by decide) (P := Sk) (fun N k v h => Sk_cell c119 N k v h) (fun N i h hi => by
    rw [e_X7_image_28, if_neg (by omega), if_pos (show og K0 7 107 36 = true from rfl), if_pos (show og K0 7 107 10 = true from rfl), (Sk_m10 h).1, (Sk_r2 h).2.2.1, if_pos (ag_112 (by omega) (by omega)), if_pos (ag_of (n := 18) rfl (by omega) (by omega)), w_s i (by omega), Nat.zero_add]) 18 0 M1 rfl (by omega) a2
  obtain ⟨M3, c1, c2, c3, c4, c5⟩ := cploop (H := fun (M : dM) (i : Nat) => vr sc d c_X7_image (54, [(2, 107), (0, (i : Int))], [], (K0, M))) (src := 113) (dst := 120) (o := 0) (p := 0) (n := 72) (by decide) (P := Sk) (fun N k v h => Sk_cell c120 N k v h) (fun N i h hi => by
    rw [e_X7_image_54, if_neg (by omega), if_pos (show og K0 7 107 37 = true from rfl), if_pos (show og K0 7 107 11 = true from rfl), (Sk_m10 h).2, (Sk_r2 h).2.2.2, if_pos (ag_113 (by omega) (by omega)), if_pos (ag_of (n := 72) rfl (by omega) (by omega)), w_s i (by omega), Nat.zero_add]) 72 0 M2 rfl (by omega) b2
  have e15 : vr sc d c_X7_image (2, [(2, 107), (0, ((15 : Nat) : Int))], [], (K0, M1)) = vr sc d c_X7_image (28, [(2, 107), (0, 0)], [], (K0, M1)) := by rw [e_X7_image_2, if_pos (by decide)]
  have e18 : vr sc d c_X7_image (28, [(2, 107), (0, ((18 : Nat) : Int))], [], (K0, M2)) = vr sc d c_X7_image (54, [(2, 107), (0, 0)], [], (K0, M2)) := by rw [e_X7_image_28, if_pos (by decide)]
  have e3 : ∀ x k : Int, x ≠ 118 → x ≠ 119 → x ≠ 120 → M3 x k = M x k := fun x k h0 h1 h2 => (c3 x k h2).trans ((b3 x k h1).trans (a3 x k h0))
  rw [e_X7_image_0, show vr sc d c_X7_image (2, [(2, 107), (0, 0)], [], (K0, M)) = _ from a1, e15, show vr sc d c_X7_image (28, [(2, 107), (0, 0)], [], (K0, M1)) = _ from b1, e18, show vr sc d c_X7_image (54, [(2, 107), (0, 0)], [], (K0, M2)) = _ from c1, e_X7_image_54, if_pos (by decide), if_pos (show og K0 7 107 12 = true from rfl), if_pos (show og K0 7 107 38 = true from rfl), e3 107 12 (by decide) (by decide) (by decide), ht.1.2.2.2, if_pos ⟨by omega, by omega⟩, if_pos (show og K0 7 107 7 = true from rfl), if_pos (show og K0 7 107 39 = true from rfl), d_up_n2 _ (show (7 : Int) ≠ 38 by decide), e3 107 7 (by decide) (by decide) (by decide), ht.1.1, if_pos ⟨by omega, by omega⟩, if_pos (show og K0 7 107 8 = true from rfl), if_pos (show og K0 7 107 40 = true from rfl), d_up_n2 _ (show (8 : Int) ≠ 39 by decide), d_up_n2 _ (show (8 : Int) ≠ 38 by decide), e3 107 8 (by decide) (by decide) (by decide), ht.1.2.1, if_pos ⟨by omega, by omega⟩, if_pos (show og K0 7 107 4 = true from rfl), if_pos (show og K0 7 107 41 = true from rfl), d_up_n2 _ (show (4 : Int) ≠ 40 by decide), d_up_n2 _ (show (4 : Int) ≠ 39 by decide), d_up_n2 _ (show (4 : Int) ≠ 38 by decide), e3 107 4 (by decide) (by decide) (by decide), ht.1.2.2.1, if_pos ⟨by omega, by omega⟩, if_pos (show og K0 7 107 12 = true from rfl), d_up_n2 _ (show (12 : Int) ≠ 41 by decide), d_up_n2 _ (show (12 : Int) ≠ 40 by decide), d_up_n2 _ (show (12 : Int) ≠ 39 by decide), d_up_n2 _ (show (12 : Int) ≠ 38 by decide), e3 107 12 (by decide) (by decide) (by decide), ht.1.2.2.2]
  have r := rf_kept
  have e4 : ∀ x k : Int, (x = 107 → k < 38 ∨ 41 < k) → (d_up (d_up (d_up (d_up M3 107 38 (tMany t : Int)) 107 39 (tDay t)) 107 40 (tWet t)) 107 41 (tRule t)) x k = M3 x k := fun x k h => (if_neg (by omega)).trans ((if_neg (by omega)).trans ((if_neg (by omega)).trans (if_neg (by omega))))
  refine ⟨_, rfl, Sk_slot r.2.2.2.1 _ _ (Sk_slot r.2.2.1 _ _ (Sk_slot r.2.1 _ _ (Sk_slot r.1 _ _ c2))), fun x k h0 h1 h2 h3 => (e4 x k h3).trans (e3 x k h0 h1 h2), ⟨?_, ?_, d_up_at _ _ _ _, ?_⟩, fun l hl => ?_, fun f hf => ?_⟩
  · rw [d_up_n2 _ (by decide), d_up_n2 _ (by decide), d_up_at]
  · rw [d_up_n2 _ (by decide), d_up_at]
  · rw [d_up_n2 _ (by decide), d_up_n2 _ (by decide), d_up_n2 _ (by decide), d_up_at]
  · have g : ∀ i : Nat, i < 15 → (d_up (d_up (d_up (d_up M3 107 38 (tMany t : Int)) 107 39 (tDay t)) 107 40 (tWet t)) 107 41 (tRule t)) 118 (i : Int) = M 111 (i : Int) := fun i hi => by
      have := a5 i (by omega) hi
      rw [Nat.zero_add] at this
      rw [e4 _ _ (by omega), c3 _ _ (by decide), b3 _ _ (by decide)]
      exact this
    have k := ht.2.1 l hl
    exact ⟨(g _ (by omega)).trans k.1, (g _ (by omega)).trans k.2.1, (g _ (by omega)).trans k.2.2⟩
  · have g : ∀ i : Nat, i < 18 → (d_up (d_up (d_up (d_up M3 107 38 (tMany t : Int)) 107 39 (tDay t)) 107 40 (tWet t)) 107 41 (tRule t)) 119 (i : Int) = M 112 (i : Int) := fun i hi => by
      have := b5 i (by omega) hi
      rw [Nat.zero_add] at this
      rw [e4 _ _ (by omega), c3 _ _ (by decide), this]
      exact a3 _ _ (by decide)
    have g2 : ∀ i : Nat, i < 72 → (d_up (d_up (d_up (d_up M3 107 38 (tMany t : Int)) 107 39 (tDay t)) 107 40 (tWet t)) 107 41 (tRule t)) 120 (i : Int) = M 113 (i : Int) := fun i hi => by
      have := c5 i (by omega) hi
      rw [Nat.zero_add] at this
      rw [e4 _ _ (by omega), this, b3 _ _ (by decide)]
      exact a3 _ _ (by decide)
    have k := ht.2.2 f hf
    have l12 := (hok.2.2 f hf).2.2.2.2.1
    exact ⟨(g _ (by omega)).trans k.1, (g _ (by omega)).trans k.2.1, (g _ (by omega)).trans k.2.2.1, fun i hi => (g2 _ (by omega)).trans (k.2.2.2 i hi)⟩
theorem back_r {sc : dS} {d : Nat} {M : dM} (hs : Sk M) {t : Tn} (ht : rT M t) {ko : Option Tn} (hk : rKp M ko) (hok : ∀ k, ko = some k → okT k) : ∃ M' : dM, vc sc (d + 1) 194 [(2, 107)] (K0, M) = some ([(0, backF ko)], (K0, M')) ∧ Sk M' ∧ FV M M' ∧ rT M' (backS ko t) := by
  rw [vc_s (md := m_X7_back) (L := [(2, 107), (3, 0)]) rfl (Nat.le_of_ble_eq_true rfl) rfl]
  show ∃ M', vr sc d c_X7_back (0, [(2, 107), (3, 0)], [], (K0, M)) = _ ∧ _
  rw [e_X7_back_0, if_pos (show og K0 7 107 38 = true from rfl)]
  cases ko with
  | none =>
    have h0 : M 107 38 = -1 := hk
    rw [h0, if_neg (fun z => z rfl)]
    exact ⟨M, rfl, hs, FV.rf _, ht⟩
  | some u =>
    have hu : kT M u := hk
    have ou := hok u rfl
    have o1 := ou.1
    rw [hu.1.2.2.2, if_pos (by omega)]
    have c111 : sRf 111 := by unfold sRf; decide +kernel
    have c112 : sRf 112 := by unfold sRf; decide +kernel
    have c113 : sRf 113 := by unfold sRf; decide +kernel
    obtain ⟨M1, a1, a2, a3, a4, a5⟩ := cploop (H := fun (M : dM) (i : Nat) => vr sc d c_X7_back (13, [(2, 107), (0, (i : Int))], [], (K0, M))) (src := 118) (dst := 111) (o := 0) (p := 0) (n := 15) (by decide) (P := Sk) (fun N k v h => Sk_cell c111 N k v h) (fun N i h hi => by
      rw [e_X7_back_13, if_neg (by omega), if_pos (show og K0 7 107 9 = true from rfl), if_pos (show og K0 7 107 35 = true from rfl), Sk_m9b h, (Sk_r2 h).2.1, if_pos (ag_of (n := 15) rfl (by omega) (by omega)), if_pos (ag_of (n := 15) rfl (by omega) (by omega)), w_s i (by omega), Nat.zero_add]) 15 0 M rfl (by omega) hs
    obtain ⟨M2, b1, b2, b3, b4, b5⟩ := cploop (H := fun (M : dM) (i : Nat) => vr sc d c_X7_back (39, [(2, 107), (0, (i : Int))], [], (K0, M))) (src := 119) (dst := 112) (o := 0) (p := 0) (n := 18) (by decide) (P := Sk) (fun N k v h => Sk_cell c112 N k v h) (fun N i h hi => by
      rw [e_X7_back_39, if_neg (by omega), if_pos (show og K0 7 107 10 = true from rfl), if_pos (show og K0 7 107 36 = true from rfl), (Sk_m10 h).1, (Sk_r2 h).2.2.1, if_pos (ag_of (n := 18) rfl (by omega) (by omega)), if_pos (ag_112 (by omega) (by omega)), w_s i (by omega), Nat.zero_add]) 18 0 M1 rfl (by omega) a2
    obtain ⟨M3, c1, c2, c3, c4, c5⟩ := cploop (H := fun (M : dM) (i : Nat) => vr sc d c_X7_back (65, [(2, 107), (0, (i : Int))], [], (K0, M))) (src := 120) (dst := 113) (o := 0) (p := 0) (n := 72) (by decide) (P := Sk) (fun N k v h => Sk_cell c113 N k v h) (fun N i h hi => by
      rw [e_X7_back_65, if_neg (by omega), if_pos (show og K0 7 107 11 = true from rfl), if_pos (show og K0 7 107 37 = true from rfl), (Sk_m10 h).2, (Sk_r2 h).2.2.2, if_pos (ag_of (n := 72) rfl (by omega) (by omega)), if_pos (ag_113 (by omega) (by omega)), w_s i (by omega), Nat.zero_add]) 72 0 M2 rfl (by omega) b2
    have e15 : vr sc d c_X7_back (13, [(2, 107), (0, ((15 : Nat) : Int))], [], (K0, M1)) = vr sc d c_X7_back (39, [(2, 107), (0, 0)], [], (K0, M1)) := by rw [e_X7_back_13, if_pos (by decide)]
    have e18 : vr sc d c_X7_back (39, [(2, 107), (0, ((18 : Nat) : Int))], [], (K0, M2)) = vr sc d c_X7_back (65, [(2, 107), (0, 0)], [], (K0, M2)) := by rw [e_X7_back_39, if_pos (by decide)]
    have e3 : ∀ x k : Int, x ≠ 111 → x ≠ 112 → x ≠ 113 → M3 x k = M x k := fun x k h0 h1 h2 => (c3 x k h2).trans ((b3 x k h1).trans (a3 x k h0))
    rw [show vr sc d c_X7_back (13, [(2, 107), (0, 0)], [], (K0, M)) = _ from a1, e15, show vr sc d c_X7_back (39, [(2, 107), (0, 0)], [], (K0, M1)) = _ from b1, e18, show vr sc d c_X7_back (65, [(2, 107), (0, 0)], [], (K0, M2)) = _ from c1, e_X7_back_65, if_pos (by decide), if_pos (show og K0 7 107 38 = true from rfl), if_pos (show og K0 7 107 12 = true from rfl), e3 107 38 (by decide) (by decide) (by decide), hu.1.2.2.2, if_pos ⟨by omega, by omega⟩, if_pos (show og K0 7 107 39 = true from rfl), if_pos (show og K0 7 107 7 = true from rfl), d_up_n2 _ (show (39 : Int) ≠ 12 by decide), e3 107 39 (by decide) (by decide) (by decide), hu.1.1, if_pos ⟨by omega, by omega⟩, if_pos (show og K0 7 107 40 = true from rfl), if_pos (show og K0 7 107 8 = true from rfl), d_up_n2 _ (show (40 : Int) ≠ 7 by decide), d_up_n2 _ (show (40 : Int) ≠ 12 by decide), e3 107 40 (by decide) (by decide) (by decide), hu.1.2.1, if_pos ⟨by omega, by omega⟩, if_pos (show og K0 7 107 41 = true from rfl), if_pos (show og K0 7 107 4 = true from rfl), d_up_n2 _ (show (41 : Int) ≠ 8 by decide), d_up_n2 _ (show (41 : Int) ≠ 7 by decide), d_up_n2 _ (show (41 : Int) ≠ 12 by decide), e3 107 41 (by decide) (by decide) (by decide), hu.1.2.2.1, if_pos ⟨by omega, by omega⟩, if_pos (show og K0 7 107 12 = true from rfl), d_up_n2 _ (show (12 : Int) ≠ 4 by decide), d_up_n2 _ (show (12 : Int) ≠ 8 by decide), d_up_n2 _ (show (12 : Int) ≠ 7 by decide), d_up_at]
    have r := rf_kept
    have e4 : ∀ x k : Int, x ≠ 107 → (d_up (d_up (d_up (d_up M3 107 12 (tMany u : Int)) 107 7 (tDay u)) 107 8 (tWet u)) 107 4 (tRule u)) x k = M3 x k := fun x k h => (d_up_n1 _ h).trans ((d_up_n1 _ h).trans ((d_up_n1 _ h).trans (d_up_n1 _ h)))
    refine ⟨_, rfl, Sk_slot r.2.2.2.2.2.2.2 _ _ (Sk_slot r.2.2.2.2.2.2.1 _ _ (Sk_slot r.2.2.2.2.2.1 _ _ (Sk_slot r.2.2.2.2.1 _ _ c2))), fun x k h0 h1 h2 _ h3 => ?_, ⟨?_, ?_, d_up_at _ _ _ _, ?_⟩, fun l hl => ?_, fun f hf => ?_⟩
    · refine Eq.trans ?_ (e3 x k h0 h1 h2)
      exact (if_neg (by omega)).trans ((if_neg (by omega)).trans ((if_neg (by omega)).trans (if_neg (by omega))))
    · rw [d_up_n2 _ (by decide), d_up_n2 _ (by decide), d_up_at]; rfl
    · rw [d_up_n2 _ (by decide), d_up_at]; rfl
    · rw [d_up_n2 _ (by decide), d_up_n2 _ (by decide), d_up_n2 _ (by decide), d_up_at]; rfl
    · have g : ∀ i : Nat, i < 15 → (d_up (d_up (d_up (d_up M3 107 12 (tMany u : Int)) 107 7 (tDay u)) 107 8 (tWet u)) 107 4 (tRule u)) 111 (i : Int) = M 118 (i : Int) := fun i hi => by
        have := a5 i (by omega) hi
        rw [Nat.zero_add] at this
        rw [e4 _ _ (by decide), c3 _ _ (by decide), b3 _ _ (by decide)]
        exact this
      have k := hu.2.1 l hl
      exact ⟨(g _ (by omega)).trans k.1, (g _ (by omega)).trans k.2.1, (g _ (by omega)).trans k.2.2⟩
    · have g : ∀ i : Nat, i < 18 → (d_up (d_up (d_up (d_up M3 107 12 (tMany u : Int)) 107 7 (tDay u)) 107 8 (tWet u)) 107 4 (tRule u)) 112 (i : Int) = M 119 (i : Int) := fun i hi => by
        have := b5 i (by omega) hi
        rw [Nat.zero_add] at this
        rw [e4 _ _ (by decide), c3 _ _ (by decide), this]
        exact a3 _ _ (by decide)
      have g2 : ∀ i : Nat, i < 72 → (d_up (d_up (d_up (d_up M3 107 12 (tMany u : Int)) 107 7 (tDay u)) 107 8 (tWet u)) 107 4 (tRule u)) 113 (i : Int) = M 120 (i : Int) := fun i hi => by
        have := c5 i (by omega) hi
        rw [Nat.zero_add] at this
        rw [e4 _ _ (by decide), this, b3 _ _ (by decide)]
        exact a3 _ _ (by decide)
      have k := hu.2.2 f hf
      have l12 := (ou.2.2 f hf).2.2.2.2.1
      exact ⟨(g _ (by omega)).trans k.1, (g _ (by omega)).trans k.2.1, (g _ (by omega)).trans k.2.2.1, fun i hi => (g2 _ (by have hi' : i < (tKn u f).length := hi; omega)).trans (k.2.2.2 i hi)⟩
