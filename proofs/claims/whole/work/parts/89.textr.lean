def FrXr (M M' : dM) : Prop := ∀ x k : Int, (x < 107 ∨ (x = 107 ∧ k ≠ 3 ∧ k ≠ 6 ∧ (k < 19 ∨ 27 < k)) ∨ 109 < x) → M' x k = M x k
def CP (n : Nat) (M M' : dM) : Prop := ∀ x k : Int, (x = 108 → k < 160 * (n : Int) ∨ 160 * (n : Int) + 160 ≤ k) → M' x k = M x k
theorem rf_108 : (∀ k, isRf 108 k = false) ∧ ∀ k, isRf 109 k = false := ⟨isRf_cell (by decide +kernel), isRf_cell (by decide +kernel)⟩
theorem CP.sk {n : Nat} {M M' : dM} (h : CP n M M') (hs : Sk M) : Sk M' := Sk_of hs fun x k hq => h x k fun z => by rw [z, rf_108.1] at hq; cases hq
theorem text_copy {sc : dS} {d : Nat} {b : List Int} (hb : b.length ≤ 160) {n : Nat} (hn : n < 6) : ∀ (m i : Nat) (M : dM), b.length - i = m → i ≤ b.length → Sk M → KV 107 6 110 M b → M 107 3 = n → (∀ (j : Nat) (h : j < b.length), j < i → M 108 ((160 * n + j : Nat) : Int) = b[j]) →
    ∃ M' : dM, vr sc d c_X7_text (14, [(2, 107), (0, (i : Int))], [], (K0, M)) = vr sc d c_X7_text (14, [(2, 107), (0, (b.length : Int))], [], (K0, M')) ∧ CP n M M' ∧ ∀ (j : Nat) (h : j < b.length), M' 108 ((160 * n + j : Nat) : Int) = b[j] := by
  intro m
  induction m with
  | zero =>
    intro i M hm hi hs hk h3 hc
    have e : i = b.length := by omega
    subst e
    exact ⟨M, rfl, fun _ _ _ => rfl, fun j h => hc j h h⟩
  | succ m ih =>
    intro i M hm hi hs hk h3 hc
    have hi' : i < b.length := by omega
    have e1 : w32 (160 * (n : Int)) = ((160 * n : Nat) : Int) := w32_e (by omega) (by omega) (by omega)
    rw [e_X7_text_14, if_pos (show og K0 7 107 6 = true from rfl), hk.1, if_neg (by omega), if_pos (show og K0 7 107 1 = true from rfl), if_pos (show og K0 7 107 3 = true from rfl), if_pos (show og K0 7 107 5 = true from rfl), Sk_m5 hs, if_pos (ag_110 (by omega) (by omega)), h3, (Sk_m1 hs).1, e1]
    clear e1
    rw [w_ad _ _ (by omega) (by omega), if_pos (ag_108 (by omega) (by omega)), hk.get hi', w_s i (by omega)]
    have cp : CP n M (d_up M 108 ((160 * n + i : Nat) : Int) b[i]) := fun x k h => by
      unfold d_up
      rw [if_neg]
      rintro ⟨rfl, rfl⟩
      have := h rfl
      omega
    obtain ⟨M', g1, g2, g3⟩ := ih (i + 1) (d_up M 108 ((160 * n + i : Nat) : Int) b[i]) (by omega) (by omega) (cp.sk hs) (hk.up (d_up_n1 _ (by decide)) fun j _ _ => d_up_n1 _ (by decide)) (by rw [d_up_n1 _ (by decide)]; exact h3) (fun j h hj => by
      by_cases q : j = i
      · subst q; rw [d_up_at]
      · rw [d_up_n2 _ (by omega)]; exact hc j h (by omega))
    exact ⟨M', g1, fun x k h => (g2 x k h).trans (cp x k h), g3⟩
theorem text_r {sc : dS} {d : Nat} {M : dM} (hs : Sk M) {xs : List (List Int)} {b : List Int} (hx : rXs M xs) (hok : okXs xs) (hb : okB b) (hk : KV 107 6 110 M b) : ∃ M' : dM, vc sc (d + 47) 143 [(2, 107)] (K0, M) = some ([(0, textF xs b)], (K0, M')) ∧ Sk M' ∧ FrXr M M' ∧ rXs M' (textS xs b).1 ∧ KV 107 6 110 M' (textS xs b).2 := by
  have hl := hok.1
  rw [vc_s (md := m_X7_text) (L := [(2, 107), (3, 0)]) rfl (Nat.le_of_ble_eq_true rfl) rfl]
  show ∃ M', vr sc (d + 46) c_X7_text (0, [(2, 107), (3, 0)], [], (K0, M)) = _ ∧ _
  rw [e_X7_text_0, if_pos (show og K0 7 107 3 = true from rfl), hx.1]
  unfold textF textS
  by_cases p : ¬ xs.length < 6
  · rw [if_neg (by omega), if_neg p, if_neg p]
    exact ⟨M, rfl, hs, fun _ _ _ => rfl, hx, hk⟩
  have p := Classical.not_not.mp p
  rw [if_pos (by omega), if_pos p, if_pos p]
  obtain ⟨M1, a1, a2, a3⟩ := text_copy (sc := sc) (d := d + 46) hb.1 p b.length 0 M rfl (by omega) hs hk hx.1 (fun j _ h => absurd h (by omega))
  have hbl := hb.1
  have hs1 := a2.sk hs
  have hk1 : KV 107 6 110 M1 b := hk.up (a2 107 6 (fun z => absurd z (by decide))) fun j _ _ => a2 110 j (fun z => absurd z (by decide))
  have h31 : M1 107 3 = xs.length := (a2 107 3 (fun z => absurd z (by decide))).trans hx.1
  have f3 : ∀ v w : Int, (d_up (d_up M1 109 (xs.length : Int) v) 107 6 w) 107 3 = xs.length := fun v w => by rw [d_up_n2 _ (by decide), d_up_n1 _ (by decide)]; exact h31
  rw [show vr sc (d + 46) c_X7_text (14, [(2, 107), (0, 0)], [], (K0, M)) = _ from a1, e_X7_text_14, if_pos (show og K0 7 107 6 = true from rfl), hk1.1, if_pos (Int.le_refl _), if_pos (show og K0 7 107 2 = true from rfl), if_pos (show og K0 7 107 3 = true from rfl), if_pos (show og K0 7 107 6 = true from rfl), (Sk_m1 hs1).2, h31, if_pos (ag_109 (by omega) (by omega)), if_pos (show og K0 7 107 6 = true from rfl), if_pos (by decide), if_pos (show og K0 7 107 3 = true from rfl), if_pos (show rg K0 7 107 = true from rfl), f3]
  have hs2 : Sk (d_up (d_up M1 109 (xs.length : Int) (b.length : Int)) 107 6 0) := Sk_of hs1 fun x k hq => by
    have e1 : ¬ (x = 107 ∧ k = 6) := by
      rintro ⟨rfl, rfl⟩
      rw [show isRf 107 6 = false by decide +kernel] at hq
      cases hq
    have e2 : ¬ (x = 109 ∧ k = (xs.length : Int)) := by
      rintro ⟨rfl, rfl⟩
      rw [rf_108.2] at hq
      cases hq
    exact (if_neg e1).trans (if_neg e2)
  have e109 : (d_up (d_up M1 109 (xs.length : Int) (b.length : Int)) 107 6 0) 109 (xs.length : Int) = b.length := by rw [d_up_n1 _ (by decide), d_up_at]
  have f6 : (d_up (d_up M1 109 (xs.length : Int) (b.length : Int)) 107 6 0) 107 6 = 0 := d_up_at _ _ _ _
  have f33 := f3 (b.length : Int) 0
  have e2 : ∀ x k : Int, ¬ (x = 107 ∧ k = 6) → ¬ (x = 109 ∧ k = (xs.length : Int)) → (d_up (d_up M1 109 (xs.length : Int) (b.length : Int)) 107 6 0) x k = M1 x k := fun x k h1 h2 => (if_neg h1).trans (if_neg h2)
  generalize d_up (d_up M1 109 (xs.length : Int) (b.length : Int)) 107 6 0 = M2 at *
  have hxn : rX xs.length b M2 := ⟨e109, fun i hi => (e2 108 _ (by omega) (by omega)).trans (a3 i hi)⟩
  obtain ⟨M3, v, b1, b2, b3, b4⟩ := readText_r (sc := sc) (d := d) (ns := fun i => M2 107 (13 + (i : Int))) p hb hs2 hxn (fun _ _ => rfl) (w := 0) (by decide)
  rw [show vc sc (d + 46) 142 [(2, 107), (0, (xs.length : Int)), (0, 0)] (K0, M2) = _ from b1, Option.bind_some]
  show ∃ M', vr sc (d + 46) c_X7_text (76, [(2, 107), (0, (b.length : Int))], [(0, v)], (K0, M3)) = _ ∧ _
  have hs3 := b2.sk hs2
  have fr : ∀ x k : Int, (x < 107 ∨ (x = 107 ∧ k ≠ 3 ∧ k ≠ 6 ∧ (k < 19 ∨ 27 < k)) ∨ 109 < x) → M3 x k = M x k := fun x k h => ((b2 x k (by omega)).trans (e2 x k (by omega) (by omega))).trans (a2 x k (by omega))
  have h33 : M3 107 3 = xs.length := (b2 107 3 (by omega)).trans f33
  have hk3 : M3 107 6 = 0 := (b2 107 6 (by omega)).trans f6
  have hold : ∀ (t : Nat) (h : t < xs.length), rX t xs[t] M3 := fun t h => by
    have k := hx.2 t h
    have kl := (hok.2 _ (List.getElem_mem h)).1.1
    refine ⟨((b2 109 _ (by omega)).trans (e2 109 _ (by omega) (by omega))).trans ((a2 109 _ (by omega)).trans k.1), fun i hi => ((b2 108 _ (by omega)).trans (e2 108 _ (by omega) (by omega))).trans ((a2 108 _ (fun _ => by omega)).trans (k.2 i hi))⟩
  rw [e_X7_text_76, if_pos (show og K0 7 107 26 = true from rfl)]
  by_cases q : pF (rd b) = -1
  · have f34 : (d_up M3 107 3 ((xs.length + 1 : Nat) : Int)) 107 3 = ((xs.length + 1 : Nat) : Int) := d_up_at _ _ _ _
    have eN : ∀ x k : Int, ¬ (x = 107 ∧ k = 3) → (d_up M3 107 3 ((xs.length + 1 : Nat) : Int)) x k = M3 x k := fun x k h => if_neg h
    rw [if_pos (b3 q).1, if_pos q, if_pos q, if_pos (show og K0 7 107 3 = true from rfl), if_pos (show og K0 7 107 3 = true from rfl), h33, w_s _ (by omega), if_pos ⟨by omega, by omega⟩, if_pos (show og K0 7 107 3 = true from rfl), f34, w_p _ (by omega)]
    refine ⟨_, rfl, Sk_of hs3 fun x k hq => ?_, fun x k h => ?_, ⟨?_, fun t h => ?_⟩, ⟨?_, rfl⟩⟩
    · refine eN x k ?_
      rintro ⟨rfl, rfl⟩
      rw [show isRf 107 3 = false by decide +kernel] at hq
      cases hq
    · rw [eN x k (by omega)]; exact fr x k h
    · rw [f34, List.length_append]; rfl
    · rw [List.length_append] at h
      have go : ∀ (c : List Int), rX t c M3 → rX t c (d_up M3 107 3 ((xs.length + 1 : Nat) : Int)) := fun c hc => ⟨(eN _ _ (by omega)).trans hc.1, fun i hi => (eN _ _ (by omega)).trans (hc.2 i hi)⟩
      by_cases z : t < xs.length
      · rw [List.getElem_append_left z]
        exact go _ (hold t z)
      · have et : t = xs.length := by simp at h; omega
        subst et
        rw [List.getElem_append_right (Nat.le_refl _)]
        simp only [Nat.sub_self, List.getElem_cons_zero]
        exact go _ ⟨(b2 109 _ (by omega)).trans hxn.1, fun i hi => (b2 108 _ (by omega)).trans (hxn.2 i hi)⟩
    · rw [eN 107 6 (by omega)]; exact hk3
  · rw [if_neg (by rw [(b4 q).1]; decide), if_neg q, if_neg q, if_pos (show og K0 7 107 27 = true from rfl), (b4 q).2]
    exact ⟨M3, rfl, hs3, fr, ⟨h33, hold⟩, ⟨hk3, rfl⟩⟩
