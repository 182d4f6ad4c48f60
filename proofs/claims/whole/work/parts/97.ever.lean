/-! evenings, reference side -/
theorem footHolds_ok {sc : dS} {d : Nat} {M : dM} (hs : Sk M) {t : Tn} (ht : rT M t) (hok : okT t) {xs : List (List Int)} (hx : rXs M xs) (hxs : okXs xs) (hr : (tRule t).toNat < xs.length) {f : Nat} (hf : f < 6) (hb : 0 ≤ tBy t f) : ∃ M' : dM, vc sc (d + 49) 165 [(2, 107), (0, (f : Int))] (K0, M) = some ([(0, strF xs t (tBy t f).toNat f (tno t f))], (K0, M')) ∧ RU M M' := by
  have o3 := hok.2.2 f hf
  obtain ⟨l, hl⟩ : ∃ n : Nat, tBy t f = n := ⟨(tBy t f).toNat, by omega⟩
  have hn12 := pr_len hok hf
  rw [vc_s (md := m_X7_footHolds) (L := [(2, 107), (0, (f : Int))]) rfl (Nat.le_of_ble_eq_true rfl) rfl]
  show ∃ M', vr sc (d + 48) c_X7_footHolds (0, [(2, 107), (0, (f : Int))], [], (K0, M)) = _ ∧ _
  obtain ⟨M1, a1, a2, a3⟩ := takesFoot_ok (sc := sc) (d := d + 47) hs ht hok hf
  have hs1 := a2.ru.sk hs
  have ht1 := ht.ru a2.ru
  rw [e_X7_footHolds_0, if_pos (show rg K0 7 107 = true from rfl), a1, Option.bind_some]
  show ∃ M', vr sc (d + 48) c_X7_footHolds (5, [(2, 107), (0, (f : Int))], [], (K0, M1)) = _ ∧ _
  obtain ⟨M2, b1, b2, b3⟩ := pulledSize_ok (sc := sc) (d := d + 44) hs1 o3.2.2.2.2.1 a3
  have hs2 := b2.ru.sk hs1
  have ht2 := ht1.ru b2.ru
  have hx2 := (hx.ru a2.ru).ru b2.ru
  have w31 : w32 (w32 (3 * (f : Int)) + 1) = ((3 * f + 1 : Nat) : Int) := w_t3 f 1 (by omega) (by omega)
  rw [e_X7_footHolds_5, if_pos (show og K0 7 107 10 = true from rfl), (Sk_m10 hs1).1, w31]
  clear w31
  rw [if_pos (ag_112 (by omega) (by omega)), if_pos (show rg K0 7 107 = true from rfl), b1, Option.bind_some, (ht1.2.2 f hf).2.1, hl]
  show ∃ M', vr sc (d + 48) c_X7_footHolds (21, [(2, 107), (0, (f : Int))], [(0, ((tno t f : Nat) : Int)), (0, (f : Int)), (0, (l : Int)), (2, 107)], (K0, M2)) = _ ∧ _
  obtain ⟨M3, c1, c2⟩ := holdsOf_ok (sc := sc) (d := d) hs2 ht2 hok hx2 hxs hr (l := l) (f := f) (n := tno t f) (by omega) hf (by unfold tno; omega)
  rw [e_X7_footHolds_21, if_pos (show rg K0 7 107 = true from rfl), c1, Option.bind_some]
  show ∃ M', vr sc (d + 48) c_X7_footHolds (24, [(2, 107), (0, (f : Int))], [(0, _)], (K0, M3)) = _ ∧ _
  rw [e_X7_footHolds_24, Int.toNat_natCast]
  exact ⟨M3, rfl, (a2.ru.tr b2.ru).tr c2.ru⟩
theorem passesAt_ok {sc : dS} {d : Nat} {M : dM} (hs : Sk M) {t : Tn} (ht : rT M t) (hok : okT t) {xs : List (List Int)} (hx : rXs M xs) (hxs : okXs xs) (hr : (tRule t).toNat < xs.length) {f : Nat} (hf : f < 6) : ∃ M' : dM, vc sc (d + 50) 167 [(2, 107), (0, (f : Int))] (K0, M) = some ([(0, if psB xs t f = true then 1 else 0)], (K0, M')) ∧ RU M M' := by
  have o3 := hok.2.2 f hf
  have w31 : w32 (w32 (3 * (f : Int)) + 1) = ((3 * f + 1 : Nat) : Int) := w_t3 f 1 (by omega) (by omega)
  rw [vc_s (md := m_X7_passesAt) (L := [(2, 107), (0, (f : Int))]) rfl (Nat.le_of_ble_eq_true rfl) rfl]
  show ∃ M', vr sc (d + 49) c_X7_passesAt (0, [(2, 107), (0, (f : Int))], [], (K0, M)) = _ ∧ _
  rw [e_X7_passesAt_0, if_pos (show og K0 7 107 10 = true from rfl), (Sk_m10 hs).1, w31]
  clear w31
  rw [if_pos (ag_112 (by omega) (by omega)), (ht.2.2 f hf).2.1]
  by_cases p : ¬ 0 ≤ tBy t f
  · rw [if_pos (by omega), psB_no p, if_neg (show ¬ false = true by decide)]
    exact ⟨M, rfl, RU.rf _⟩
  have p := Classical.not_not.mp p
  obtain ⟨M1, a1, a2⟩ := footHolds_ok (sc := sc) (d := d) hs ht hok hx hxs hr hf p
  have ht1 := ht.ru a2
  rw [if_neg (by omega), if_pos (show rg K0 7 107 = true from rfl), a1, Option.bind_some]
  show ∃ M', vr sc (d + 49) c_X7_passesAt (19, [(2, 107), (0, (f : Int))], [(0, _)], (K0, M1)) = _ ∧ _
  have pi := psB_iff (xs := xs) p
  rw [e_X7_passesAt_19, if_pos (show og K0 7 107 10 = true from rfl), (Sk_m10 (a2.sk hs)).1, w_m3 f (by omega), if_pos (ag_112 (by omega) (by omega)), (ht1.2.2 f hf).1]
  by_cases q : strF xs t (tBy t f).toNat f (tno t f) < tWlk t f
  · rw [if_pos q, if_neg (fun z => by have := pi.mp z; omega)]
    exact ⟨M1, rfl, a2⟩
  · rw [if_neg q, if_pos (pi.mpr (by omega))]
    exact ⟨M1, rfl, a2⟩
theorem learnsOf_ok {sc : dS} {d : Nat} {M : dM} (hs : Sk M) {t : Tn} (ht : rT M t) (hok : okT t) {xs : List (List Int)} (hx : rXs M xs) (hxs : okXs xs) (hr : (tRule t).toNat < xs.length) {f l : Nat} (hf : f < 6) (hl : tBy t f = l) (p : Bool) : ∃ M' : dM, vc sc (d + 48) 169 [(2, 107), (0, (l : Int)), (0, (f : Int)), (0, if p = true then 1 else 0)] (K0, M) = some ([(0, lesF xs t f p)], (K0, M')) ∧ RU M M' := by
  have o1 := hok.1
  have o3 := hok.2.2 f hf
  have hlm : l < tMany t := by omega
  have hl5 : l < 5 := by omega
  have o2 := hok.2.1 l hl5
  have hn12 := pr_len hok hf
  have w32l : w32 (w32 (3 * (l : Int)) + 2) = ((3 * l + 2 : Nat) : Int) := w_t3 l 2 (by omega) (by omega)
  have a15 : ∀ i : Int, 0 ≤ i → i < 15 → ag K0 8 111 i = true := fun i h0 h1 => ag_of (n := 15) rfl h0 h1
  rw [vc_s (md := m_X7_learnsOf) (L := [(2, 107), (0, (l : Int)), (0, (f : Int)), (0, if p = true then 1 else 0), (3, 0), (3, 0), (3, 0)]) rfl (Nat.le_of_ble_eq_true rfl) rfl]
  show ∃ M', vr sc (d + 47) c_X7_learnsOf (0, [(2, 107), (0, (l : Int)), (0, (f : Int)), (0, if p = true then 1 else 0), (3, 0), (3, 0), (3, 0)], [], (K0, M)) = _ ∧ _
  rw [e_X7_learnsOf_0, if_pos (show og K0 7 107 9 = true from rfl), Sk_m9b hs, w32l]
  clear w32l
  rw [if_pos (a15 _ (by omega) (by omega)), (ht.2.1 l hl5).2.2, w_m3 l (by omega), (ht.2.1 l hl5).1]
  have hgo : ¬ tKind t l = 5 → ¬ (tKind t l = 4 ∧ p = false) → ∃ M' : dM, ((vc sc (d + 47) 147 [(2, 107), (0, (f : Int))] (K0, M)).bind fun r => vr sc (d + 47) c_X7_learnsOf (53, [(2, 107), (0, (l : Int)), (0, (f : Int)), (0, if p = true then 1 else 0), (0, tKind t l), (3, 0), (3, 0)], r.1 ++ [], r.2)) = some ([(0, lesF xs t f p)], (K0, M')) ∧ RU M M' := by
    intro k5 k4
    obtain ⟨M1, a1, a2, a3⟩ := takesFoot_ok (sc := sc) (d := d + 46) hs ht hok hf
    have hs1 := a2.ru.sk hs
    have ht1 := ht.ru a2.ru
    obtain ⟨M2, b1, b2, b3⟩ := pulledSize_ok (sc := sc) (d := d + 43) hs1 o3.2.2.2.2.1 a3
    have hs2 := b2.ru.sk hs1
    have ht2 := ht1.ru b2.ru
    have hx2 := (hx.ru a2.ru).ru b2.ru
    rw [a1, Option.bind_some]
    show ∃ M', vr sc (d + 47) c_X7_learnsOf (53, [(2, 107), (0, (l : Int)), (0, (f : Int)), (0, if p = true then 1 else 0), (0, tKind t l), (3, 0), (3, 0)], [], (K0, M1)) = _ ∧ _
    rw [e_X7_learnsOf_53, if_pos (show rg K0 7 107 = true from rfl), b1, Option.bind_some]
    show ∃ M', vr sc (d + 47) c_X7_learnsOf (61, [(2, 107), (0, (l : Int)), (0, (f : Int)), (0, if p = true then 1 else 0), (0, tKind t l), (3, 0), (3, 0)], [(0, ((tno t f : Nat) : Int)), (0, (f : Int)), (0, (l : Int)), (0, 1), (2, 107)], (K0, M2)) = _ ∧ _
    obtain ⟨M3, c1, c2⟩ := says_r (sc := sc) (d := d) hs2 ht2 hok hx2 hxs hr (w := 1) (by decide) hlm (turns := ((tno t f : Nat) : Int)) ⟨by omega, by unfold tno; omega⟩ (f := (f : Int)) (Or.inr ⟨f, hf, rfl, rfl⟩)
    rw [e_X7_learnsOf_61, if_pos (show rg K0 7 107 = true from rfl), show vc sc (d + 47) 145 [(2, 107), (0, 1), (0, (l : Int)), (0, (f : Int)), (0, ((tno t f : Nat) : Int))] (K0, M2) = _ from c1, Option.bind_some]
    have hv := say_r (xs := xs) (t := t) (w := 1) (l := l) (a := ((tno t f : Nat) : Int)) (b := tWlk t f)
    unfold lesF
    rw [hl, Int.toNat_natCast]
    dsimp only
    rw [if_neg k5, if_neg k4]
    generalize sayF xs t 1 l ((tno t f : Nat) : Int) (tWlk t f) = v at *
    show ∃ M', vr sc (d + 47) c_X7_learnsOf (64, [(2, 107), (0, (l : Int)), (0, (f : Int)), (0, if p = true then 1 else 0), (0, tKind t l), (3, 0), (3, 0)], [(0, v)], (K0, M3)) = _ ∧ _
    have fr := (a2.ru.tr b2.ru).tr c2.ru
    rw [e_X7_learnsOf_64]
    cases p
    · rw [if_pos (by decide), if_neg (show ¬ false = true by decide)]
      by_cases k2 : tKind t l = 2
      · rw [if_neg (fun z => z k2), if_pos k2]
        exact ⟨M3, rfl, fr⟩
      rw [if_pos k2, if_neg k2]
      by_cases k3 : tKind t l = 3
      · rw [if_neg (fun z => z k3), if_pos k3]
        exact ⟨M3, rfl, fr⟩
      · rw [if_pos k3, if_neg k3]
        exact ⟨M3, rfl, fr⟩
    · have ew : w32 (v + 1) = v + 1 := w32_i (by omega) (by omega)
      rw [if_neg (by decide), ew]
      by_cases k2 : tKind t l = 2
      · rw [if_neg (fun z => z k2), if_pos k2]
        exact ⟨M3, rfl, fr⟩
      rw [if_pos k2, if_neg k2]
      by_cases k3 : tKind t l = 3
      · rw [if_neg (fun z => z k3), if_pos k3]
        exact ⟨M3, rfl, fr⟩
      · rw [if_pos k3, if_neg k3]
        exact ⟨M3, rfl, fr⟩
  have hu : lesF xs t f p = (if tKind t l = 5 then 0 else if tKind t l = 4 ∧ p = false then -tNum t l else if tKind t l = 2 then sayF xs t 1 l (tno t f) (tWlk t f) else if tKind t l = 3 then (if p = true then sayF xs t 1 l (tno t f) (tWlk t f) else 0) + 1 else (if p = true then sayF xs t 1 l (tno t f) (tWlk t f) else 0)) := by
    unfold lesF
    rw [hl, Int.toNat_natCast]
  by_cases k5 : tKind t l = 5
  · rw [if_pos k5, if_neg (fun z => z k5), hu, if_pos k5]
    exact ⟨M, rfl, RU.rf _⟩
  rw [if_neg k5]
  by_cases k4 : tKind t l = 4
  · rw [if_neg (fun z => z k4)]
    cases hp : p
    · have en2 : w32 (-tNum t l) = -tNum t l := w32_i (by omega) (by omega)
      rw [if_neg (by decide), if_pos k5, if_pos (show og K0 7 107 9 = true from rfl), if_pos (a15 _ (by clear en2; omega) (by clear en2; omega)), en2, ← hp, hu, if_neg k5, if_pos ⟨k4, hp⟩]
      exact ⟨M, rfl, RU.rf _⟩
    · rw [hp] at hgo
      rw [if_pos (by decide), if_pos (show rg K0 7 107 = true from rfl)]
      exact hgo k5 (fun z => absurd z.2 (by decide))
  · rw [if_pos k4, if_pos (show rg K0 7 107 = true from rfl)]
    exact hgo k5 (fun z => k4 z.1)
