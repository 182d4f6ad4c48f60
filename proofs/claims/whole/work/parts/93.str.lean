/-! how well it holds -/
def strF (xs : List (List Int)) (t : Tn) (l f n : Nat) : Int :=
  if tKind t l = 5 then (if n = 0 then 0 else 99)
  else if tKind t l = 4 ∧ tWet t = 1 then 0
  else if tKind t l = 1 then bnd (sayF xs t 0 l n (tWlk t f) + (if n % 2 = 1 then tNum t l else 0)) 0 99
  else if tKind t l = 3 then bnd (2 * (sayF xs t 0 l n (tWlk t f) + (if n % 2 = 1 then tNum t l else 0))) 0 99
  else if tKind t l = 2 ∨ tKind t l = 4 then (sayF xs t 0 l n (tWlk t f)) / 2
  else sayF xs t 0 l n (tWlk t f)
theorem bnd_r {v a b : Int} (h : a ≤ b) : a ≤ bnd v a b ∧ bnd v a b ≤ b := by
  unfold bnd
  split
  · omega
  · split <;> omega
theorem say0_r (xs : List (List Int)) (t : Tn) (l : Nat) (a b : Int) : 0 ≤ sayF xs t 0 l a b ∧ sayF xs t 0 l a b ≤ 99 := bnd_r (v := vl (nsT t l a b) (xs.getD (tRule t).toNat []) 0) (show (0 : Int) ≤ 99 by decide)
theorem say_r {xs : List (List Int)} {t : Tn} {w l : Nat} {a b : Int} : -99 ≤ sayF xs t w l a b ∧ sayF xs t w l a b ≤ 99 := by
  unfold sayF
  by_cases h : w = 0
  · rw [if_pos h]
    have := bnd_r (v := vl (nsT t l a b) (xs.getD (tRule t).toNat []) w) (show (0 : Int) ≤ 99 by decide)
    omega
  · rw [if_neg h]
    exact bnd_r (by decide)
theorem strF_r {xs : List (List Int)} {t : Tn} {l f n : Nat} : 0 ≤ strF xs t l f n ∧ strF xs t l f n ≤ 99 := by
  have h := say0_r xs t l n (tWlk t f)
  unfold strF
  generalize sayF xs t 0 l n (tWlk t f) = v at *
  split
  · split <;> omega
  · split
    · omega
    · split
      · exact bnd_r (by decide)
      · split
        · exact bnd_r (by decide)
        · split
          · omega
          · exact h
theorem w_hf {v : Int} (h : 0 ≤ v ∧ v ≤ 99) : w32 (v.tdiv 2) = v / 2 := w32_e (by rw [Int.tdiv_eq_ediv_of_nonneg h.1]) (by omega) (by omega)
theorem w_n2 (n : Nat) (hn : n < 1000) : w32 (((n : Nat) : Int).tmod 2) = ((n % 2 : Nat) : Int) := w_md n 2 (by omega)
theorem w_add2 {v o : Int} (h : 0 ≤ v ∧ v ≤ 99) (ho : 0 ≤ o ∧ o ≤ 9) : w32 (v + o) = v + o := w32_i (by omega) (by omega)
theorem w_dbl {v o : Int} (h : 0 ≤ v ∧ v ≤ 99) (ho : 0 ≤ o ∧ o ≤ 9) : w32 (2 * w32 (v + o)) = 2 * (v + o) := by
  rw [w_add2 h ho]
  exact w32_i (by omega) (by omega)
theorem strength_ok {sc : dS} {d : Nat} {M : dM} (hs : Sk M) {T : Int} (hT : isT T) {t : Tn} (ht : cT M T t) (hok : okT t) {xs : List (List Int)} (hx : cXs M xs) (hxs : okXs xs) (hr : (tRule t).toNat < xs.length) {l f n : Nat} (hl : l < tMany t) (hf : f < 6) (hn : n < 1000) : ∃ M' : dM, vc sc (d + 6) 39 [(2, 58), (2, T), (0, (l : Int)), (0, (f : Int)), (0, (n : Int))] (K0, M) = some ([(0, strF xs t l f n)], (K0, M')) ∧ FS M M' := by
  have o1 := hok.1
  have hl5 : l < 5 := by omega
  have o2 := hok.2.1 l hl5
  rw [vc_s (md := m_X2_strength) (L := [(2, 58), (2, T), (0, (l : Int)), (0, (f : Int)), (0, (n : Int)), (3, 0), (3, 0)]) rfl (Nat.le_of_ble_eq_true rfl) rfl]
  show ∃ M', vr sc (d + 5) c_X2_strength (0, [(2, 58), (2, T), (0, (l : Int)), (0, (f : Int)), (0, (n : Int)), (3, 0), (3, 0)], [], (K0, M)) = _ ∧ _
  rw [e_X2_strength_0, if_pos (rg_tn hT), hasLad_ok hT, Option.bind_some, ht.1.2.2.2, bi_t (by omega)]
  show ∃ M', vr sc (d + 5) c_X2_strength (5, [(2, 58), (2, T), (0, (l : Int)), (0, (f : Int)), (0, (n : Int)), (3, 0), (3, 0)], [(0, 1)], (K0, M)) = _ ∧ _
  rw [e_X2_strength_5, if_neg (by decide), isFoot_ok, Option.bind_some, bi_t (by omega)]
  show ∃ M', vr sc (d + 5) c_X2_strength (12, [(2, 58), (2, T), (0, (l : Int)), (0, (f : Int)), (0, (n : Int)), (3, 0), (3, 0)], [(0, 1)], (K0, M)) = _ ∧ _
  rw [e_X2_strength_12, if_pos (by decide), if_pos (og_tn hT (by decide)), (Sk_T hs hT).2.2.2.1, if_pos (ag_t4 hT (by omega) (by omega)), if_pos (show rg K0 2 58 = true from rfl), (ht.2.2 f hf).1]
  obtain ⟨M1, a1, a2⟩ := say_ok (sc := sc) (d := d) hs hT ht hok hx hxs hr (w := 0) (by decide) hl (n : Int) (tWlk t f)
  have ht1 := ht.fs hT a2
  have hs1 := a2.sk hs
  rw [show vc sc (d + 5) 34 [(2, 58), (2, T), (0, 0), (0, (l : Int)), (0, (n : Int)), (0, tWlk t f)] (K0, M) = _ from a1, Option.bind_some]
  have hv := say0_r xs t l n (tWlk t f)
  unfold strF
  generalize sayF xs t 0 l n (tWlk t f) = v at *
  show ∃ M', vr sc (d + 5) c_X2_strength (32, [(2, 58), (2, T), (0, (l : Int)), (0, (f : Int)), (0, (n : Int)), (3, 0), (3, 0)], [(0, v)], (K0, M1)) = _ ∧ _
  have e32 : vr sc (d + 5) c_X2_strength (32, [(2, 58), (2, T), (0, (l : Int)), (0, (f : Int)), (0, (n : Int)), (3, 0), (3, 0)], [(0, v)], (K0, M1)) = vr sc (d + 5) c_X2_strength (51, [(2, 58), (2, T), (0, (l : Int)), (0, (f : Int)), (0, (n : Int)), (0, v), (3, 0)], [(0, if n % 2 = 1 then tNum t l else 0)], (K0, M1)) := by
    rw [e_X2_strength_32, w_n2 n hn]
    by_cases q : n % 2 = 1
    · rw [if_neg (by omega), if_pos (og_tn hT (by decide)), (Sk_T hs1 hT).2.1, if_pos (ag_t2 hT (by omega) (by omega)), (ht1.2.1 l hl5).2.1, if_pos q]
    · rw [if_pos (by omega), if_neg q]
  rw [e32]
  have ho : 0 ≤ (if n % 2 = 1 then tNum t l else 0) ∧ (if n % 2 = 1 then tNum t l else 0) ≤ 9 := by split <;> omega
  generalize (if n % 2 = 1 then tNum t l else 0) = o at *
  rw [e_X2_strength_51, if_pos (og_tn hT (by decide)), (Sk_T hs1 hT).1, if_pos (ag_t1 hT (by omega) (by omega)), (ht1.2.1 l hl5).1]
  by_cases k1 : tKind t l = 1
  · rw [if_pos k1, w_add2 hv ho, bounded_ok, Option.bind_some, if_neg (by omega), if_neg (by omega), if_pos k1]
    refine ⟨M1, ?_, a2⟩
    show vr sc (d + 5) c_X2_strength (103, [(2, 58), (2, T), (0, (l : Int)), (0, (f : Int)), (0, (n : Int)), (0, v), (0, o)], [(0, _)], (K0, M1)) = _
    rw [e_X2_strength_103]
  rw [if_neg k1]
  by_cases k2 : tKind t l = 2
  · rw [if_pos k2, w_hf hv, if_neg (by omega), if_neg (by omega), if_neg k1, if_neg (by omega), if_pos (Or.inl k2)]
    exact ⟨M1, rfl, a2⟩
  rw [if_neg k2]
  by_cases k3 : tKind t l = 3
  · rw [if_pos k3, w_dbl hv ho, bounded_ok, Option.bind_some, if_neg (by omega), if_neg (by omega), if_neg k1, if_pos k3]
    refine ⟨M1, ?_, a2⟩
    show vr sc (d + 5) c_X2_strength (122, [(2, 58), (2, T), (0, (l : Int)), (0, (f : Int)), (0, (n : Int)), (0, v), (0, o)], [(0, _)], (K0, M1)) = _
    rw [e_X2_strength_122]
  rw [if_neg k3]
  by_cases k4 : tKind t l = 4
  · rw [if_pos k4, if_pos (og_tn hT (by decide)), ht1.1.2.1, if_neg (show ¬ tKind t l = 5 by omega)]
    by_cases w0 : tWet t = 0
    · rw [if_pos w0, w_hf hv, if_neg (by omega), if_neg k1, if_neg k3, if_pos (Or.inr k4)]
      exact ⟨M1, rfl, a2⟩
    · rw [if_neg w0, if_pos ⟨k4, by omega⟩]
      exact ⟨M1, rfl, a2⟩
  rw [if_neg k4]
  by_cases k5 : tKind t l = 5
  · rw [if_pos k5, if_pos k5]
    by_cases n0 : n = 0
    · rw [if_pos (by omega), if_pos n0]
      exact ⟨M1, rfl, a2⟩
    · rw [if_neg (by omega), if_neg n0]
      exact ⟨M1, rfl, a2⟩
  · rw [if_neg k5, if_neg k5, if_neg (by omega), if_neg k1, if_neg k3, if_neg (by omega)]
    exact ⟨M1, rfl, a2⟩
def RU (M M' : dM) : Prop := ∀ x k : Int, x ≠ 114 → (x = 107 → (k < 13 ∨ 27 < k) ∧ k ≠ 29) → M' x k = M x k
theorem RU.rf (M : dM) : RU M M := fun _ _ _ _ => rfl
theorem RU.tr {M M1 M2 : dM} (h1 : RU M M1) (h2 : RU M1 M2) : RU M M2 := fun x k g1 g2 => (h2 x k g1 g2).trans (h1 x k g1 g2)
theorem RZ.ru {M M' : dM} (h : RZ M M') : RU M M' := fun x k _ g => h x k fun z => (g z).1
theorem WF.ru {M M' : dM} (h : WF 107 29 114 M M') : RU M M' := fun x k g1 g2 => h x k (fun z => (g2 z.1).2 z.2) g1
theorem RU.fr {M M' : dM} (h : RU M M') : Fr M M' := fun x k g => h x k (fun z => by rw [z, scr_o (by decide +kernel)] at g; cases g) fun z => by
  refine ⟨?_, fun y => ?_⟩
  · by_cases p : 13 ≤ k ∧ k ≤ 27
    · rw [z, scr_107 k p.1 p.2] at g; cases g
    · omega
  · rw [z, y, show scr 107 29 = true by decide +kernel] at g; cases g
theorem RU.sk {M M' : dM} (h : RU M M') (hs : Sk M) : Sk M' := h.fr.sk hs
theorem rT.ru {M M' : dM} {t : Tn} (h : rT M t) (hf : RU M M') : rT M' t := h.fr hf.fr
theorem rXs.ru {M M' : dM} {xs : List (List Int)} (h : rXs M xs) (hf : RU M M') : rXs M' xs := ⟨(hf 107 3 (by decide) (fun _ => by omega)).trans h.1, fun t ht => ⟨(hf 109 _ (by decide) (fun z => absurd z (by decide))).trans (h.2 t ht).1, fun i hi => (hf 108 _ (by decide) (fun z => absurd z (by decide))).trans ((h.2 t ht).2 i hi)⟩⟩
theorem bnd2 (x : Int) : bnd (2 * bnd x 0 99) 0 99 = bnd (2 * x) 0 99 := by
  by_cases a : x < 0
  · have e : bnd x 0 99 = 0 := if_pos a
    have e2 : bnd (2 * x) 0 99 = 0 := if_pos (by omega)
    rw [e, e2]
    rfl
  · by_cases b : 99 < x
    · have e : bnd x 0 99 = 99 := (if_neg a).trans (if_pos b)
      have e2 : bnd (2 * x) 0 99 = 99 := (if_neg (by omega)).trans (if_pos (by omega))
      rw [e, e2]
      rfl
    · have e : bnd x 0 99 = x := (if_neg a).trans (if_neg b)
      rw [e]
theorem holdsOf_ok {sc : dS} {d : Nat} {M : dM} (hs : Sk M) {t : Tn} (ht : rT M t) (hok : okT t) {xs : List (List Int)} (hx : rXs M xs) (hxs : okXs xs) (hr : (tRule t).toNat < xs.length) {l f n : Nat} (hl : l < tMany t) (hf : f < 6) (hn : n < 1000) : ∃ M' : dM, vc sc (d + 48) 164 [(2, 107), (0, (l : Int)), (0, (f : Int)), (0, (n : Int))] (K0, M) = some ([(0, strF xs t l f n)], (K0, M')) ∧ RZ M M' := by
  have o1 := hok.1
  have hl5 : l < 5 := by omega
  have o2 := hok.2.1 l hl5
  rw [vc_s (md := m_X7_holdsOf) (L := [(2, 107), (0, (l : Int)), (0, (f : Int)), (0, (n : Int)), (3, 0), (3, 0), (3, 0), (3, 0)]) rfl (Nat.le_of_ble_eq_true rfl) rfl]
  show ∃ M', vr sc (d + 47) c_X7_holdsOf (0, [(2, 107), (0, (l : Int)), (0, (f : Int)), (0, (n : Int)), (3, 0), (3, 0), (3, 0), (3, 0)], [], (K0, M)) = _ ∧ _
  have w32l := w_t3 l 2 (by omega) (by omega)
  have w32l : w32 (w32 (3 * (l : Int)) + 2) = ((3 * l + 2 : Nat) : Int) := w32l
  rw [e_X7_holdsOf_0, if_pos (show og K0 7 107 9 = true from rfl), Sk_m9b hs, w32l]
  clear w32l
  rw [if_pos (ag_of (n := 15) rfl (by omega) (by omega)), (ht.2.1 l hl5).2.2]
  by_cases k5 : tKind t l = 5
  · rw [if_neg (fun z => z k5)]
    unfold strF
    rw [if_pos k5]
    by_cases n0 : n = 0
    · rw [if_pos (by omega), if_pos n0]
      exact ⟨M, rfl, RZ.rf _⟩
    · rw [if_neg (by omega), if_neg n0]
      exact ⟨M, rfl, RZ.rf _⟩
  rw [if_pos k5]
  have hsay : ¬ (tKind t l = 4 ∧ tWet t = 1) → ∃ M' : dM, ((vc sc (d + 47) 145 [(2, 107), (0, 0), (0, (l : Int)), (0, (f : Int)), (0, (n : Int))] (K0, M)).bind fun r => vr sc (d + 47) c_X7_holdsOf (53, [(2, 107), (0, (l : Int)), (0, (f : Int)), (0, (n : Int)), (0, tKind t l), (3, 0), (3, 0), (3, 0)], r.1 ++ [], r.2)) = some ([(0, strF xs t l f n)], (K0, M')) ∧ RZ M M' := by
    intro k4w
    obtain ⟨M1, a1, a2⟩ := says_r (sc := sc) (d := d) hs ht hok hx hxs hr (w := 0) (by decide) hl (turns := (n : Int)) ⟨by omega, by omega⟩ (f := (f : Int)) (Or.inr ⟨f, hf, rfl, rfl⟩)
    have ht1 := ht.rz a2
    have hs1 := a2.fr.sk hs
    rw [show vc sc (d + 47) 145 [(2, 107), (0, 0), (0, (l : Int)), (0, (f : Int)), (0, (n : Int))] (K0, M) = _ from a1, Option.bind_some]
    have hv := say0_r xs t l n (tWlk t f)
    unfold strF
    rw [if_neg k5, if_neg k4w]
    generalize sayF xs t 0 l n (tWlk t f) = v at *
    show ∃ M', vr sc (d + 47) c_X7_holdsOf (53, [(2, 107), (0, (l : Int)), (0, (f : Int)), (0, (n : Int)), (0, tKind t l), (3, 0), (3, 0), (3, 0)], [(0, v)], (K0, M1)) = _ ∧ _
    have ho : 0 ≤ (if n % 2 = 1 then tNum t l else 0) ∧ (if n % 2 = 1 then tNum t l else 0) ≤ 9 := by split <;> omega
    have e53 : vr sc (d + 47) c_X7_holdsOf (53, [(2, 107), (0, (l : Int)), (0, (f : Int)), (0, (n : Int)), (0, tKind t l), (3, 0), (3, 0), (3, 0)], [(0, v)], (K0, M1)) = vr sc (d + 47) c_X7_holdsOf (78, [(2, 107), (0, (l : Int)), (0, (f : Int)), (0, (n : Int)), (0, tKind t l), (0, v), (3, 0), (3, 0)], [(0, v + (if n % 2 = 1 then tNum t l else 0))], (K0, M1)) := by
      rw [e_X7_holdsOf_53, w_n2 n hn]
      by_cases q : n % 2 = 1
      · rw [if_pos q] at ho
        rw [if_neg (by omega), if_pos (show og K0 7 107 9 = true from rfl), Sk_m9b hs1, w_m3 l (by omega), if_pos (ag_of (n := 15) rfl (by omega) (by omega)), (ht1.2.1 l hl5).1, if_pos q, w_add2 hv ho]
      · rw [if_pos (by omega), if_neg q, Int.add_zero]
    rw [e53]
    generalize (if n % 2 = 1 then tNum t l else 0) = o at *
    rw [e_X7_holdsOf_78]
    have e141 : ∀ a b c : Int, vr sc (d + 47) c_X7_holdsOf (141, [(2, 107), (0, (l : Int)), (0, (f : Int)), (0, (n : Int)), (0, tKind t l), (0, v), (0, a), (0, b)], [(0, c)], (K0, M1)) = some ([(0, c)], (K0, M1)) := fun a b c => by rw [e_X7_holdsOf_141]
    have bid : ∀ x : Int, 0 ≤ x → x ≤ 99 → bnd x 0 99 = x := fun x h0 h1 => by unfold bnd; rw [if_neg (by omega), if_neg (by omega)]
    by_cases k1 : tKind t l = 1
    · rw [if_neg (fun z => z k1), within_ok, Option.bind_some, if_pos k1]
      exact ⟨M1, e141 _ _ _, a2⟩
    rw [if_pos k1, if_neg k1]
    by_cases k3 : tKind t l = 3
    · rw [if_neg (fun z => z k3), within_ok, Option.bind_some, if_pos k3]
      show ∃ M', vr sc (d + 47) c_X7_holdsOf (106, [(2, 107), (0, (l : Int)), (0, (f : Int)), (0, (n : Int)), (0, tKind t l), (0, v), (0, v + o), (3, 0)], [(0, bnd (v + o) 0 99), (0, 2)], (K0, M1)) = _ ∧ _
      have hbn := bnd_r (v := v + o) (show (0 : Int) ≤ 99 by decide)
      have ew : w32 (2 * bnd (v + o) 0 99) = 2 * bnd (v + o) 0 99 := w32_i (by omega) (by omega)
      have eb := bnd2 (v + o)
      rw [e_X7_holdsOf_106, ew, within_ok, Option.bind_some, eb]
      exact ⟨M1, e141 _ _ _, a2⟩
    rw [if_pos k3, if_neg k3]
    by_cases k2 : tKind t l = 2
    · rw [if_pos k2, w_hf hv, within_ok, Option.bind_some, if_pos (Or.inl k2), bid (v / 2) (by omega) (by omega)]
      exact ⟨M1, e141 _ _ _, a2⟩
    rw [if_neg k2]
    by_cases k4 : tKind t l = 4
    · rw [if_neg (fun z => z k4), w_hf hv, within_ok, Option.bind_some, if_pos (Or.inr k4), bid (v / 2) (by omega) (by omega)]
      exact ⟨M1, e141 _ _ _, a2⟩
    · rw [if_pos k4, within_ok, Option.bind_some, if_neg (fun z => z.elim k2 k4), bid v hv.1 hv.2]
      exact ⟨M1, e141 _ _ _, a2⟩
  by_cases k4 : tKind t l = 4
  · rw [if_neg (fun z => z k4), if_pos (show og K0 7 107 8 = true from rfl), ht.1.2.1]
    by_cases w1 : tWet t = 1
    · rw [if_neg (fun z => z w1)]
      unfold strF
      rw [if_neg k5, if_pos ⟨k4, w1⟩]
      exact ⟨M, rfl, RZ.rf _⟩
    · rw [if_pos w1, if_pos (show rg K0 7 107 = true from rfl)]
      exact hsay (fun z => w1 z.2)
  · rw [if_pos k4, if_pos (show rg K0 7 107 = true from rfl)]
    exact hsay (fun z => k4 z.1)
