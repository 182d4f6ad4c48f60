/-! tells, class side -/
def fl (xs : List (List Int)) (t : Tn) (L : List Int) (i : Nat) : Bool := decide (fo xs t i L = -1)
def tellC (xs : List (List Int)) (t : Tn) (l : Nat) (L : List Int) (w : Int) : Int :=
  if w = 0 then fo xs t l L
  else if w = 1 then pset (fv xs t 5 (l : Int) l L) 6
  else if w = 2 then pset (fv xs t 2 (l : Int) l L) 10
  else if w = 3 then ((cnt (fv xs t 3 (l : Int) l L) 100 : Nat) : Int)
  else if w = 4 then lea (fv xs t 3 (l : Int) l L) 100
  else if w = 5 then ((cnt (fv xs t 4 0 l L) 100 : Nat) : Int)
  else if w = 6 then lea (fv xs t 4 0 l L) 100
  else if w = 7 then pset (fv xs t 6 (l : Int) l L) xs.length
  else pset (fl xs t L) (tMany t)
def tellF (xs : List (List Int)) (t : Tn) (so : Nat → Int) (sl : Nat → List Int) (s x w : Int) : Int := if 0 ≤ s ∧ s < 4 then (if 0 ≤ x ∧ x < (tMany t : Int) then (if 0 ≤ w ∧ w ≤ 8 then (if so s.toNat = -1 then -11 else if (sl s.toNat).length ≤ 13 then tellC xs t x.toNat (sl s.toNat) w else -2) else -2) else -2) else -2
theorem flads_ok {sc : dS} {d : Nat} {t : Tn} (hok : okT t) {xs : List (List Int)} (hxs : okXs xs) (hr : (tRule t).toNat < xs.length) {n : Nat} (hn : n < 4) {o : Int} {L : List Int} (hL : L.length ≤ 13) {M : dM} (hs : Sk M) (ht : cT M 1 t) (hx : cXs M xs) (hc : cS M n o L) : ∃ M' : dM, vc sc (d + 8) 92 [(2, 0), (2, sO n)] (K0, M) = some ([(0, pset (fl xs t L) (tMany t))], (K0, M')) ∧ FS M M' := by
  have key : ∀ (m i : Nat) (M : dM), tMany t - i = m → i ≤ tMany t → Sk M → cT M 1 t → cXs M xs → cS M n o L →
      ∃ M' : dM, vr sc (d + 7) c_X6_fittingLads (4, [(2, 0), (2, sO n), (0, pset (fl xs t L) i), (0, (i : Int))], [], (K0, M)) = some ([(0, pset (fl xs t L) (tMany t))], (K0, M')) ∧ FS M M' := by
    intro m
    induction m with
    | zero =>
      intro i M hm hi hs ht hx hc
      have e : i = tMany t := by omega
      subst e
      rw [e_X6_fittingLads_4, if_pos (show og K0 6 0 0 = true from rfl), (Sk_00 hs).1, if_pos (og_tn isT_1 (by decide)), ht.1.2.2.2, if_pos (Int.le_refl _)]
      exact ⟨M, rfl, FS.rf _⟩
    | succ m ih =>
      intro i M hm hi hs ht hx hc
      have o5 := hok.1.2.2.2.2.2
      obtain ⟨M1, a1, a2⟩ := fw_ok (sc := sc) (d := d) isT_1 hok hxs hr hn hL (l := i) (by omega) hs ht hx hc
      obtain ⟨M2, b1, b2⟩ := ih (i + 1) M1 (by omega) (by omega) (a2.sk hs) (ht.fs isT_1 a2) (hx.fs hxs.1 a2) (hc.fr hn a2.fr)
      rw [e_X6_fittingLads_4, if_pos (show og K0 6 0 0 = true from rfl), (Sk_00 hs).1, if_pos (og_tn isT_1 (by decide)), ht.1.2.2.2, if_neg (by omega), if_pos (show og K0 6 0 0 = true from rfl), if_pos (show rg K0 6 0 = true from rfl), a1, Option.bind_some]
      show ∃ M', vr sc (d + 7) c_X6_fittingLads (25, [(2, 0), (2, sO n), (0, pset (fl xs t L) i), (0, (i : Int))], [(0, _)], (K0, M1)) = _ ∧ _
      rw [e_X6_fittingLads_25, w_s i (by omega)]
      refine ⟨M2, ?_, a2.tr b2⟩
      rw [← b1]
      show _ = vr sc (d + 7) c_X6_fittingLads (4, [(2, 0), (2, sO n), (0, if fl xs t L i = true then i_or (pset (fl xs t L) i) (i_shl 1 i) else pset (fl xs t L) i), (0, ((i + 1 : Nat) : Int))], [], (K0, M1))
      by_cases z : fo xs t i L = -1
      · rw [if_neg (fun y => y z), if_pos (show fl xs t L i = true from decide_eq_true z)]
      · rw [if_pos z, if_neg (show ¬ fl xs t L i = true from fun y => z (of_decide_eq_true y))]
  rw [vc_s (md := m_X6_fittingLads) (L := [(2, 0), (2, sO n), (3, 0), (3, 0)]) rfl (Nat.le_of_ble_eq_true rfl) rfl]
  show ∃ M', vr sc (d + 7) c_X6_fittingLads (0, [(2, 0), (2, sO n), (3, 0), (3, 0)], [], (K0, M)) = _ ∧ _
  rw [e_X6_fittingLads_0]
  exact key (tMany t) 0 M rfl (by omega) hs ht hx hc
theorem tells_c {sc : dS} {d : Nat} {M : dM} (hs : Sk M) {t : Tn} (ht : cT M 1 t) (hok : okT t) {xs : List (List Int)} (hx : cXs M xs) (hxs : okXs xs) (hr : (tRule t).toNat < xs.length) {so : Nat → Int} {sl : Nat → List Int} (hc : ∀ n : Nat, n < 4 → cS M n (so n) (sl n)) (s x w : Int) : ∃ M' : dM, vc sc (d + 9) 86 [(2, 0), (0, s), (0, x), (0, w)] (K0, M) = some ([(0, tellF xs t so sl s x w)], (K0, M')) ∧ FT 20 M M' := by
  rw [vc_s (md := m_X6_tells) (L := [(2, 0), (0, s), (0, x), (0, w), (3, 0)]) rfl (Nat.le_of_ble_eq_true rfl) rfl]
  show ∃ M', vr sc (d + 8) c_X6_tells (0, [(2, 0), (0, s), (0, x), (0, w), (3, 0)], [], (K0, M)) = _ ∧ _
  rw [e_X6_tells_0, isSheet_ok, Option.bind_some]
  show ∃ M', vr sc (d + 8) c_X6_tells (4, [(2, 0), (0, s), (0, x), (0, w), (3, 0)], [(0, _)], (K0, M)) = _ ∧ _
  rw [e_X6_tells_4]
  unfold tellF
  by_cases p : ¬ (0 ≤ s ∧ s < 4)
  · rw [bi_f p, if_pos rfl, if_neg p]
    exact ⟨M, rfl, FT.rf _ _⟩
  have p := Classical.not_not.mp p
  rw [bi_t p, if_neg (by decide), if_pos p, if_pos (show og K0 6 0 0 = true from rfl), (Sk_00 hs).1, if_pos (rg_tn isT_1), hasLad_ok isT_1, Option.bind_some, ht.1.2.2.2]
  show ∃ M', vr sc (d + 8) c_X6_tells (15, [(2, 0), (0, s), (0, x), (0, w), (3, 0)], [(0, _)], (K0, M)) = _ ∧ _
  rw [e_X6_tells_15]
  by_cases q : ¬ (0 ≤ x ∧ x < (tMany t : Int))
  · rw [bi_f q, if_pos rfl, if_neg q]
    exact ⟨M, rfl, FT.rf _ _⟩
  have q := Classical.not_not.mp q
  rw [bi_t q, if_neg (by decide), if_pos q, isWithin_ok, Option.bind_some]
  show ∃ M', vr sc (d + 8) c_X6_tells (24, [(2, 0), (0, s), (0, x), (0, w), (3, 0)], [(0, _)], (K0, M)) = _ ∧ _
  rw [e_X6_tells_24]
  by_cases r : ¬ (0 ≤ w ∧ w ≤ 8)
  · rw [bi_f r, if_neg (fun z => z rfl), if_neg r]
    exact ⟨M, rfl, FT.rf _ _⟩
  have r := Classical.not_not.mp r
  obtain ⟨n, rfl⟩ : ∃ j : Nat, s = j := ⟨s.toNat, by omega⟩
  obtain ⟨l, rfl⟩ : ∃ j : Nat, x = j := ⟨x.toNat, by omega⟩
  have hn : n < 4 := by omega
  have hl : l < tMany t := by omega
  have cn := hc n hn
  have a90 : ag K0 12 90 (n : Int) = true := ag_of (n := 4) rfl (by omega) (by omega)
  rw [bi_t r, if_pos (by decide), if_pos r, Int.toNat_natCast, Int.toNat_natCast, if_pos (show og K0 6 0 6 = true from rfl), Sk_06 hs, if_pos a90, (Sk_s hs hn).1, if_pos (rg_s hn), isMissing_ok hn, Option.bind_some, cn.1]
  show ∃ M', vr sc (d + 8) c_X6_tells (43, [(2, 0), (0, (n : Int)), (0, (l : Int)), (0, w), (2, sO n)], [(0, bi (so n = -1))], (K0, M)) = _ ∧ _
  rw [e_X6_tells_43]
  by_cases o1 : so n = -1
  · rw [bi_t o1, if_neg (by decide), if_pos o1]
    exact ⟨M, rfl, FT.rf _ _⟩
  rw [bi_f o1, if_pos rfl, if_neg o1, if_pos (og_s hn (by decide)), cn.2.1]
  by_cases z : ¬ (sl n).length ≤ 13
  · rw [if_neg (by omega), if_neg z]
    exact ⟨M, rfl, FT.rf _ _⟩
  have z := Classical.not_not.mp z
  obtain ⟨M1, a1, a2, a3⟩ := tbecome_ok (sc := sc) (d := d + 6) isT_20 isT_1 (by decide) hs ht hok
  have hs1 := a2.sk isT_20 hs
  have hx1 := hx.ft isT_20 hxs.1 a2
  have cn1 := cn.fr hn (FT20_fr a2)
  have ht1 := cT_far isT_20 isT_1 (by decide) ht a2
  rw [if_pos (by omega), if_pos z, if_pos (show og K0 6 0 1 = true from rfl), if_pos (show og K0 6 0 0 = true from rfl), (Sk_00 hs).1, (Sk_00 hs).2.1, if_pos (rg_tn isT_20), a1, Option.bind_some]
  show ∃ M', vr sc (d + 8) c_X6_tells (73, [(2, 0), (0, (n : Int)), (0, (l : Int)), (0, w), (2, sO n)], [], (K0, M1)) = _ ∧ _
  unfold tellC
  rw [e_X6_tells_73]
  by_cases w0 : w = 0
  · obtain ⟨M2, b1, b2⟩ := fw_ok (sc := sc) (d := d + 1) isT_1 hok hxs hr hn z hl hs1 ht1 hx1 cn1
    rw [if_pos w0, if_pos w0, if_pos (show og K0 6 0 0 = true from rfl), if_pos (show rg K0 6 0 = true from rfl), (Sk_00 hs1).1, b1, Option.bind_some]
    show ∃ M', vr sc (d + 8) c_X6_tells (131, [(2, 0), (0, (n : Int)), (0, (l : Int)), (0, w), (2, sO n)], [(0, _)], (K0, M2)) = _ ∧ _
    rw [e_X6_tells_131]
    exact ⟨M2, rfl, a2.tr (b2.ft 20)⟩
  rw [if_neg w0, if_neg w0]
  by_cases w1 : w = 1
  · subst w1
    obtain ⟨M2, b1, b2⟩ := fbits_ok (sc := sc) (d := d) hok hxs hr hn z hl (what := 1) (w := 5) (of := (l : Int)) (Or.inl ⟨rfl, rfl, rfl⟩) (N := 6) (fun v hv => Or.inl ⟨rfl, hv⟩) (by decide) hs1 a3 hx1 cn1
    rw [if_pos rfl, if_pos rfl, if_pos (show rg K0 6 0 = true from rfl), show vc sc (d + 8) 89 [(2, 0), (2, sO n), (0, (l : Int)), (0, 1), (0, 6)] (K0, M1) = _ from b1, Option.bind_some]
    show ∃ M', vr sc (d + 8) c_X6_tells (142, [(2, 0), (0, (n : Int)), (0, (l : Int)), (0, 1), (2, sO n)], [(0, _)], (K0, M2)) = _ ∧ _
    rw [e_X6_tells_142]
    exact ⟨M2, rfl, a2.tr b2⟩
  rw [if_neg w1, if_neg w1]
  by_cases w2 : w = 2
  · subst w2
    obtain ⟨M2, b1, b2⟩ := fbits_ok (sc := sc) (d := d) hok hxs hr hn z hl (what := 2) (w := 2) (of := (l : Int)) (Or.inr (Or.inl ⟨rfl, rfl, rfl⟩)) (N := 10) (fun v hv => Or.inr (Or.inl ⟨rfl, by omega⟩)) (by decide) hs1 a3 hx1 cn1
    rw [if_pos rfl, if_pos rfl, if_pos (show rg K0 6 0 = true from rfl), show vc sc (d + 8) 89 [(2, 0), (2, sO n), (0, (l : Int)), (0, 2), (0, 10)] (K0, M1) = _ from b1, Option.bind_some]
    show ∃ M', vr sc (d + 8) c_X6_tells (153, [(2, 0), (0, (n : Int)), (0, (l : Int)), (0, 2), (2, sO n)], [(0, _)], (K0, M2)) = _ ∧ _
    rw [e_X6_tells_153]
    exact ⟨M2, rfl, a2.tr b2⟩
  rw [if_neg w2, if_neg w2]
  by_cases w3 : w = 3
  · subst w3
    obtain ⟨M2, b1, b2⟩ := fcount_ok (sc := sc) (d := d) hok hxs hr hn z hl (what := 3) (w := 3) (of := (l : Int)) (Or.inr (Or.inr (Or.inl ⟨rfl, rfl, rfl⟩))) (fun v hv => Or.inr (Or.inr (Or.inl ⟨Or.inl rfl, by omega⟩))) hs1 a3 hx1 cn1
    rw [if_pos rfl, if_pos rfl, if_pos (show rg K0 6 0 = true from rfl), b1, Option.bind_some]
    show ∃ M', vr sc (d + 8) c_X6_tells (162, [(2, 0), (0, (n : Int)), (0, (l : Int)), (0, 3), (2, sO n)], [(0, _)], (K0, M2)) = _ ∧ _
    rw [e_X6_tells_162]
    exact ⟨M2, rfl, a2.tr b2⟩
  rw [if_neg w3, if_neg w3]
  by_cases w4 : w = 4
  · subst w4
    obtain ⟨M2, b1, b2⟩ := fleast_ok (sc := sc) (d := d) hok hxs hr hn z hl (what := 3) (w := 3) (of := (l : Int)) (Or.inr (Or.inr (Or.inl ⟨rfl, rfl, rfl⟩))) (fun v hv => Or.inr (Or.inr (Or.inl ⟨Or.inl rfl, by omega⟩))) hs1 a3 hx1 cn1
    rw [if_pos rfl, if_pos rfl, if_pos (show rg K0 6 0 = true from rfl), show w32 ((4 : Int) - 1) = 3 from rfl, b1, Option.bind_some]
    show ∃ M', vr sc (d + 8) c_X6_tells (173, [(2, 0), (0, (n : Int)), (0, (l : Int)), (0, 4), (2, sO n)], [(0, _)], (K0, M2)) = _ ∧ _
    rw [e_X6_tells_173]
    exact ⟨M2, rfl, a2.tr b2⟩
  rw [if_neg w4, if_neg w4]
  by_cases w5 : w = 5
  · subst w5
    obtain ⟨M2, b1, b2⟩ := fcount_ok (sc := sc) (d := d) hok hxs hr hn z hl (what := 5) (w := 4) (of := 0) (Or.inr (Or.inr (Or.inr (Or.inl ⟨rfl, rfl, rfl⟩)))) (fun v hv => Or.inr (Or.inr (Or.inl ⟨Or.inr rfl, by omega⟩))) hs1 a3 hx1 cn1
    rw [if_pos rfl, if_pos rfl, if_pos (show rg K0 6 0 = true from rfl), b1, Option.bind_some]
    show ∃ M', vr sc (d + 8) c_X6_tells (162, [(2, 0), (0, (n : Int)), (0, (l : Int)), (0, 5), (2, sO n)], [(0, _)], (K0, M2)) = _ ∧ _
    rw [e_X6_tells_162]
    exact ⟨M2, rfl, a2.tr b2⟩
  rw [if_neg w5, if_neg w5]
  by_cases w6 : w = 6
  · subst w6
    obtain ⟨M2, b1, b2⟩ := fleast_ok (sc := sc) (d := d) hok hxs hr hn z hl (what := 5) (w := 4) (of := 0) (Or.inr (Or.inr (Or.inr (Or.inl ⟨rfl, rfl, rfl⟩)))) (fun v hv => Or.inr (Or.inr (Or.inl ⟨Or.inr rfl, by omega⟩))) hs1 a3 hx1 cn1
    rw [if_pos rfl, if_pos rfl, if_pos (show rg K0 6 0 = true from rfl), show w32 ((6 : Int) - 1) = 5 from rfl, b1, Option.bind_some]
    show ∃ M', vr sc (d + 8) c_X6_tells (173, [(2, 0), (0, (n : Int)), (0, (l : Int)), (0, 6), (2, sO n)], [(0, _)], (K0, M2)) = _ ∧ _
    rw [e_X6_tells_173]
    exact ⟨M2, rfl, a2.tr b2⟩
  rw [if_neg w6, if_neg w6]
  by_cases w7 : w = 7
  · subst w7
    have hx6 := hxs.1
    obtain ⟨M2, b1, b2⟩ := fbits_ok (sc := sc) (d := d) hok hxs hr hn z hl (what := 7) (w := 6) (of := (l : Int)) (Or.inr (Or.inr (Or.inr (Or.inr ⟨rfl, rfl, rfl⟩)))) (N := xs.length) (fun v hv => Or.inr (Or.inr (Or.inr ⟨rfl, hv⟩))) (by omega) hs1 a3 hx1 cn1
    rw [if_pos rfl, if_pos rfl, if_pos (show og K0 6 0 4 = true from rfl), (Sk_04r hs1).1, if_pos (show og K0 2 58 1 = true from rfl), hx1.1, if_pos (show rg K0 6 0 = true from rfl), b1, Option.bind_some]
    show ∃ M', vr sc (d + 8) c_X6_tells (189, [(2, 0), (0, (n : Int)), (0, (l : Int)), (0, 7), (2, sO n)], [(0, _)], (K0, M2)) = _ ∧ _
    rw [e_X6_tells_189]
    exact ⟨M2, rfl, a2.tr b2⟩
  · obtain ⟨M2, b1, b2⟩ := flads_ok (sc := sc) (d := d) hok hxs hr hn z hs1 ht1 hx1 cn1
    rw [if_neg w7, if_neg w7, if_pos (show rg K0 6 0 = true from rfl), b1, Option.bind_some]
    show ∃ M', vr sc (d + 8) c_X6_tells (196, [(2, 0), (0, (n : Int)), (0, (l : Int)), (0, w), (2, sO n)], [(0, _)], (K0, M2)) = _ ∧ _
    rw [e_X6_tells_196]
    exact ⟨M2, rfl, a2.tr (b2.ft 20)⟩
