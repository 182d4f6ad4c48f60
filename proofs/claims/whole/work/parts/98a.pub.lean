/-! holds, evening, read: both sides -/
def holdsF (xs : List (List Int)) (t : Tn) (y : Int) : Int := if 0 ≤ y ∧ y < 6 then (if 0 ≤ tBy t y.toNat then strF xs t (tBy t y.toNat).toNat y.toNat (tno t y.toNat) else -3) else -2
theorem holds_c {sc : dS} {d : Nat} {M : dM} (hs : Sk M) {t : Tn} (ht : cT M 1 t) (hok : okT t) {xs : List (List Int)} (hx : cXs M xs) (hxs : okXs xs) (hr : (tRule t).toNat < xs.length) (y : Int) : ∃ M' : dM, vc sc (d + 7) 73 [(2, 0), (0, y)] (K0, M) = some ([(0, holdsF xs t y)], (K0, M')) ∧ FS M M' := by
  rw [vc_s (md := m_X6_holds) (L := [(2, 0), (0, y)]) rfl (Nat.le_of_ble_eq_true rfl) rfl]
  show ∃ M', vr sc (d + 6) c_X6_holds (0, [(2, 0), (0, y)], [], (K0, M)) = _ ∧ _
  rw [e_X6_holds_0, isFoot_ok, Option.bind_some]
  show ∃ M', vr sc (d + 6) c_X6_holds (4, [(2, 0), (0, y)], [(0, _)], (K0, M)) = _ ∧ _
  rw [e_X6_holds_4]
  unfold holdsF
  by_cases p : ¬ (0 ≤ y ∧ y < 6)
  · rw [bi_f p, if_neg (fun z => z rfl), if_neg p]
    exact ⟨M, rfl, FS.rf _⟩
  have p := Classical.not_not.mp p
  obtain ⟨f, rfl⟩ : ∃ n : Nat, y = n := ⟨y.toNat, by omega⟩
  have hf : f < 6 := by omega
  have o3 := hok.2.2 f hf
  have kt := ht.2.2 f hf
  rw [bi_t p, if_pos (by decide), if_pos p, Int.toNat_natCast, if_pos (show og K0 6 0 0 = true from rfl), (Sk_00 hs).1, if_pos (rg_tn isT_1), isTied_ok (d := d + 4) hs isT_1 hf, Option.bind_some, kt.2.1, ht.1.2.2.2]
  show ∃ M', vr sc (d + 6) c_X6_holds (18, [(2, 0), (0, (f : Int))], [(0, bi (0 ≤ tBy t f ∧ tBy t f < (tMany t : Int)))], (K0, M)) = _ ∧ _
  rw [e_X6_holds_18]
  by_cases q : ¬ 0 ≤ tBy t f
  · rw [bi_f (fun z => q z.1), if_neg (fun z => z rfl), if_neg q]
    exact ⟨M, rfl, FS.rf _⟩
  have q := Classical.not_not.mp q
  obtain ⟨l, hl⟩ : ∃ n : Nat, tBy t f = n := ⟨(tBy t f).toNat, by omega⟩
  have kn := isT_kn isT_1 hf
  have hn12 := pr_len hok hf
  obtain ⟨M1, a1, a2⟩ := turns_ok (sc := sc) (d := d + 2) kn hs o3.2.2.2.2.1 kt.2.2
  have ht1 := ht.fs isT_1 a2.fs
  have hs1 := a2.fs.sk hs
  have hx1 := hx.fs hxs.1 a2.fs
  rw [bi_t ⟨q, o3.2.2.2.1⟩, if_pos (by decide), if_pos q, if_pos (show og K0 6 0 4 = true from rfl), if_pos (show og K0 6 0 0 = true from rfl), if_pos (show og K0 6 0 0 = true from rfl), (Sk_00 hs).1, if_pos (og_tn isT_1 (by decide)), (Sk_T hs isT_1).2.2.2.2.1, if_pos (ag_t5 isT_1 (by omega) (by omega)), if_pos (show og K0 6 0 4 = true from rfl), if_pos (show og K0 6 0 0 = true from rfl), if_pos (og_tn isT_1 (by decide)), (Sk_T hs isT_1).2.2.2.2.2, if_pos (ag_t6 isT_1 (by omega) (by omega)), (Sk_04r hs).1, if_pos (show rg K0 2 58 = true from rfl), Sk_Tk hs isT_1 hf, a1, Option.bind_some, kt.2.1, hl]
  show ∃ M', vr sc (d + 6) c_X6_holds (58, [(2, 0), (0, (f : Int))], [(0, ((tno t f : Nat) : Int)), (0, (f : Int)), (0, (l : Int)), (2, 1), (2, 58)], (K0, M1)) = _ ∧ _
  obtain ⟨M2, b1, b2⟩ := strength_ok (sc := sc) (d := d) hs1 isT_1 ht1 hok hx1 hxs hr (l := l) (f := f) (n := tno t f) (by omega) hf (by unfold tno; omega)
  rw [e_X6_holds_58, if_pos (show rg K0 2 58 = true from rfl), b1, Option.bind_some, Int.toNat_natCast]
  show ∃ M', vr sc (d + 6) c_X6_holds (61, [(2, 0), (0, (f : Int))], [(0, _)], (K0, M2)) = _ ∧ _
  rw [e_X6_holds_61]
  exact ⟨M2, rfl, a2.fs.tr b2⟩
theorem holds_r {sc : dS} {d : Nat} {M : dM} (hs : Sk M) {t : Tn} (ht : rT M t) (hok : okT t) {xs : List (List Int)} (hx : rXs M xs) (hxs : okXs xs) (hr : (tRule t).toNat < xs.length) (y : Int) : ∃ M' : dM, vc sc (d + 50) 166 [(2, 107), (0, y)] (K0, M) = some ([(0, holdsF xs t y)], (K0, M')) ∧ RU M M' := by
  rw [vc_s (md := m_X7_holds) (L := [(2, 107), (0, y)]) rfl (Nat.le_of_ble_eq_true rfl) rfl]
  show ∃ M', vr sc (d + 49) c_X7_holds (0, [(2, 107), (0, y)], [], (K0, M)) = _ ∧ _
  rw [e_X7_holds_0, isFoot7_ok (d := d + 47), Option.bind_some]
  show ∃ M', vr sc (d + 49) c_X7_holds (4, [(2, 107), (0, y)], [(0, _)], (K0, M)) = _ ∧ _
  rw [e_X7_holds_4]
  unfold holdsF
  by_cases p : ¬ (0 ≤ y ∧ y < 6)
  · rw [bi_f p, if_neg (fun z => z rfl), if_neg p]
    exact ⟨M, rfl, RU.rf _⟩
  have p := Classical.not_not.mp p
  obtain ⟨f, rfl⟩ : ∃ n : Nat, y = n := ⟨y.toNat, by omega⟩
  have hf : f < 6 := by omega
  have o3 := hok.2.2 f hf
  have w31 : w32 (w32 (3 * (f : Int)) + 1) = ((3 * f + 1 : Nat) : Int) := w_t3 f 1 (by omega) (by omega)
  rw [bi_t p, if_pos (by decide), if_pos p, Int.toNat_natCast, if_pos (show og K0 7 107 10 = true from rfl), (Sk_m10 hs).1, w31]
  clear w31
  rw [if_pos (ag_112 (by omega) (by omega)), (ht.2.2 f hf).2.1]
  by_cases q : ¬ 0 ≤ tBy t f
  · rw [if_neg (by omega), if_neg q, e_X7_holds_34]
    exact ⟨M, rfl, RU.rf _⟩
  have q := Classical.not_not.mp q
  obtain ⟨M1, a1, a2⟩ := footHolds_ok (sc := sc) (d := d) hs ht hok hx hxs hr hf q
  rw [if_pos (by omega), if_pos (show rg K0 7 107 = true from rfl), a1, Option.bind_some, if_pos q]
  show ∃ M', vr sc (d + 49) c_X7_holds (34, [(2, 107), (0, (f : Int))], [(0, _)], (K0, M1)) = _ ∧ _
  rw [e_X7_holds_34]
  exact ⟨M1, rfl, a2⟩
def eveF (xs : List (List Int)) (t : Tn) : Int := if tDay t < 999 then pset (psB xs t) 6 else -3
def eveS (xs : List (List Int)) (t : Tn) : Tn := if tDay t < 999 then evS xs t else t
theorem evening_c {sc : dS} {d : Nat} {M : dM} (hs : Sk M) {t : Tn} (ht : cT M 1 t) (hok : okT t) {xs : List (List Int)} (hx : cXs M xs) (hxs : okXs xs) (hr : (tRule t).toNat < xs.length) : ∃ M' : dM, vc sc (d + 9) 75 [(2, 0)] (K0, M) = some ([(0, eveF xs t)], (K0, M')) ∧ FT 1 M M' ∧ cT M' 1 (eveS xs t) := by
  rw [vc_s (md := m_X6_evening) (L := [(2, 0)]) rfl (Nat.le_of_ble_eq_true rfl) rfl]
  show ∃ M', vr sc (d + 8) c_X6_evening (0, [(2, 0)], [], (K0, M)) = _ ∧ _
  unfold eveF eveS
  rw [e_X6_evening_0, if_pos (show og K0 6 0 0 = true from rfl), (Sk_00 hs).1, if_pos (og_tn isT_1 (by decide)), ht.1.1]
  by_cases p : tDay t < 999
  · obtain ⟨M1, a1, a2, a3⟩ := spend_ok (sc := sc) (d := d) hs isT_1 ht hok (by omega) hx hxs hr
    rw [if_pos p, if_pos p, if_pos p, if_pos (show og K0 6 0 4 = true from rfl), if_pos (show og K0 6 0 0 = true from rfl), (Sk_04r hs).1, if_pos (show rg K0 2 58 = true from rfl), a1, Option.bind_some]
    show ∃ M', vr sc (d + 8) c_X6_evening (27, [(2, 0)], [(0, _)], (K0, M1)) = _ ∧ _
    rw [e_X6_evening_27]
    exact ⟨M1, rfl, a2, a3⟩
  · rw [if_neg p, if_neg p, if_neg p]
    exact ⟨M, rfl, FT.rf _ _, ht⟩
theorem evening_r {sc : dS} {d : Nat} {M : dM} (hs : Sk M) {t : Tn} (ht : rT M t) (hok : okT t) (hd : tDay t ≤ 999) {xs : List (List Int)} (hx : rXs M xs) (hxs : okXs xs) (hr : (tRule t).toNat < xs.length) : ∃ M' : dM, vc sc (d + 52) 171 [(2, 107)] (K0, M) = some ([(0, eveF xs t)], (K0, M')) ∧ FU M M' ∧ rT M' (eveS xs t) := by
  rw [vc_s (md := m_X7_evening) (L := [(2, 107)]) rfl (Nat.le_of_ble_eq_true rfl) rfl]
  show ∃ M', vr sc (d + 51) c_X7_evening (0, [(2, 107)], [], (K0, M)) = _ ∧ _
  unfold eveF eveS
  rw [e_X7_evening_0, if_pos (show og K0 7 107 7 = true from rfl), ht.1.1]
  by_cases p : tDay t < 999
  · obtain ⟨M1, a1, a2, a3⟩ := passes_ok (sc := sc) (d := d) hs ht hok (by omega) hx hxs hr
    rw [if_pos (by omega), if_pos p, if_pos p, if_pos (show rg K0 7 107 = true from rfl), a1, Option.bind_some]
    show ∃ M', vr sc (d + 51) c_X7_evening (19, [(2, 107)], [(0, _)], (K0, M1)) = _ ∧ _
    rw [e_X7_evening_19]
    exact ⟨M1, rfl, a2, a3⟩
  · rw [if_neg (by omega), if_neg p, if_neg p, e_X7_evening_19]
    exact ⟨M, rfl, FU.rf _, ht⟩
def readF (xs : List (List Int)) (t : Tn) (x : Int) : Int := if 0 ≤ x ∧ x < (tMany t : Int) then sayF xs t 2 x.toNat 0 0 else -1000
theorem read_c {sc : dS} {d : Nat} {M : dM} (hs : Sk M) {t : Tn} (ht : cT M 1 t) (hok : okT t) {xs : List (List Int)} (hx : cXs M xs) (hxs : okXs xs) (hr : (tRule t).toNat < xs.length) (x : Int) : ∃ M' : dM, vc sc (d + 6) 64 [(2, 0), (0, x)] (K0, M) = some ([(0, readF xs t x)], (K0, M')) ∧ FS M M' := by
  rw [vc_s (md := m_X6_read) (L := [(2, 0), (0, x)]) rfl (Nat.le_of_ble_eq_true rfl) rfl]
  show ∃ M', vr sc (d + 5) c_X6_read (0, [(2, 0), (0, x)], [], (K0, M)) = _ ∧ _
  rw [e_X6_read_0, if_pos (show og K0 6 0 0 = true from rfl), (Sk_00 hs).1, if_pos (rg_tn isT_1), hasLad_ok isT_1, Option.bind_some, ht.1.2.2.2]
  show ∃ M', vr sc (d + 5) c_X6_read (8, [(2, 0), (0, x)], [(0, _)], (K0, M)) = _ ∧ _
  rw [e_X6_read_8]
  unfold readF
  by_cases p : ¬ (0 ≤ x ∧ x < (tMany t : Int))
  · rw [bi_f p, if_neg (fun z => z rfl), if_neg p]
    exact ⟨M, rfl, FS.rf _⟩
  have p := Classical.not_not.mp p
  obtain ⟨l, rfl⟩ : ∃ n : Nat, x = n := ⟨x.toNat, by omega⟩
  obtain ⟨M1, a1, a2⟩ := say_ok (sc := sc) (d := d) hs isT_1 ht hok hx hxs hr (w := 2) (by decide) (l := l) (by omega) 0 0
  rw [bi_t p, if_pos (by decide), if_pos p, Int.toNat_natCast, if_pos (show og K0 6 0 4 = true from rfl), if_pos (show og K0 6 0 0 = true from rfl), (Sk_04r hs).1, (Sk_00 hs).1, if_pos (show rg K0 2 58 = true from rfl), show vc sc (d + 5) 34 [(2, 58), (2, 1), (0, 2), (0, (l : Int)), (0, 0), (0, 0)] (K0, M) = _ from a1, Option.bind_some]
  show ∃ M', vr sc (d + 5) c_X6_read (30, [(2, 0), (0, (l : Int))], [(0, _)], (K0, M1)) = _ ∧ _
  rw [e_X6_read_30]
  exact ⟨M1, rfl, a2⟩
theorem read_r {sc : dS} {d : Nat} {M : dM} (hs : Sk M) {t : Tn} (ht : rT M t) (hok : okT t) {xs : List (List Int)} (hx : rXs M xs) (hxs : okXs xs) (hr : (tRule t).toNat < xs.length) (x : Int) : ∃ M' : dM, vc sc (d + 48) 146 [(2, 107), (0, x)] (K0, M) = some ([(0, readF xs t x)], (K0, M')) ∧ RZ M M' := by
  rw [vc_s (md := m_X7_read) (L := [(2, 107), (0, x)]) rfl (Nat.le_of_ble_eq_true rfl) rfl]
  show ∃ M', vr sc (d + 47) c_X7_read (0, [(2, 107), (0, x)], [], (K0, M)) = _ ∧ _
  rw [e_X7_read_0, if_pos (show rg K0 7 107 = true from rfl), isLad_ok (d := d + 45) hok.1.2.2.2.2.2 ht.1.2.2.2, Option.bind_some]
  show ∃ M', vr sc (d + 47) c_X7_read (5, [(2, 107), (0, x)], [(0, _)], (K0, M)) = _ ∧ _
  rw [e_X7_read_5]
  unfold readF
  by_cases p : ¬ (0 ≤ x ∧ x < (tMany t : Int))
  · rw [bi_f p, if_pos rfl, if_neg p]
    exact ⟨M, rfl, RZ.rf _⟩
  have p := Classical.not_not.mp p
  obtain ⟨l, rfl⟩ : ∃ n : Nat, x = n := ⟨x.toNat, by omega⟩
  obtain ⟨M1, a1, a2⟩ := says_r (sc := sc) (d := d) hs ht hok hx hxs hr (w := 2) (by decide) (l := l) (by omega) (turns := 0) ⟨by decide, by decide⟩ (f := -1) (Or.inl ⟨rfl, rfl⟩)
  rw [bi_t p, if_neg (by decide), if_pos p, Int.toNat_natCast, if_pos (show rg K0 7 107 = true from rfl), show vc sc (d + 47) 145 [(2, 107), (0, 2), (0, (l : Int)), (0, -1), (0, 0)] (K0, M) = _ from a1, Option.bind_some]
  show ∃ M', vr sc (d + 47) c_X7_read (16, [(2, 107), (0, (l : Int))], [(0, _)], (K0, M1)) = _ ∧ _
  rw [e_X7_read_16]
  exact ⟨M1, rfl, a2⟩
