/-! tells, the class's loops -/
theorem fw_ok {sc : dS} {d : Nat} {T : Int} (hT : isT T) {t : Tn} (hok : okT t) {xs : List (List Int)} (hxs : okXs xs) (hr : (tRule t).toNat < xs.length) {n : Nat} (hn : n < 4) {o : Int} {L : List Int} (hL : L.length ≤ 13) {l : Nat} (hl : l < tMany t) {M : dM} (hs : Sk M) (ht : cT M T t) (hx : cXs M xs) (hc : cS M n o L) : ∃ M' : dM, vc sc (d + 7) 87 [(2, 0), (2, T), (2, sO n), (0, (l : Int))] (K0, M) = some ([(0, fo xs t l L)], (K0, M')) ∧ FS M M' := by
  rw [vc_s (md := m_X6_firstOtherwise) (L := [(2, 0), (2, T), (2, sO n), (0, (l : Int)), (3, 0)]) rfl (Nat.le_of_ble_eq_true rfl) rfl]
  show ∃ M', vr sc (d + 6) c_X6_firstOtherwise (0, [(2, 0), (2, T), (2, sO n), (0, (l : Int)), (3, 0)], [], (K0, M)) = _ ∧ _
  have key : ∀ (m i : Nat) (N : dM), L.length - i = m → i ≤ L.length → Sk N → cT N T t → cXs N xs → cS N n o L → ∃ N' : dM, vr sc (d + 6) c_X6_firstOtherwise (3, [(2, 0), (2, T), (2, sO n), (0, (l : Int)), (0, (i : Int))], [], (K0, N)) = some ([(0, foI xs t l L m i)], (K0, N')) ∧ FS N N' := by
    intro m
    induction m with
    | zero =>
      intro i N hm hi hs ht hx hc
      rw [e_X6_firstOtherwise_3, if_pos (og_s hn (by decide)), hc.2.1, if_pos (by omega)]
      exact ⟨N, rfl, FS.rf _⟩
    | succ m ih =>
      intro i N hm hi hs ht hx hc
      have hi' : i < L.length := by omega
      obtain ⟨N1, b1, b2⟩ := strength_ok (sc := sc) (d := d) hs hT ht hok hx hxs hr (l := l) (f := 0) (n := i) hl (by omega) (by omega)
      have ed : L.getD i 0 = L[i] := getD_get hi'
      rw [e_X6_firstOtherwise_3, if_pos (og_s hn (by decide)), hc.2.1, if_neg (by omega), if_pos (og_s hn (by decide)), (Sk_s hs hn).2, if_pos (ag_s hn (by omega) (by omega)), if_pos (show og K0 6 0 4 = true from rfl), (Sk_04r hs).1, if_pos (show rg K0 2 58 = true from rfl), show vc sc (d + 6) 39 [(2, 58), (2, T), (0, (l : Int)), (0, 0), (0, (i : Int))] (K0, N) = _ from b1, Option.bind_some, hc.2.get hi']
      show ∃ N', vr sc (d + 6) c_X6_firstOtherwise (31, [(2, 0), (2, T), (2, sO n), (0, (l : Int)), (0, (i : Int))], [(0, strF xs t l 0 i), (0, L[i])], (K0, N1)) = _ ∧ _
      unfold foI
      rw [e_X6_firstOtherwise_31, ed]
      by_cases z : L[i] = strF xs t l 0 i
      · obtain ⟨N2, c1, c2⟩ := ih (i + 1) N1 (by omega) (by omega) (b2.sk hs) (ht.fs hT b2) (hx.fs hxs.1 b2) (hc.fr hn b2.fr)
        rw [if_pos z, if_pos z, w_s i (by omega)]
        exact ⟨N2, c1, b2.tr c2⟩
      · rw [if_neg z, if_neg z]
        exact ⟨N1, rfl, b2⟩
  rw [e_X6_firstOtherwise_0]
  exact key L.length 0 M rfl (by omega) hs ht hx hc
def wOf (l : Nat) (what w of : Int) : Prop := (what = 1 ∧ w = 5 ∧ of = (l : Int)) ∨ (what = 2 ∧ w = 2 ∧ of = (l : Int)) ∨ (what = 3 ∧ w = 3 ∧ of = (l : Int)) ∨ (what = 5 ∧ w = 4 ∧ of = 0) ∨ (what = 7 ∧ w = 6 ∧ of = (l : Int))
theorem suppose_ok {sc : dS} {d : Nat} {l : Nat} (hl : l < 5) {what w of : Int} (hw : wOf l what w of) {v : Nat} (hv : v < 100) {M : dM} (hs : Sk M) {s : Tn} (ht : cT M 20 s) (h1 : M 0 1 = 20) : ∃ M' : dM, vc sc (d + 1) 88 [(2, 0), (0, (l : Int)), (0, what), (0, (v : Int))] (K0, M) = some ([], (K0, M')) ∧ FT 20 M M' ∧ cT M' 20 (tLay s w of (v : Int)) := by
  have z := Sk_T hs isT_20
  rw [vc_s (md := m_X6_suppose) (L := [(2, 0), (0, (l : Int)), (0, what), (0, (v : Int))]) rfl (Nat.le_of_ble_eq_true rfl) rfl]
  show ∃ M', vr sc d c_X6_suppose (0, [(2, 0), (0, (l : Int)), (0, what), (0, (v : Int))], [], (K0, M)) = _ ∧ _
  rw [e_X6_suppose_0, h1]
  have o01 : og K0 6 0 1 = true := rfl
  rcases hw with ⟨rfl, rfl, rfl⟩ | ⟨rfl, rfl, rfl⟩ | ⟨rfl, rfl, rfl⟩ | ⟨rfl, rfl, rfl⟩ | ⟨rfl, rfl, rfl⟩
  · rw [if_pos rfl, if_pos o01, if_pos (og_tn isT_20 (by decide)), z.1, if_pos (ag_t1 isT_20 (by omega) (by omega))]
    exact ⟨_, rfl, FT.up (Or.inr (Or.inl (by decide))) _, cT_kd isT_20 ht _⟩
  · rw [if_neg (by decide), if_pos rfl, if_pos o01, if_pos (og_tn isT_20 (by decide)), z.2.1, if_pos (ag_t2 isT_20 (by omega) (by omega))]
    exact ⟨_, rfl, FT.up (Or.inr (Or.inl (by decide))) _, cT_nm isT_20 ht _⟩
  · rw [if_neg (by decide), if_neg (by decide), if_pos rfl, if_pos o01, if_pos (og_tn isT_20 (by decide)), z.2.2.1, if_pos (ag_t3 isT_20 (by omega) (by omega))]
    exact ⟨_, rfl, FT.up (Or.inr (Or.inl (by decide))) _, cT_sk isT_20 ht _⟩
  · rw [if_neg (by decide), if_neg (by decide), if_neg (by decide), if_neg (by decide), if_pos rfl, if_pos o01, if_pos (og_tn isT_20 (by decide)), z.2.2.2.1, if_pos (ag_t4 isT_20 (by omega) (by omega))]
    exact ⟨_, rfl, FT.up (Or.inr (Or.inl (by decide))) _, cT_wk isT_20 (f := 0) ht _⟩
  · rw [if_neg (by decide), if_neg (by decide), if_neg (by decide), if_neg (by decide), if_neg (by decide), if_pos o01, if_pos (og_tn isT_20 (by decide)), if_pos ⟨by omega, by omega⟩]
    exact ⟨_, rfl, FT.up (Or.inl (by decide)) _, cT_rl isT_20 ht _⟩
/-- thought is as now but for what is asked -/
def tIs (M : dM) (t : Tn) (w of : Int) : Prop := ∃ s : Tn, cT M 20 s ∧ ∀ v : Int, tLay s w of v = tLay t w of v
theorem fit_ok {sc : dS} {d : Nat} {t : Tn} (hok : okT t) {xs : List (List Int)} (hxs : okXs xs) (hr : (tRule t).toNat < xs.length) {n : Nat} (hn : n < 4) {o : Int} {L : List Int} (hL : L.length ≤ 13) {l : Nat} (hl : l < tMany t) {what w of : Int} (hw : wOf l what w of) {v : Nat} (hv : vOk xs w v) {M : dM} (hs : Sk M) (ht : tIs M t w of) (hx : cXs M xs) (hc : cS M n o L) : ∃ M1 M2 : dM, vc sc (d + 7) 88 [(2, 0), (0, (l : Int)), (0, what), (0, (v : Int))] (K0, M) = some ([], (K0, M1)) ∧ M1 0 1 = 20 ∧ vc sc (d + 7) 87 [(2, 0), (2, 20), (2, sO n), (0, (l : Int))] (K0, M1) = some ([(0, fo xs (tLay t w of (v : Int)) l L)], (K0, M2)) ∧ FT 20 M M2 ∧ Sk M2 ∧ tIs M2 t w of ∧ cXs M2 xs ∧ cS M2 n o L := by
  obtain ⟨s, ht, hq⟩ := ht
  have hl5 : l < 5 := by have := hok.1.2.2.2.2.2; omega
  have h100 : v < 100 := by unfold vOk at hv; have := hxs.1; omega
  have h2w : 2 ≤ w := by unfold vOk at hv; omega
  obtain ⟨M1, a1, a2, a3⟩ := suppose_ok (sc := sc) (d := d + 6) hl5 hw h100 hs ht (Sk_00 hs).2.1
  rw [hq] at a3
  have hs1 := a2.sk isT_20 hs
  have hx1 := hx.ft isT_20 hxs.1 a2
  have hc1 := hc.fr hn (FT20_fr a2)
  obtain ⟨M2, b1, b2⟩ := fw_ok (sc := sc) (d := d) isT_20 (okT_lay hok hxs.1 hv) hxs (rule_lay hr hv) hn hL (l := l) (by rw [many_lay]; exact hl) hs1 a3 hx1 hc1
  exact ⟨M1, M2, a1, (Sk_00 hs1).2.1, b1, a2.tr (b2.ft 20), b2.sk hs1, ⟨_, a3.fs isT_20 b2, fun u => lay_lay t h2w _ _ _⟩, hx1.fs hxs.1 b2, hc1.fr hn b2.fr⟩
theorem bits_loop {sc : dS} {d : Nat} {t : Tn} (hok : okT t) {xs : List (List Int)} (hxs : okXs xs) (hr : (tRule t).toNat < xs.length) {n : Nat} (hn : n < 4) {o : Int} {L : List Int} (hL : L.length ≤ 13) {l : Nat} (hl : l < tMany t) {what w of : Int} (hw : wOf l what w of) {N : Nat} (hN : ∀ v : Nat, v < N → vOk xs w v) (hN1 : N < 1000) : ∀ (m v : Nat) (M : dM), N - v = m → v ≤ N → Sk M → tIs M t w of → cXs M xs → cS M n o L →
    ∃ M' : dM, vr sc (d + 7) c_X6_fittingBits (6, [(2, 0), (2, sO n), (0, (l : Int)), (0, what), (0, (N : Int)), (0, pset (fv xs t w of l L) v), (0, (v : Int))], [], (K0, M)) = some ([(0, pset (fv xs t w of l L) N)], (K0, M')) ∧ FT 20 M M' := by
  intro m
  induction m with
  | zero =>
    intro v M hm hv hs ht hx hc
    have e : v = N := by omega
    subst e
    rw [e_X6_fittingBits_6, if_pos (Int.le_refl _)]
    exact ⟨M, rfl, FT.rf _ _⟩
  | succ m ih =>
    intro v M hm hv hs ht hx hc
    obtain ⟨M1, M2, a1, a2, a3, a4, a5, a6, a7, a8⟩ := fit_ok (sc := sc) (d := d) hok hxs hr hn hL hl hw (hN v (by omega)) hs ht hx hc
    obtain ⟨M3, b1, b2⟩ := ih (v + 1) M2 (by omega) (by omega) a5 a6 a7 a8
    rw [e_X6_fittingBits_6, if_neg (by omega), if_pos (show rg K0 6 0 = true from rfl), a1, Option.bind_some]
    show ∃ M', vr sc (d + 7) c_X6_fittingBits (21, [(2, 0), (2, sO n), (0, (l : Int)), (0, what), (0, (N : Int)), (0, pset (fv xs t w of l L) v), (0, (v : Int))], [], (K0, M1)) = _ ∧ _
    rw [e_X6_fittingBits_21, if_pos (show og K0 6 0 1 = true from rfl), a2, if_pos (show rg K0 6 0 = true from rfl), a3, Option.bind_some]
    show ∃ M', vr sc (d + 7) c_X6_fittingBits (31, [(2, 0), (2, sO n), (0, (l : Int)), (0, what), (0, (N : Int)), (0, pset (fv xs t w of l L) v), (0, (v : Int))], [(0, _)], (K0, M2)) = _ ∧ _
    rw [e_X6_fittingBits_31, w_s v (by omega)]
    refine ⟨M3, ?_, a4.tr b2⟩
    rw [← b1]
    show _ = vr sc (d + 7) c_X6_fittingBits (6, [(2, 0), (2, sO n), (0, (l : Int)), (0, what), (0, (N : Int)), (0, if fv xs t w of l L v = true then i_or (pset (fv xs t w of l L) v) (i_shl 1 v) else pset (fv xs t w of l L) v), (0, ((v + 1 : Nat) : Int))], [], (K0, M2))
    by_cases z : fo xs (tLay t w of (v : Int)) l L = -1
    · rw [if_neg (fun y => y z), if_pos (show fv xs t w of l L v = true from decide_eq_true z)]
    · rw [if_pos z, if_neg (show ¬ fv xs t w of l L v = true from fun y => z (of_decide_eq_true y))]
theorem fbits_ok {sc : dS} {d : Nat} {t : Tn} (hok : okT t) {xs : List (List Int)} (hxs : okXs xs) (hr : (tRule t).toNat < xs.length) {n : Nat} (hn : n < 4) {o : Int} {L : List Int} (hL : L.length ≤ 13) {l : Nat} (hl : l < tMany t) {what w of : Int} (hw : wOf l what w of) {N : Nat} (hN : ∀ v : Nat, v < N → vOk xs w v) (hN1 : N < 1000) {M : dM} (hs : Sk M) (ht : cT M 20 t) (hx : cXs M xs) (hc : cS M n o L) : ∃ M' : dM, vc sc (d + 8) 89 [(2, 0), (2, sO n), (0, (l : Int)), (0, what), (0, (N : Int))] (K0, M) = some ([(0, pset (fv xs t w of l L) N)], (K0, M')) ∧ FT 20 M M' := by
  rw [vc_s (md := m_X6_fittingBits) (L := [(2, 0), (2, sO n), (0, (l : Int)), (0, what), (0, (N : Int)), (3, 0), (3, 0)]) rfl (Nat.le_of_ble_eq_true rfl) rfl]
  show ∃ M', vr sc (d + 7) c_X6_fittingBits (0, [(2, 0), (2, sO n), (0, (l : Int)), (0, what), (0, (N : Int)), (3, 0), (3, 0)], [], (K0, M)) = _ ∧ _
  rw [e_X6_fittingBits_0]
  exact bits_loop (sc := sc) (d := d) hok hxs hr hn hL hl hw hN hN1 N 0 M rfl (by omega) hs ⟨t, ht, fun _ => rfl⟩ hx hc
theorem fcount_ok {sc : dS} {d : Nat} {t : Tn} (hok : okT t) {xs : List (List Int)} (hxs : okXs xs) (hr : (tRule t).toNat < xs.length) {n : Nat} (hn : n < 4) {o : Int} {L : List Int} (hL : L.length ≤ 13) {l : Nat} (hl : l < tMany t) {what w of : Int} (hw : wOf l what w of) (hN : ∀ v : Nat, v < 100 → vOk xs w v) {M : dM} (hs : Sk M) (ht : cT M 20 t) (hx : cXs M xs) (hc : cS M n o L) : ∃ M' : dM, vc sc (d + 8) 90 [(2, 0), (2, sO n), (0, (l : Int)), (0, what)] (K0, M) = some ([(0, ((cnt (fv xs t w of l L) 100 : Nat) : Int))], (K0, M')) ∧ FT 20 M M' := by
  have key : ∀ (m v : Nat) (M : dM), 100 - v = m → v ≤ 100 → Sk M → tIs M t w of → cXs M xs → cS M n o L →
      ∃ M' : dM, vr sc (d + 7) c_X6_fittingCount (6, [(2, 0), (2, sO n), (0, (l : Int)), (0, what), (0, ((cnt (fv xs t w of l L) v : Nat) : Int)), (0, (v : Int))], [], (K0, M)) = some ([(0, ((cnt (fv xs t w of l L) 100 : Nat) : Int))], (K0, M')) ∧ FT 20 M M' := by
    intro m
    induction m with
    | zero =>
      intro v M hm hv hs ht hx hc
      have e : v = 100 := by omega
      subst e
      rw [e_X6_fittingCount_6, if_pos (by decide)]
      exact ⟨M, rfl, FT.rf _ _⟩
    | succ m ih =>
      intro v M hm hv hs ht hx hc
      have cl := cnt_le (fv xs t w of l L) v
      obtain ⟨M1, M2, a1, a2, a3, a4, a5, a6, a7, a8⟩ := fit_ok (sc := sc) (d := d) hok hxs hr hn hL hl hw (hN v (by omega)) hs ht hx hc
      obtain ⟨M3, b1, b2⟩ := ih (v + 1) M2 (by omega) (by omega) a5 a6 a7 a8
      rw [e_X6_fittingCount_6, if_neg (by omega), if_pos (show rg K0 6 0 = true from rfl), a1, Option.bind_some]
      show ∃ M', vr sc (d + 7) c_X6_fittingCount (21, [(2, 0), (2, sO n), (0, (l : Int)), (0, what), (0, _), (0, (v : Int))], [], (K0, M1)) = _ ∧ _
      rw [e_X6_fittingCount_21, if_pos (show og K0 6 0 1 = true from rfl), a2, if_pos (show rg K0 6 0 = true from rfl), a3, Option.bind_some]
      show ∃ M', vr sc (d + 7) c_X6_fittingCount (31, [(2, 0), (2, sO n), (0, (l : Int)), (0, what), (0, _), (0, (v : Int))], [(0, _)], (K0, M2)) = _ ∧ _
      rw [e_X6_fittingCount_31, w_s v (by omega), w_s _ (by omega)]
      refine ⟨M3, ?_, a4.tr b2⟩
      rw [← b1]
      show _ = vr sc (d + 7) c_X6_fittingCount (6, [(2, 0), (2, sO n), (0, (l : Int)), (0, what), (0, ((if fv xs t w of l L v = true then cnt (fv xs t w of l L) v + 1 else cnt (fv xs t w of l L) v : Nat) : Int)), (0, ((v + 1 : Nat) : Int))], [], (K0, M2))
      by_cases z : fo xs (tLay t w of (v : Int)) l L = -1
      · rw [if_neg (fun y => y z), if_pos (show fv xs t w of l L v = true from decide_eq_true z)]
      · rw [if_pos z, if_neg (show ¬ fv xs t w of l L v = true from fun y => z (of_decide_eq_true y))]
  rw [vc_s (md := m_X6_fittingCount) (L := [(2, 0), (2, sO n), (0, (l : Int)), (0, what), (3, 0), (3, 0)]) rfl (Nat.le_of_ble_eq_true rfl) rfl]
  show ∃ M', vr sc (d + 7) c_X6_fittingCount (0, [(2, 0), (2, sO n), (0, (l : Int)), (0, what), (3, 0), (3, 0)], [], (K0, M)) = _ ∧ _
  rw [e_X6_fittingCount_0]
  exact key 100 0 M rfl (by omega) hs ⟨t, ht, fun _ => rfl⟩ hx hc
theorem fleast_ok {sc : dS} {d : Nat} {t : Tn} (hok : okT t) {xs : List (List Int)} (hxs : okXs xs) (hr : (tRule t).toNat < xs.length) {n : Nat} (hn : n < 4) {o : Int} {L : List Int} (hL : L.length ≤ 13) {l : Nat} (hl : l < tMany t) {what w of : Int} (hw : wOf l what w of) (hN : ∀ v : Nat, v < 100 → vOk xs w v) {M : dM} (hs : Sk M) (ht : cT M 20 t) (hx : cXs M xs) (hc : cS M n o L) : ∃ M' : dM, vc sc (d + 8) 91 [(2, 0), (2, sO n), (0, (l : Int)), (0, what)] (K0, M) = some ([(0, lea (fv xs t w of l L) 100)], (K0, M')) ∧ FT 20 M M' := by
  have key : ∀ (m v : Nat) (M : dM), 100 - v = m → v ≤ 100 → lea (fv xs t w of l L) v = -1 → Sk M → tIs M t w of → cXs M xs → cS M n o L →
      ∃ M' : dM, vr sc (d + 7) c_X6_fittingLeast (3, [(2, 0), (2, sO n), (0, (l : Int)), (0, what), (0, (v : Int))], [], (K0, M)) = some ([(0, lea (fv xs t w of l L) 100)], (K0, M')) ∧ FT 20 M M' := by
    intro m
    induction m with
    | zero =>
      intro v M hm hv hle hs ht hx hc
      have e : v = 100 := by omega
      subst e
      rw [e_X6_fittingLeast_3, if_pos (by decide), hle]
      exact ⟨M, rfl, FT.rf _ _⟩
    | succ m ih =>
      intro v M hm hv hle hs ht hx hc
      obtain ⟨M1, M2, a1, a2, a3, a4, a5, a6, a7, a8⟩ := fit_ok (sc := sc) (d := d) hok hxs hr hn hL hl hw (hN v (by omega)) hs ht hx hc
      rw [e_X6_fittingLeast_3, if_neg (by omega), if_pos (show rg K0 6 0 = true from rfl), a1, Option.bind_some]
      show ∃ M', vr sc (d + 7) c_X6_fittingLeast (18, [(2, 0), (2, sO n), (0, (l : Int)), (0, what), (0, (v : Int))], [], (K0, M1)) = _ ∧ _
      rw [e_X6_fittingLeast_18, if_pos (show og K0 6 0 1 = true from rfl), a2, if_pos (show rg K0 6 0 = true from rfl), a3, Option.bind_some]
      show ∃ M', vr sc (d + 7) c_X6_fittingLeast (28, [(2, 0), (2, sO n), (0, (l : Int)), (0, what), (0, (v : Int))], [(0, _)], (K0, M2)) = _ ∧ _
      rw [e_X6_fittingLeast_28, w_s v (by omega)]
      by_cases z : fo xs (tLay t w of (v : Int)) l L = -1
      · have g := lea_up (b := fv xs t w of l L) hle (decide_eq_true z) (99 - v)
        rw [show v + 1 + (99 - v) = 100 by omega] at g
        rw [if_neg (fun y => y z), g]
        exact ⟨M2, rfl, a4⟩
      · obtain ⟨M3, b1, b2⟩ := ih (v + 1) M2 (by omega) (by omega) (by
          show (if lea (fv xs t w of l L) v = -1 then (if fv xs t w of l L v = true then (v : Int) else -1) else lea (fv xs t w of l L) v) = -1
          rw [if_pos hle, if_neg (show ¬ fv xs t w of l L v = true from fun y => z (of_decide_eq_true y))]) a5 a6 a7 a8
        rw [if_pos z]
        exact ⟨M3, b1, a4.tr b2⟩
  rw [vc_s (md := m_X6_fittingLeast) (L := [(2, 0), (2, sO n), (0, (l : Int)), (0, what), (3, 0)]) rfl (Nat.le_of_ble_eq_true rfl) rfl]
  show ∃ M', vr sc (d + 7) c_X6_fittingLeast (0, [(2, 0), (2, sO n), (0, (l : Int)), (0, what), (3, 0)], [], (K0, M)) = _ ∧ _
  rw [e_X6_fittingLeast_0]
  exact key 100 0 M rfl (by omega) rfl hs ⟨t, ht, fun _ => rfl⟩ hx hc
