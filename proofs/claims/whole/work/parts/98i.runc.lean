/-! run and lasts, class side; image and back, class side -/
theorem FT20_fr {M M' : dM} (h : FT 20 M M') : Fr M M' := fun x k g => by
  have key : (∀ k ∈ List.range 4, scr 20 ((k : Nat) : Int) = true) ∧ (∀ j ∈ List.range 5, SCO.elem (21 + ((j : Nat) : Int)) = true) ∧ ∀ f ∈ List.range 6, scr (27 + 2 * ((f : Nat) : Int)) 1 = true ∧ SCO.elem (28 + 2 * ((f : Nat) : Int)) = true := by decide +kernel
  obtain ⟨k1, k2, k3⟩ := key
  refine h x k (fun z => ?_) (fun z => by rw [z, scr_o (by decide +kernel)] at g; cases g) (fun z => by rw [z, scr_o (by decide +kernel)] at g; cases g) (fun z => by rw [z, scr_o (by decide +kernel)] at g; cases g) (fun z => by rw [z.1, z.2, show scr 62 1 = true by decide +kernel] at g; cases g)
  have : scr x k = true := by
    rcases z with ⟨rfl, h0, h1⟩ | ⟨h0, h1⟩ | ⟨h0, h1, h2⟩
    · have := k1 k.toNat (List.mem_range.mpr (by omega))
      rw [show ((k.toNat : Nat) : Int) = k by omega] at this
      exact this
    · have := k2 (x - 21).toNat (List.mem_range.mpr (by omega))
      rw [show 21 + (((x - 21).toNat : Nat) : Int) = x by omega] at this
      exact scr_o this k
    · by_cases e : (x - 20) % 2 = 0
      · have := (k3 ((x - 28) / 2).toNat (List.mem_range.mpr (by omega))).2
        rw [show 28 + 2 * ((((x - 28) / 2).toNat : Nat) : Int) = x by omega] at this
        exact scr_o this k
      · have := (k3 ((x - 27) / 2).toNat (List.mem_range.mpr (by omega))).1
        rw [show 27 + 2 * ((((x - 27) / 2).toNat : Nat) : Int) = x by omega] at this
        rw [h2.elim (fun z => absurd z e) id]
        exact this
  rw [this] at g
  cases g
theorem isT_20 : isT 20 := (by decide : (20 : Int) ∈ TNL)
theorem isT_39 : isT 39 := (by decide : (39 : Int) ∈ TNL)
def itE (xs : List (List Int)) : Nat → Tn → Tn
  | 0, t => t
  | n + 1, t => itE xs n (evS xs t)
def itP (xs : List (List Int)) : Nat → Tn → Nat
  | 0, _ => 0
  | n + 1, t => popc (pset (psB xs t) 6).toNat + itP xs n (evS xs t)
theorem okT_itE {xs : List (List Int)} : ∀ (n : Nat) {t : Tn}, okT t → tDay t + n ≤ 99999 → okT (itE xs n t) := by
  intro n
  induction n with
  | zero => intro t h _; exact h
  | succ n ih =>
    intro t h hd
    have e := evS_1 xs t
    exact ih (okT_evS h (by omega)) (by rw [e.1]; omega)
theorem itP_le {xs : List (List Int)} : ∀ (n : Nat) (t : Tn), itP xs n t ≤ 6 * n := by
  intro n
  induction n with
  | zero => intro t; exact Nat.le_refl _
  | succ n ih =>
    intro t
    have a := ih (evS xs t)
    have pr := pset_r (b := psB xs t) 6 (by omega)
    have b := popc_6 (pset (psB xs t) 6).toNat (List.mem_range.mpr (by omega))
    show popc _ + itP xs n (evS xs t) ≤ 6 * (n + 1)
    omega
theorem itE_1 (xs : List (List Int)) : ∀ (n : Nat) (t : Tn), tRule (itE xs n t) = tRule t ∧ tMany (itE xs n t) = tMany t := by
  intro n
  induction n with
  | zero => intro t; exact ⟨rfl, rfl⟩
  | succ n ih =>
    intro t
    have e := evS_1 xs t
    have a := ih (evS xs t)
    exact ⟨a.1.trans e.2.2.1, a.2.trans e.2.2.2⟩
def runF (xs : List (List Int)) (t : Tn) (x n w : Int) : Int := if 0 ≤ x ∧ x < (tMany t : Int) then (if 0 ≤ n ∧ n ≤ 20 then (if 0 ≤ w ∧ w ≤ 2 then (if w = 0 then tSkl (itE xs n.toNat t) x.toNat else if w = 1 then pset (tdB (itE xs n.toNat t)) 6 else ((itP xs n.toNat t : Nat) : Int)) else -1000) else -1000) else -1000
theorem run_loop_c {sc : dS} {d : Nat} {xs : List (List Int)} (hxs : okXs xs) {x w : Int} {N : Nat} (hN : N ≤ 20) : ∀ (m i a : Nat) (M : dM) (t : Tn), N - i = m → i ≤ N → a ≤ 6 * i → Sk M → cT M 20 t → okT t → tDay t + m ≤ 99999 → cXs M xs → (tRule t).toNat < xs.length →
    ∃ M' : dM, vr sc (d + 9) c_X6_run (49, [(2, 0), (0, x), (0, (N : Int)), (0, w), (0, (a : Int)), (0, (i : Int))], [], (K0, M)) = vr sc (d + 9) c_X6_run (49, [(2, 0), (0, x), (0, (N : Int)), (0, w), (0, ((a + itP xs m t : Nat) : Int)), (0, (N : Int))], [], (K0, M')) ∧ FT 20 M M' ∧ cT M' 20 (itE xs m t) := by
  intro m
  induction m with
  | zero =>
    intro i a M t hm hi ha hs ht hok hd hx hr
    have e : i = N := by omega
    subst e
    exact ⟨M, rfl, FT.rf _ _, ht⟩
  | succ m ih =>
    intro i a M t hm hi ha hs ht hok hd hx hr
    have pr := pset_r (b := psB xs t) 6 (by omega)
    obtain ⟨M1, a1, a2, a3⟩ := spend_ok (sc := sc) (d := d + 1) hs isT_20 ht hok (by omega) hx hxs hr
    have hb := bitCount_ok (sc := sc) (d := d + 8) (h := (K0, M1)) (v := (pset (psB xs t) 6).toNat) (by omega)
    rw [show (((pset (psB xs t) 6).toNat : Nat) : Int) = pset (psB xs t) 6 by omega] at hb
    have p6 := popc_6 (pset (psB xs t) 6).toNat (List.mem_range.mpr (by omega))
    have e := evS_1 xs t
    rw [e_X6_run_49, if_neg (by omega), if_pos (show og K0 6 0 4 = true from rfl), if_pos (show og K0 6 0 1 = true from rfl), (Sk_04r hs).1, (Sk_00 hs).2.1, if_pos (show rg K0 2 58 = true from rfl), a1, Option.bind_some]
    show ∃ M', vr sc (d + 9) c_X6_run (68, [(2, 0), (0, x), (0, (N : Int)), (0, w), (0, (a : Int)), (0, (i : Int))], [(0, pset (psB xs t) 6), (0, (a : Int))], (K0, M1)) = _ ∧ _
    rw [e_X6_run_68, hb, Option.bind_some]
    show ∃ M', vr sc (d + 9) c_X6_run (71, [(2, 0), (0, x), (0, (N : Int)), (0, w), (0, (a : Int)), (0, (i : Int))], [(0, ((popc (pset (psB xs t) 6).toNat : Nat) : Int)), (0, (a : Int))], (K0, M1)) = _ ∧ _
    rw [e_X6_run_71, w_ad _ _ (by omega) (by omega), w_s i (by omega)]
    obtain ⟨M2, b1, b2, b3⟩ := ih (i + 1) (a + popc (pset (psB xs t) 6).toNat) M1 (evS xs t) (by omega) (by omega) (by omega) (a2.sk isT_20 hs) a3 (okT_evS hok (by omega)) (by rw [e.1]; omega) (hx.ft isT_20 hxs.1 a2) (by rw [e.2.2.1]; exact hr)
    have ea : a + popc (pset (psB xs t) 6).toNat + itP xs m (evS xs t) = a + itP xs (m + 1) t := by
      show _ = a + (popc (pset (psB xs t) 6).toNat + itP xs m (evS xs t))
      omega
    rw [ea] at b1
    exact ⟨M2, b1, a2.tr b2, b3⟩
theorem run_c {sc : dS} {d : Nat} {M : dM} (hs : Sk M) {t : Tn} (ht : cT M 1 t) (hok : okT t) (hd : tDay t ≤ 999) {xs : List (List Int)} (hx : cXs M xs) (hxs : okXs xs) (hr : (tRule t).toNat < xs.length) (x n w : Int) : ∃ M' : dM, vc sc (d + 10) 76 [(2, 0), (0, x), (0, n), (0, w)] (K0, M) = some ([(0, runF xs t x n w)], (K0, M')) ∧ FT 20 M M' := by
  have m5 := hok.1.2.2.2.2.2
  rw [vc_s (md := m_X6_run) (L := [(2, 0), (0, x), (0, n), (0, w), (3, 0), (3, 0)]) rfl (Nat.le_of_ble_eq_true rfl) rfl]
  show ∃ M', vr sc (d + 9) c_X6_run (0, [(2, 0), (0, x), (0, n), (0, w), (3, 0), (3, 0)], [], (K0, M)) = _ ∧ _
  rw [e_X6_run_0, if_pos (show og K0 6 0 0 = true from rfl), (Sk_00 hs).1, if_pos (rg_tn isT_1), hasLad_ok isT_1, Option.bind_some, ht.1.2.2.2]
  show ∃ M', vr sc (d + 9) c_X6_run (8, [(2, 0), (0, x), (0, n), (0, w), (3, 0), (3, 0)], [(0, _)], (K0, M)) = _ ∧ _
  rw [e_X6_run_8]
  unfold runF
  by_cases p : ¬ (0 ≤ x ∧ x < (tMany t : Int))
  · rw [bi_f p, if_pos rfl, if_neg p]
    exact ⟨M, rfl, FT.rf _ _⟩
  have p := Classical.not_not.mp p
  rw [bi_t p, if_neg (by decide), isWithin_ok, Option.bind_some, if_pos p]
  show ∃ M', vr sc (d + 9) c_X6_run (17, [(2, 0), (0, x), (0, n), (0, w), (3, 0), (3, 0)], [(0, _)], (K0, M)) = _ ∧ _
  rw [e_X6_run_17]
  by_cases q : ¬ (0 ≤ n ∧ n ≤ 20)
  · rw [bi_f q, if_pos rfl, if_neg q]
    exact ⟨M, rfl, FT.rf _ _⟩
  have q := Classical.not_not.mp q
  rw [bi_t q, if_neg (by decide), isWithin_ok, Option.bind_some, if_pos q]
  show ∃ M', vr sc (d + 9) c_X6_run (25, [(2, 0), (0, x), (0, n), (0, w), (3, 0), (3, 0)], [(0, _)], (K0, M)) = _ ∧ _
  rw [e_X6_run_25]
  by_cases r : ¬ (0 ≤ w ∧ w ≤ 2)
  · rw [bi_f r, if_neg (fun z => z rfl), if_neg r]
    exact ⟨M, rfl, FT.rf _ _⟩
  have r := Classical.not_not.mp r
  obtain ⟨N, rfl⟩ : ∃ k : Nat, n = k := ⟨n.toNat, by omega⟩
  obtain ⟨l, rfl⟩ : ∃ k : Nat, x = k := ⟨x.toNat, by omega⟩
  obtain ⟨M1, a1, a2, a3⟩ := tbecome_ok (sc := sc) (d := d + 7) isT_20 isT_1 (by decide) hs ht hok
  have hx1 := hx.ft isT_20 hxs.1 a2
  rw [bi_t r, if_pos (by decide), if_pos r, if_pos (show og K0 6 0 1 = true from rfl), if_pos (show og K0 6 0 0 = true from rfl), (Sk_00 hs).1, (Sk_00 hs).2.1, if_pos (rg_tn isT_20), a1, Option.bind_some, Int.toNat_natCast, Int.toNat_natCast]
  show ∃ M', vr sc (d + 9) c_X6_run (43, [(2, 0), (0, (l : Int)), (0, (N : Int)), (0, w), (3, 0), (3, 0)], [], (K0, M1)) = _ ∧ _
  obtain ⟨M2, b1, b2, b3⟩ := run_loop_c (sc := sc) (d := d) hxs (x := (l : Int)) (w := w) (N := N) (by omega) N 0 0 M1 t rfl (by omega) (by omega) (a2.sk isT_20 hs) a3 hok (by omega) hx1 hr
  have hs2 := b2.sk isT_20 (a2.sk isT_20 hs)
  have hok2 := okT_itE (xs := xs) N hok (by omega)
  have e1 := itE_1 xs N t
  have l5 : l < 5 := by omega
  rw [Nat.zero_add] at b1
  rw [e_X6_run_43, show vr sc (d + 9) c_X6_run (49, [(2, 0), (0, (l : Int)), (0, (N : Int)), (0, w), (0, 0), (0, 0)], [], (K0, M1)) = _ from b1, e_X6_run_49, if_pos (Int.le_refl _)]
  by_cases w0 : w = 0
  · rw [if_neg (fun z => z w0), if_pos w0, if_pos (show og K0 6 0 1 = true from rfl), (Sk_00 hs2).2.1, if_pos (og_tn isT_20 (by decide)), (Sk_T hs2 isT_20).2.2.1, if_pos (ag_t3 isT_20 (by omega) (by omega)), (b3.2.1 l l5).2.2]
    exact ⟨M2, rfl, a2.tr b2⟩
  rw [if_pos w0, if_neg w0]
  by_cases w1 : w = 1
  · rw [if_neg (fun z => z w1), if_pos w1, if_pos (show og K0 6 0 1 = true from rfl), (Sk_00 hs2).2.1, if_pos (rg_tn isT_20), tiedFeet_ok (d := d + 7) hs2 isT_20 b3 hok2, Option.bind_some]
    show ∃ M', vr sc (d + 9) c_X6_run (106, [(2, 0), (0, (l : Int)), (0, (N : Int)), (0, w), (0, _), (0, _)], [(0, _)], (K0, M2)) = _ ∧ _
    rw [e_X6_run_106]
    exact ⟨M2, rfl, a2.tr b2⟩
  · rw [if_pos w1, if_neg w1]
    exact ⟨M2, rfl, a2.tr b2⟩
def lstI (xs : List (List Int)) (f : Nat) : Nat → Nat → Tn → Int
  | 0, _, _ => -1
  | k + 1, i, t => if 0 ≤ tBy (evS xs t) f then lstI xs f k (i + 1) (evS xs t) else (i : Int)
def lastF (xs : List (List Int)) (t : Tn) (y : Int) : Int := if 0 ≤ y ∧ y < 6 then (if 0 ≤ tBy t y.toNat then lstI xs y.toNat 40 1 t else -3) else -2
theorem lasts_loop_c {sc : dS} {d : Nat} {xs : List (List Int)} (hxs : okXs xs) {f : Nat} (hf : f < 6) : ∀ (m i : Nat) (M : dM) (t : Tn), 41 - i = m → 1 ≤ i → i ≤ 41 → Sk M → cT M 20 t → okT t → tDay t + m ≤ 99999 → cXs M xs → (tRule t).toNat < xs.length →
    ∃ M' : dM, vr sc (d + 9) c_X6_lasts (37, [(2, 0), (0, (f : Int)), (0, (i : Int))], [], (K0, M)) = some ([(0, lstI xs f m i t)], (K0, M')) ∧ FT 20 M M' := by
  intro m
  induction m with
  | zero =>
    intro i M t hm h1 hi hs ht hok hd hx hr
    rw [e_X6_lasts_37, if_pos (by omega)]
    exact ⟨M, rfl, FT.rf _ _⟩
  | succ m ih =>
    intro i M t hm h1 hi hs ht hok hd hx hr
    obtain ⟨M1, a1, a2, a3⟩ := spend_ok (sc := sc) (d := d + 1) hs isT_20 ht hok (by omega) hx hxs hr
    have e := evS_1 xs t
    have hs1 := a2.sk isT_20 hs
    have hok1 := okT_evS (xs := xs) hok (by omega)
    have o3 := hok1.2.2 f hf
    rw [e_X6_lasts_37, if_neg (by omega), if_pos (show og K0 6 0 4 = true from rfl), if_pos (show og K0 6 0 1 = true from rfl), (Sk_04r hs).1, (Sk_00 hs).2.1, if_pos (show rg K0 2 58 = true from rfl), a1, Option.bind_some]
    show ∃ M', vr sc (d + 9) c_X6_lasts (54, [(2, 0), (0, (f : Int)), (0, (i : Int))], [(0, _)], (K0, M1)) = _ ∧ _
    rw [e_X6_lasts_54, if_pos (show og K0 6 0 1 = true from rfl), (Sk_00 hs1).2.1, if_pos (rg_tn isT_20), isTied_ok (d := d + 7) hs1 isT_20 hf, Option.bind_some, (a3.2.2 f hf).2.1, a3.1.2.2.2]
    show ∃ M', vr sc (d + 9) c_X6_lasts (63, [(2, 0), (0, (f : Int)), (0, (i : Int))], [(0, bi (0 ≤ tBy (evS xs t) f ∧ tBy (evS xs t) f < (tMany (evS xs t) : Int)))], (K0, M1)) = _ ∧ _
    have el : lstI xs f (m + 1) i t = if 0 ≤ tBy (evS xs t) f then lstI xs f m (i + 1) (evS xs t) else (i : Int) := rfl
    rw [e_X6_lasts_63, el]
    by_cases q : 0 ≤ tBy (evS xs t) f
    · obtain ⟨M2, b1, b2⟩ := ih (i + 1) M1 (evS xs t) (by omega) (by omega) (by omega) hs1 a3 hok1 (by rw [e.1]; omega) (hx.ft isT_20 hxs.1 a2) (by rw [e.2.2.1]; exact hr)
      rw [bi_t ⟨q, o3.2.2.2.1⟩, if_pos (by decide), if_pos q, w_s i (by omega)]
      exact ⟨M2, b1, a2.tr b2⟩
    · rw [bi_f (fun z => q z.1), if_neg (fun z => z rfl), if_neg q]
      exact ⟨M1, rfl, a2⟩
theorem lasts_c {sc : dS} {d : Nat} {M : dM} (hs : Sk M) {t : Tn} (ht : cT M 1 t) (hok : okT t) (hd : tDay t ≤ 999) {xs : List (List Int)} (hx : cXs M xs) (hxs : okXs xs) (hr : (tRule t).toNat < xs.length) (y : Int) : ∃ M' : dM, vc sc (d + 10) 77 [(2, 0), (0, y)] (K0, M) = some ([(0, lastF xs t y)], (K0, M')) ∧ FT 20 M M' := by
  rw [vc_s (md := m_X6_lasts) (L := [(2, 0), (0, y), (3, 0)]) rfl (Nat.le_of_ble_eq_true rfl) rfl]
  show ∃ M', vr sc (d + 9) c_X6_lasts (0, [(2, 0), (0, y), (3, 0)], [], (K0, M)) = _ ∧ _
  rw [e_X6_lasts_0, isFoot_ok, Option.bind_some]
  show ∃ M', vr sc (d + 9) c_X6_lasts (4, [(2, 0), (0, y), (3, 0)], [(0, _)], (K0, M)) = _ ∧ _
  rw [e_X6_lasts_4]
  unfold lastF
  by_cases p : ¬ (0 ≤ y ∧ y < 6)
  · rw [bi_f p, if_neg (fun z => z rfl), if_neg p]
    exact ⟨M, rfl, FT.rf _ _⟩
  have p := Classical.not_not.mp p
  obtain ⟨f, rfl⟩ : ∃ n : Nat, y = n := ⟨y.toNat, by omega⟩
  have hf : f < 6 := by omega
  have o3 := hok.2.2 f hf
  have kt := ht.2.2 f hf
  rw [bi_t p, if_pos (by decide), if_pos p, Int.toNat_natCast, if_pos (show og K0 6 0 0 = true from rfl), (Sk_00 hs).1, if_pos (rg_tn isT_1), isTied_ok (d := d + 7) hs isT_1 hf, Option.bind_some, kt.2.1, ht.1.2.2.2]
  show ∃ M', vr sc (d + 9) c_X6_lasts (18, [(2, 0), (0, (f : Int)), (3, 0)], [(0, bi (0 ≤ tBy t f ∧ tBy t f < (tMany t : Int)))], (K0, M)) = _ ∧ _
  rw [e_X6_lasts_18]
  by_cases q : ¬ 0 ≤ tBy t f
  · rw [bi_f (fun z => q z.1), if_neg (fun z => z rfl), if_neg q]
    exact ⟨M, rfl, FT.rf _ _⟩
  have q := Classical.not_not.mp q
  obtain ⟨M1, a1, a2, a3⟩ := tbecome_ok (sc := sc) (d := d + 7) isT_20 isT_1 (by decide) hs ht hok
  rw [bi_t ⟨q, o3.2.2.2.1⟩, if_pos (by decide), if_pos q, if_pos (show og K0 6 0 1 = true from rfl), if_pos (show og K0 6 0 0 = true from rfl), (Sk_00 hs).1, (Sk_00 hs).2.1, if_pos (rg_tn isT_20), a1, Option.bind_some]
  show ∃ M', vr sc (d + 9) c_X6_lasts (35, [(2, 0), (0, (f : Int)), (3, 0)], [], (K0, M1)) = _ ∧ _
  obtain ⟨M2, b1, b2⟩ := lasts_loop_c (sc := sc) (d := d) hxs hf 40 1 M1 t rfl (by omega) (by omega) (a2.sk isT_20 hs) a3 hok (by omega) (hx.ft isT_20 hxs.1 a2) hr
  rw [e_X6_lasts_35]
  exact ⟨M2, b1, a2.tr b2⟩
def cKp (M : dM) (ko : Option Tn) : Prop := match ko with
  | none => M 0 3 = 0
  | some k => M 0 3 = 1 ∧ cT M 39 k
/-- image and back may change: the town kept, whether it is there, the town now -/
def FK (M M' : dM) : Prop := ∀ x k : Int, ¬ (x = 0 ∧ k = 3) → ¬ tslot 39 x k → ¬ tslot 1 x k → x ≠ 60 → x ≠ 61 → x ≠ 63 → ¬ (x = 62 ∧ k = 1) → M' x k = M x k
theorem image_c {sc : dS} {d : Nat} {M : dM} (hs : Sk M) {t : Tn} (ht : cT M 1 t) (hok : okT t) : ∃ M' : dM, vc sc (d + 3) 98 [(2, 0)] (K0, M) = some ([(0, (tMany t : Int))], (K0, M')) ∧ Sk M' ∧ FK M M' ∧ cT M' 1 t ∧ cKp M' (some t) := by
  rw [vc_s (md := m_X6_image) (L := [(2, 0)]) rfl (Nat.le_of_ble_eq_true rfl) rfl]
  show ∃ M', vr sc (d + 2) c_X6_image (0, [(2, 0)], [], (K0, M)) = _ ∧ _
  obtain ⟨M1, a1, a2, a3⟩ := tbecome_ok (sc := sc) (d := d) isT_39 isT_1 (by decide) hs ht hok
  have hs1 := a2.sk isT_39 hs
  have ht1 := cT_far isT_39 isT_1 (by decide) ht a2
  rw [e_X6_image_0, if_pos (show og K0 6 0 2 = true from rfl), if_pos (show og K0 6 0 0 = true from rfl), (Sk_00 hs).1, (Sk_00 hs).2.2.1, if_pos (rg_tn isT_39), a1, Option.bind_some]
  show ∃ M', vr sc (d + 2) c_X6_image (11, [(2, 0)], [], (K0, M1)) = _ ∧ _
  have e : ∀ x k : Int, ¬ (x = 0 ∧ k = 3) → (d_up M1 0 3 1) x k = M1 x k := fun x k h => if_neg h
  have up : ∀ T : Int, isT T → ∀ u : Tn, cT M1 T u → cT (d_up M1 0 3 1) T u := fun T hT u hu => by
    have b := isT_c hT
    have e' : ∀ x k : Int, 1 ≤ x → (d_up M1 0 3 1) x k = M1 x k := fun x k h => e x k (by omega)
    exact ⟨⟨(e' _ _ (by omega)).trans hu.1.1, (e' _ _ (by omega)).trans hu.1.2.1, (e' _ _ (by omega)).trans hu.1.2.2.1, (e' _ _ (by omega)).trans hu.1.2.2.2⟩, fun l hl => ⟨(e' _ _ (by omega)).trans (hu.2.1 l hl).1, (e' _ _ (by omega)).trans (hu.2.1 l hl).2.1, (e' _ _ (by omega)).trans (hu.2.1 l hl).2.2⟩, fun f hf => ⟨(e' _ _ (by omega)).trans (hu.2.2 f hf).1, (e' _ _ (by omega)).trans (hu.2.2 f hf).2.1, (hu.2.2 f hf).2.2.up (e' _ _ (by omega)) fun j _ _ => e' _ _ (by omega)⟩⟩
  have hs2 : Sk (d_up M1 0 3 1) := Sk_of hs1 fun x k hq => e x k (by
    rintro ⟨rfl, rfl⟩
    rw [show isRf 0 3 = false by decide +kernel] at hq
    cases hq)
  have ht2 := up 1 isT_1 t ht1
  rw [e_X6_image_11, if_pos (show og K0 6 0 3 = true from rfl), if_pos (show og K0 6 0 0 = true from rfl), (Sk_00 hs2).1, if_pos (og_tn isT_1 (by decide)), ht2.1.2.2.2]
  exact ⟨_, rfl, hs2, fun x k h0 h1 _ h2 h3 h4 h5 => (e x k h0).trans (a2 x k h1 h2 h3 h4 h5), ht2, d_up_at _ _ _ _, up 39 isT_39 t a3⟩
def backF (ko : Option Tn) : Int := match ko with
  | none => -3
  | some k => (tMany k : Int)
def backS (ko : Option Tn) (t : Tn) : Tn := match ko with
  | none => t
  | some k => k
theorem back_c {sc : dS} {d : Nat} {M : dM} (hs : Sk M) {t : Tn} (ht : cT M 1 t) {ko : Option Tn} (hk : cKp M ko) (hok : ∀ k, ko = some k → okT k) : ∃ M' : dM, vc sc (d + 3) 99 [(2, 0)] (K0, M) = some ([(0, backF ko)], (K0, M')) ∧ FT 1 M M' ∧ cT M' 1 (backS ko t) := by
  rw [vc_s (md := m_X6_back) (L := [(2, 0)]) rfl (Nat.le_of_ble_eq_true rfl) rfl]
  show ∃ M', vr sc (d + 2) c_X6_back (0, [(2, 0)], [], (K0, M)) = _ ∧ _
  rw [e_X6_back_0, if_pos (show og K0 6 0 3 = true from rfl)]
  cases ko with
  | none =>
    have h0 : M 0 3 = 0 := hk
    rw [h0, if_neg (fun z => z rfl)]
    exact ⟨M, rfl, FT.rf _ _, ht⟩
  | some u =>
    have h0 : M 0 3 = 1 := hk.1
    have hu : cT M 39 u := hk.2
    obtain ⟨M1, a1, a2, a3⟩ := tbecome_ok (sc := sc) (d := d) isT_1 isT_39 (by decide) hs hu (hok u rfl)
    have hs1 := a2.sk isT_1 hs
    rw [h0, if_pos (by decide), if_pos (show og K0 6 0 0 = true from rfl), if_pos (show og K0 6 0 2 = true from rfl), (Sk_00 hs).1, (Sk_00 hs).2.2.1, if_pos (rg_tn isT_1), a1, Option.bind_some]
    show ∃ M', vr sc (d + 2) c_X6_back (21, [(2, 0)], [], (K0, M1)) = _ ∧ _
    rw [e_X6_back_21, if_pos (show og K0 6 0 0 = true from rfl), (Sk_00 hs1).1, if_pos (og_tn isT_1 (by decide)), a3.1.2.2.2]
    exact ⟨M1, rfl, a2, a3⟩
