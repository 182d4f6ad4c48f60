/-! shortest: both sides -/
theorem scr_tx {x : Int} (h : 64 ≤ x ∧ x ≤ 87) (k : Int) : scr x k = false := by
  obtain ⟨n, rfl⟩ : ∃ n : Nat, x = n := ⟨x.toNat, by omega⟩
  have key : ∀ n ∈ List.range 24, SCO.elem ((64 + n : Nat) : Int) = false ∧ SCS.all (fun q => !(q.1 == ((64 + n : Nat) : Int))) = true := by decide +kernel
  have g := key (n - 64) (List.mem_range.mpr (by omega))
  rw [show 64 + (n - 64) = n by omega] at g
  exact scr_no g.1 g.2 k
theorem cXs.fr {M M' : dM} {xs : List (List Int)} (h : cXs M xs) (hl : xs.length ≤ 6) (hf : Fr M M') : cXs M' xs :=
  ⟨(hf 58 1 (by decide +kernel)).trans h.1, fun t ht => (h.2 t ht).fr (fun k => hf _ _ (scr_tx (by omega) k)) (fun k => hf _ _ (scr_tx (by omega) k)) (fun k => hf _ _ (scr_tx (by omega) k)) (fun k => hf _ _ (scr_tx (by omega) k))⟩
def serB (xs : List (List Int)) (t : Tn) (l : Nat) (v2 c : Int) (w : List Int) : Bool := !(awf c (tiel (tKind t l) w) == 0) && decide (v2 ≤ strF xs t l 0 (pul (redl (tiel (tKind t l) w))).length)
def codeS (P : List Int → Bool) (n : Nat) : Nat → Nat → Option (List Int)
  | 0, _ => none
  | m + 1, w => if P (tcl n ((w : Nat) : Int)) = true then some (tcl n ((w : Nat) : Int)) else codeS P n m (w + 1)
def sizeS (P : List Int → Bool) : Nat → Nat → Int
  | 0, _ => -1
  | m + 1, n => match codeS P n (4 ^ n) 0 with
    | some l => numl l
    | none => sizeS P m (n + 1)
def shortF (xs : List (List Int)) (t : Tn) (x v2 v3 : Int) : Int := if 0 ≤ x ∧ x < (tMany t : Int) then (if 0 ≤ v2 ∧ v2 ≤ 99 then (if 0 ≤ v3 ∧ v3 < 4 then sizeS (serB xs t x.toNat v2 v3) 5 0 else -2) else -2) else -2
theorem pt_len {k : Int} {w : List Int} (h : w.length ≤ 12) : (pul (redl (tiel k w))).length ≤ 12 :=
  Nat.le_trans (pul_len _) (Nat.le_trans (redl_len _) (tiel_len h))
theorem serves_ok {sc : dS} {d : Nat} {M : dM} (hs : Sk M) {t : Tn} (ht : cT M 1 t) (hok : okT t) {xs : List (List Int)} (hx : cXs M xs) (hxs : okXs xs) (hr : (tRule t).toNat < xs.length) {l : Nat} (hl : l < tMany t) (v2 c : Int) {w : List Int} (hw : w.length ≤ 12) (hk : KV 91 1 92 M w) : ∃ M' : dM, vc sc (d + 7) 84 [(2, 0), (0, (l : Int)), (0, v2), (0, c)] (K0, M) = some ([(0, if serB xs t l v2 c w = true then 1 else 0)], (K0, M')) ∧ Fr M M' ∧ KV 91 1 92 M' w := by
  have hl5 : l < 5 := by have := hok.1.2.2.2.2.2; omega
  rw [vc_s (md := m_X6_serves) (L := [(2, 0), (0, (l : Int)), (0, v2), (0, c)]) rfl (Nat.le_of_ble_eq_true rfl) rfl]
  show ∃ M', vr sc (d + 6) c_X6_serves (0, [(2, 0), (0, (l : Int)), (0, v2), (0, c)], [], (K0, M)) = _ ∧ _
  obtain ⟨M1, a1, a2, a3⟩ := becomeTied_ok (sc := sc) (d := d + 3) isK_93 isK_91 (tKind t l) hs hw hk
  have hs1 := a2.s93.sk hs
  have ht1 := ht.fr (Or.inl rfl) a2.s93
  have hx1 := hx.fr hxs.1 a2.s93
  have hk1 := hk.fr isK_91 isK_93 (by decide) a2
  rw [e_X6_serves_0, if_pos (show og K0 6 0 8 = true from rfl), if_pos (show og K0 6 0 0 = true from rfl), (Sk_00 hs).1, (Sk_00 hs).2.2.2, if_pos (og_tn isT_1 (by decide)), (Sk_T hs isT_1).1, if_pos (ag_t1 isT_1 (by omega) (by omega)), if_pos (show og K0 6 0 7 = true from rfl), if_pos (rg_kn isK_93), Sk_07 hs, (ht.2.1 l hl5).1, a1, Option.bind_some]
  show ∃ M', vr sc (d + 6) c_X6_serves (20, [(2, 0), (0, (l : Int)), (0, v2), (0, c)], [], (K0, M1)) = _ ∧ _
  have hu : (tiel (tKind t l) w).length ≤ 12 := tiel_len hw
  unfold serB
  generalize tiel (tKind t l) w = u at *
  obtain ⟨M2, b1, b2⟩ := isAway_ok (sc := sc) (d := d + 3) (c := c) isK_93 isK_95 (by decide) hs1 hu a3
  have hs2 := b2.s95.sk hs1
  have ht2 := ht1.fr (Or.inl rfl) b2.s95
  have hx2 := hx1.fr hxs.1 b2.s95
  have hk2 := hk1.fr isK_91 isK_95 (by decide) b2
  have hq2 := a3.fr isK_93 isK_95 (by decide) b2
  rw [e_X6_serves_20, if_pos (show og K0 6 0 8 = true from rfl), if_pos (show og K0 6 0 9 = true from rfl), (Sk_00 hs1).2.2.2, Sk_09 hs1, if_pos (rg_kn isK_93), b1, Option.bind_some]
  show ∃ M', vr sc (d + 6) c_X6_serves (32, [(2, 0), (0, (l : Int)), (0, v2), (0, c)], [(0, awf c u)], (K0, M2)) = _ ∧ _
  rw [e_X6_serves_32]
  by_cases z : awf c u = 0
  · rw [if_pos z, z]
    exact ⟨M2, rfl, a2.s93.tr b2.s95, hk2⟩
  obtain ⟨M3, c1, c2⟩ := turns_ok (sc := sc) (d := d + 2) isK_93 hs2 hu hq2
  have hs3 := c2.fs.sk hs2
  have ht3 := ht2.fs isT_1 c2.fs
  have hx3 := hx2.fs hxs.1 c2.fs
  have hk3 := hk2.fr isK_91 isK_62 (by decide) c2
  have hn12 : (pul (redl u)).length ≤ 12 := Nat.le_trans (pul_len _) (Nat.le_trans (redl_len _) hu)
  obtain ⟨M4, g1, g2⟩ := strength_ok (sc := sc) (d := d) hs3 isT_1 ht3 hok hx3 hxs hr hl (f := 0) (n := (pul (redl u)).length) (by omega) (by omega)
  rw [if_neg z, if_pos (show og K0 6 0 4 = true from rfl), if_pos (show og K0 6 0 0 = true from rfl), if_pos (show og K0 6 0 4 = true from rfl), if_pos (show og K0 6 0 8 = true from rfl), (Sk_04r hs2).1, (Sk_00 hs2).1, (Sk_00 hs2).2.2.2, if_pos (show rg K0 2 58 = true from rfl), c1, Option.bind_some]
  show ∃ M', vr sc (d + 6) c_X6_serves (56, [(2, 0), (0, (l : Int)), (0, v2), (0, c)], [(0, (((pul (redl u)).length : Nat) : Int)), (0, 0), (0, (l : Int)), (2, 1), (2, 58)], (K0, M3)) = _ ∧ _
  rw [e_X6_serves_56, if_pos (show rg K0 2 58 = true from rfl), show vc sc (d + 6) 39 [(2, 58), (2, 1), (0, (l : Int)), (0, 0), (0, (((pul (redl u)).length : Nat) : Int))] (K0, M3) = _ from g1, Option.bind_some]
  show ∃ M', vr sc (d + 6) c_X6_serves (59, [(2, 0), (0, (l : Int)), (0, v2), (0, c)], [(0, strF xs t l 0 (pul (redl u)).length)], (K0, M4)) = _ ∧ _
  have hf := ((a2.s93.tr b2.s95).tr c2.fs.fr).tr g2.fr
  have hk4 : KV 91 1 92 M4 w := hk3.up (g2 91 1 (by decide) (by decide) (by decide) (by decide)) fun j _ _ => g2 92 _ (by decide) (by decide) (by decide) (fun z => absurd z.1 (by decide))
  have zb : (awf c u == 0) = false := beq_eq_false_iff_ne.mpr z
  rw [e_X6_serves_59, zb, Bool.not_false, Bool.true_and]
  by_cases q : strF xs t l 0 (pul (redl u)).length < v2
  · rw [if_pos q, if_neg (fun y => by have := of_decide_eq_true y; omega)]
    exact ⟨M4, rfl, hf, hk4⟩
  · rw [if_neg q, if_pos (decide_eq_true (by omega))]
    exact ⟨M4, rfl, hf, hk4⟩
theorem i_shl4 : ∀ n ∈ List.range 5, i_shl 1 (w32 (2 * ((n : Nat) : Int))) = ((4 ^ n : Nat) : Int) := by decide +kernel
theorem p4_le {n : Nat} (h : n < 5) : 4 ^ n ≤ 256 := (by decide : ∀ n ∈ List.range 5, 4 ^ n ≤ 256) n (List.mem_range.mpr h)
theorem spt {n w : Nat} (hn : n < 5) (hw : w < 4 ^ n) : sp ((w : Nat) : Int) n [] = tcl n ((w : Nat) : Int) ∧ ∀ y ∈ tcl n ((w : Nat) : Int), y ∈ CL4 := by
  have g := sp_tcl n (List.mem_range.mpr hn) w (List.mem_range.mpr hw)
  exact ⟨g.1, fun y hy => List.elem_iff.mp (List.all_eq_true.mp g.2 y hy)⟩
theorem codes_loop {sc : dS} {d : Nat} {t : Tn} (hok : okT t) {xs : List (List Int)} (hxs : okXs xs) (hr : (tRule t).toNat < xs.length) {l : Nat} (hl : l < tMany t) {v2 c : Int} {n : Nat} (hn : n < 5) : ∀ (m w : Nat) (M : dM), w + m = 4 ^ n → Sk M → cT M 1 t → cXs M xs →
    ∃ M' : dM, Fr M M' ∧ vr sc (d + 7) c_X6_shortest (42, [(2, 0), (0, (l : Int)), (0, v2), (0, c), (0, (n : Int)), (0, (w : Int))], [], (K0, M)) = match codeS (serB xs t l v2 c) n m w with
      | some u => some ([(0, numl u)], (K0, M'))
      | none => vr sc (d + 7) c_X6_shortest (33, [(2, 0), (0, (l : Int)), (0, v2), (0, c), (0, ((n + 1 : Nat) : Int)), (0, ((4 ^ n : Nat) : Int))], [], (K0, M')) := by
  intro m
  induction m with
  | zero =>
    intro w M hw hs ht hx
    refine ⟨M, Fr.rf _, ?_⟩
    have e : w = 4 ^ n := by omega
    subst e
    rw [e_X6_shortest_42, i_shl4 n (List.mem_range.mpr hn), if_pos (Int.le_refl _), w_s n (by omega)]
    rfl
  | succ m ih =>
    intro w M hw hs ht hx
    have b4 := p4_le hn
    have hwl : w < 4 ^ n := by omega
    have st := spt hn hwl
    have hlen : (tcl n ((w : Nat) : Int)).length ≤ 12 := by rw [tcl_len]; omega
    obtain ⟨M1, a1, a2, a3⟩ := spell_ok (sc := sc) (d := d + 5) isK_91 hs (way := (w : Int)) (n := n) (by omega)
    have hs1 := a2.s91.sk hs
    have ht1 := ht.fr (Or.inl rfl) a2.s91
    have hx1 := hx.fr hxs.1 a2.s91
    rw [st.1] at a3
    obtain ⟨M2, b1, b2, b3⟩ := serves_ok (sc := sc) (d := d) hs1 ht1 hok hx1 hxs hr hl v2 c hlen a3
    have hs2 := b2.sk hs1
    have f2 := a2.s91.tr b2
    rw [e_X6_shortest_42, i_shl4 n (List.mem_range.mpr hn), if_neg (by omega), if_pos (show og K0 6 0 7 = true from rfl), Sk_07 hs, if_pos (rg_kn isK_91), a1, Option.bind_some]
    unfold codeS
    generalize tcl n ((w : Nat) : Int) = u at *
    by_cases z : serB xs t l v2 c u = true
    · rw [if_pos z] at b1 ⊢
      refine ⟨M2, f2, ?_⟩
      show vr sc (d + 7) c_X6_shortest (64, [(2, 0), (0, (l : Int)), (0, v2), (0, c), (0, (n : Int)), (0, (w : Int))], [], (K0, M1)) = _
      rw [e_X6_shortest_64, if_pos (show rg K0 6 0 = true from rfl), b1, Option.bind_some]
      show vr sc (d + 7) c_X6_shortest (71, [(2, 0), (0, (l : Int)), (0, v2), (0, c), (0, (n : Int)), (0, (w : Int))], [(0, 1)], (K0, M2)) = _
      rw [e_X6_shortest_71, if_neg (by decide), if_pos (show og K0 6 0 7 = true from rfl), Sk_07 hs2, if_pos (rg_kn isK_91), number_ok isK_91 hs2 hlen b3, Option.bind_some]
      show vr sc (d + 7) c_X6_shortest (81, [(2, 0), (0, (l : Int)), (0, v2), (0, c), (0, (n : Int)), (0, (w : Int))], [(0, numl u)], (K0, M2)) = _
      rw [e_X6_shortest_81]
    · rw [if_neg z] at b1 ⊢
      obtain ⟨M3, c1, c2⟩ := ih (w + 1) M2 (by omega) hs2 (ht.fr (Or.inl rfl) f2) (hx.fr hxs.1 f2)
      refine ⟨M3, f2.tr c1, ?_⟩
      show vr sc (d + 7) c_X6_shortest (64, [(2, 0), (0, (l : Int)), (0, v2), (0, c), (0, (n : Int)), (0, (w : Int))], [], (K0, M1)) = _
      rw [e_X6_shortest_64, if_pos (show rg K0 6 0 = true from rfl), b1, Option.bind_some]
      show vr sc (d + 7) c_X6_shortest (71, [(2, 0), (0, (l : Int)), (0, v2), (0, c), (0, (n : Int)), (0, (w : Int))], [(0, 0)], (K0, M2)) = _
      rw [e_X6_shortest_71, if_pos rfl, w_s w (by omega)]
      exact c2
theorem lens_loop {sc : dS} {d : Nat} {t : Tn} (hok : okT t) {xs : List (List Int)} (hxs : okXs xs) (hr : (tRule t).toNat < xs.length) {l : Nat} (hl : l < tMany t) {v2 c : Int} : ∀ (m n : Nat) (q : dV) (M : dM), n + m = 5 → Sk M → cT M 1 t → cXs M xs →
    ∃ M' : dM, vr sc (d + 7) c_X6_shortest (33, [(2, 0), (0, (l : Int)), (0, v2), (0, c), (0, (n : Int)), q], [], (K0, M)) = some ([(0, sizeS (serB xs t l v2 c) m n)], (K0, M')) ∧ Fr M M' := by
  intro m
  induction m with
  | zero =>
    intro n q M hn hs ht hx
    rw [e_X6_shortest_33, if_pos (by omega)]
    exact ⟨M, rfl, Fr.rf _⟩
  | succ m ih =>
    intro n q M hn hs ht hx
    obtain ⟨M1, a1, a2⟩ := codes_loop (sc := sc) (d := d) hok hxs hr hl (v2 := v2) (c := c) (n := n) (by omega) (4 ^ n) 0 M (by omega) hs ht hx
    rw [e_X6_shortest_33, if_neg (by omega)]
    unfold sizeS
    rw [show vr sc (d + 7) c_X6_shortest (42, [(2, 0), (0, (l : Int)), (0, v2), (0, c), (0, (n : Int)), (0, 0)], [], (K0, M)) = _ from a2]
    generalize codeS (serB xs t l v2 c) n (4 ^ n) 0 = r
    cases r with
    | some u => exact ⟨M1, rfl, a1⟩
    | none =>
      obtain ⟨M2, b1, b2⟩ := ih (n + 1) (0, ((4 ^ n : Nat) : Int)) M1 (by omega) (a1.sk hs) (ht.fr (Or.inl rfl) a1) (hx.fr hxs.1 a1)
      exact ⟨M2, b1, a1.tr b2⟩
theorem shortest_c {sc : dS} {d : Nat} {M : dM} (hs : Sk M) {t : Tn} (ht : cT M 1 t) (hok : okT t) {xs : List (List Int)} (hx : cXs M xs) (hxs : okXs xs) (hr : (tRule t).toNat < xs.length) (x v2 v3 : Int) : ∃ M' : dM, vc sc (d + 8) 83 [(2, 0), (0, x), (0, v2), (0, v3)] (K0, M) = some ([(0, shortF xs t x v2 v3)], (K0, M')) ∧ Fr M M' := by
  rw [vc_s (md := m_X6_shortest) (L := [(2, 0), (0, x), (0, v2), (0, v3), (3, 0), (3, 0)]) rfl (Nat.le_of_ble_eq_true rfl) rfl]
  show ∃ M', vr sc (d + 7) c_X6_shortest (0, [(2, 0), (0, x), (0, v2), (0, v3), (3, 0), (3, 0)], [], (K0, M)) = _ ∧ _
  rw [e_X6_shortest_0, if_pos (show og K0 6 0 0 = true from rfl), (Sk_00 hs).1, if_pos (rg_tn isT_1), hasLad_ok isT_1, Option.bind_some, ht.1.2.2.2]
  show ∃ M', vr sc (d + 7) c_X6_shortest (8, [(2, 0), (0, x), (0, v2), (0, v3), (3, 0), (3, 0)], [(0, _)], (K0, M)) = _ ∧ _
  rw [e_X6_shortest_8]
  unfold shortF
  by_cases p : ¬ (0 ≤ x ∧ x < (tMany t : Int))
  · rw [bi_f p, if_pos rfl, if_neg p]
    exact ⟨M, rfl, Fr.rf _⟩
  have p := Classical.not_not.mp p
  rw [bi_t p, if_neg (by decide), if_pos p, isWithin_ok, Option.bind_some]
  show ∃ M', vr sc (d + 7) c_X6_shortest (17, [(2, 0), (0, x), (0, v2), (0, v3), (3, 0), (3, 0)], [(0, _)], (K0, M)) = _ ∧ _
  rw [e_X6_shortest_17]
  by_cases q : ¬ (0 ≤ v2 ∧ v2 ≤ 99)
  · rw [bi_f q, if_pos rfl, if_neg q]
    exact ⟨M, rfl, Fr.rf _⟩
  have q := Classical.not_not.mp q
  rw [bi_t q, if_neg (by decide), if_pos q, isCrossing_ok, Option.bind_some]
  show ∃ M', vr sc (d + 7) c_X6_shortest (24, [(2, 0), (0, x), (0, v2), (0, v3), (3, 0), (3, 0)], [(0, _)], (K0, M)) = _ ∧ _
  rw [e_X6_shortest_24]
  by_cases r : ¬ (0 ≤ v3 ∧ v3 < 4)
  · rw [bi_f r, if_neg (fun z => z rfl), if_neg r]
    exact ⟨M, rfl, Fr.rf _⟩
  have r := Classical.not_not.mp r
  obtain ⟨l, rfl⟩ : ∃ n : Nat, x = n := ⟨x.toNat, by omega⟩
  rw [bi_t r, if_pos (by decide), if_pos r, Int.toNat_natCast]
  exact lens_loop (sc := sc) (d := d) hok hxs hr (l := l) (by omega) 5 0 (3, 0) M rfl hs ht hx
theorem isFine_ok {sc : dS} {d : Nat} {M : dM} (hs : Sk M) {t : Tn} (ht : rT M t) (hok : okT t) {xs : List (List Int)} (hx : rXs M xs) (hxs : okXs xs) (hr : (tRule t).toNat < xs.length) {l : Nat} (hl : l < tMany t) {v2 c : Int} (hc : 0 ≤ c ∧ c < 4) {n w : Nat} (hn : n < 5) (hw : w < 4 ^ n) : ∃ M' : dM, vc sc (d + 49) 182 [(2, 107), (0, (l : Int)), (0, v2), (0, c), (0, (w : Int)), (0, (n : Int))] (K0, M) = some ([(0, if serB xs t l v2 c (tcl n ((w : Nat) : Int)) = true then 1 else 0)], (K0, M')) ∧ RU M M' := by
  have hl5 : l < 5 := by have := hok.1.2.2.2.2.2; omega
  have st := (spt hn hw).2
  have hlen : (tcl n ((w : Nat) : Int)).length ≤ 12 := by rw [tcl_len]; omega
  rw [vc_s (md := m_X7_isFine) (L := [(2, 107), (0, (l : Int)), (0, v2), (0, c), (0, (w : Int)), (0, (n : Int))]) rfl (Nat.le_of_ble_eq_true rfl) rfl]
  show ∃ M', vr sc (d + 48) c_X7_isFine (0, [(2, 107), (0, (l : Int)), (0, v2), (0, c), (0, (w : Int)), (0, (n : Int))], [], (K0, M)) = _ ∧ _
  obtain ⟨M1, a1, a2, a3⟩ := takesCode_ok (sc := sc) (d := d + 47) hs (code := (w : Int)) (n := n) (by omega)
  have hs1 := a2.ru.sk hs
  have ht1 := ht.ru a2.ru
  obtain ⟨M2, b1, b2, b3⟩ := ties1_ok (sc := sc) (d := d + 45) hl5 hs1 hlen a3
  have hs2 := b2.ru.sk hs1
  have ht2 := ht1.ru b2.ru
  rw [(ht1.2.1 l hl5).2.2] at b3
  have hu : (tiel (tKind t l) (tcl n ((w : Nat) : Int))).length ≤ 12 := tiel_len hlen
  obtain ⟨M3, c1, c2, c3⟩ := pulledSize_ok (sc := sc) (d := d + 44) hs2 hu b3
  have f3 := (a2.ru.tr b2.ru).tr c2.ru
  have hs3 := f3.sk hs
  obtain ⟨M4, g1, g2⟩ := holdsOf_ok (sc := sc) (d := d) hs3 (ht.ru f3) hok (hx.ru f3) hxs hr hl (f := 0) (n := (pul (redl (tiel (tKind t l) (tcl n ((w : Nat) : Int))))).length) (by omega) (by have := pt_len (k := tKind t l) hlen; omega)
  have f4 := f3.tr g2.ru
  have hs4 := f4.sk hs
  rw [e_X7_isFine_0, if_pos (show rg K0 7 107 = true from rfl), a1, Option.bind_some]
  show ∃ M', vr sc (d + 48) c_X7_isFine (8, [(2, 107), (0, (l : Int)), (0, v2), (0, c), (0, (w : Int)), (0, (n : Int))], [], (K0, M1)) = _ ∧ _
  rw [e_X7_isFine_8, if_pos (show rg K0 7 107 = true from rfl), b1, Option.bind_some]
  show ∃ M', vr sc (d + 48) c_X7_isFine (13, [(2, 107), (0, (l : Int)), (0, v2), (0, c), (0, (w : Int)), (0, (n : Int))], [], (K0, M2)) = _ ∧ _
  rw [e_X7_isFine_13, if_pos (show rg K0 7 107 = true from rfl), c1, Option.bind_some]
  show ∃ M', vr sc (d + 48) c_X7_isFine (20, [(2, 107), (0, (l : Int)), (0, v2), (0, c), (0, (w : Int)), (0, (n : Int))], [(0, (((pul (redl (tiel (tKind t l) (tcl n ((w : Nat) : Int))))).length : Nat) : Int)), (0, 0), (0, (l : Int)), (2, 107)], (K0, M3)) = _ ∧ _
  rw [e_X7_isFine_20, if_pos (show rg K0 7 107 = true from rfl), show vc sc (d + 48) 164 [(2, 107), (0, (l : Int)), (0, 0), (0, (((pul (redl (tiel (tKind t l) (tcl n ((w : Nat) : Int))))).length : Nat) : Int))] (K0, M3) = _ from g1, Option.bind_some]
  show ∃ M', vr sc (d + 48) c_X7_isFine (23, [(2, 107), (0, (l : Int)), (0, v2), (0, c), (0, (w : Int)), (0, (n : Int))], [(0, strF xs t l 0 (pul (redl (tiel (tKind t l) (tcl n ((w : Nat) : Int))))).length)], (K0, M4)) = _ ∧ _
  unfold serB
  rw [e_X7_isFine_23]
  by_cases q : ¬ v2 ≤ strF xs t l 0 (pul (redl (tiel (tKind t l) (tcl n ((w : Nat) : Int))))).length
  · rw [if_neg q, decide_eq_false q, Bool.and_false]
    exact ⟨M4, rfl, f4⟩
  have q := Classical.not_not.mp q
  obtain ⟨M5, k1, k2, k3⟩ := takesCode_ok (sc := sc) (d := d + 47) hs4 (code := (w : Int)) (n := n) (by omega)
  have f5 := f4.tr k2.ru
  have hs5 := f5.sk hs
  obtain ⟨M6, l1, l2, l3⟩ := ties1_ok (sc := sc) (d := d + 45) hl5 hs5 hlen k3
  have f6 := f5.tr l2.ru
  rw [((ht.ru f5).2.1 l hl5).2.2] at l3
  obtain ⟨M7, m1, m2⟩ := comesAway_ok (sc := sc) (d := d + 45) (c := c) (f6.sk hs) hu l3
  rw [if_pos q, decide_eq_true q, Bool.and_true, if_pos (show rg K0 7 107 = true from rfl), k1, Option.bind_some]
  show ∃ M', vr sc (d + 48) c_X7_isFine (37, [(2, 107), (0, (l : Int)), (0, v2), (0, c), (0, (w : Int)), (0, (n : Int))], [], (K0, M5)) = _ ∧ _
  rw [e_X7_isFine_37, if_pos (show rg K0 7 107 = true from rfl), l1, Option.bind_some]
  show ∃ M', vr sc (d + 48) c_X7_isFine (42, [(2, 107), (0, (l : Int)), (0, v2), (0, c), (0, (w : Int)), (0, (n : Int))], [], (K0, M6)) = _ ∧ _
  rw [e_X7_isFine_42, if_pos (show rg K0 7 107 = true from rfl), m1, Option.bind_some]
  show ∃ M', vr sc (d + 48) c_X7_isFine (47, [(2, 107), (0, (l : Int)), (0, v2), (0, c), (0, (w : Int)), (0, (n : Int))], [(0, _)], (K0, M7)) = _ ∧ _
  rw [e_X7_isFine_47, ← aw_same (CL4_of hc) (tiel_mem st)]
  refine ⟨M7, ?_, f6.tr m2.ru⟩
  rcases awf_01 c (tiel (tKind t l) (tcl n ((w : Nat) : Int))) with z | z
  · rw [z]; rfl
  · rw [z]; rfl
theorem w_p4m : ∀ n ∈ List.range 5, w32 (((4 ^ n : Nat) : Int) * 4) = ((4 ^ (n + 1) : Nat) : Int) := by decide +kernel
theorem coder_loop {sc : dS} {d : Nat} {t : Tn} (hok : okT t) {xs : List (List Int)} (hxs : okXs xs) (hr : (tRule t).toNat < xs.length) {l : Nat} (hl : l < tMany t) {v2 c : Int} (hc : 0 ≤ c ∧ c < 4) {n : Nat} (hn : n < 5) : ∀ (m w : Nat) (M : dM), w + m = 4 ^ n → Sk M → rT M t → rXs M xs →
    ∃ M' : dM, RU M M' ∧ vr sc (d + 49) c_X7_shortest (50, [(2, 107), (0, (l : Int)), (0, v2), (0, c), (0, ((4 ^ n : Nat) : Int)), (0, (n : Int)), (0, (w : Int))], [], (K0, M)) = match codeS (serB xs t l v2 c) n m w with
      | some u => some ([(0, numl u)], (K0, M'))
      | none => vr sc (d + 49) c_X7_shortest (41, [(2, 107), (0, (l : Int)), (0, v2), (0, c), (0, ((4 ^ (n + 1) : Nat) : Int)), (0, ((n + 1 : Nat) : Int)), (0, ((4 ^ n : Nat) : Int))], [], (K0, M')) := by
  intro m
  induction m with
  | zero =>
    intro w M hw hs ht hx
    refine ⟨M, RU.rf _, ?_⟩
    have e : w = 4 ^ n := by omega
    subst e
    have b4 := p4_le hn
    rw [e_X7_shortest_50, if_pos (Int.le_refl _), w_s n (by omega), w_p4m n (List.mem_range.mpr hn)]
    rfl
  | succ m ih =>
    intro w M hw hs ht hx
    have b4 := p4_le hn
    have hwl : w < 4 ^ n := by omega
    have hlen : (tcl n ((w : Nat) : Int)).length ≤ 12 := by rw [tcl_len]; omega
    obtain ⟨M1, a1, a2⟩ := isFine_ok (sc := sc) (d := d) hs ht hok hx hxs hr hl (v2 := v2) hc hn hwl
    have hs1 := a2.sk hs
    obtain ⟨M2, b1, b2, b3⟩ := takesCode_ok (sc := sc) (d := d + 48) hs1 (code := (w : Int)) (n := n) (by omega)
    have hs2 := b2.ru.sk hs1
    rw [e_X7_shortest_50, if_neg (by omega), if_pos (show rg K0 7 107 = true from rfl), a1, Option.bind_some]
    show ∃ M', RU M M' ∧ vr sc (d + 49) c_X7_shortest (68, [(2, 107), (0, (l : Int)), (0, v2), (0, c), (0, ((4 ^ n : Nat) : Int)), (0, (n : Int)), (0, (w : Int))], [(0, _)], (K0, M1)) = _
    rw [e_X7_shortest_68]
    unfold codeS
    by_cases z : serB xs t l v2 c (tcl n ((w : Nat) : Int)) = true
    · rw [if_pos z, if_pos z, if_neg (by decide), if_pos (show rg K0 7 107 = true from rfl), b1, Option.bind_some]
      refine ⟨M2, a2.tr b2.ru, ?_⟩
      show vr sc (d + 49) c_X7_shortest (79, [(2, 107), (0, (l : Int)), (0, v2), (0, c), (0, ((4 ^ n : Nat) : Int)), (0, (n : Int)), (0, (w : Int))], [], (K0, M2)) = _
      rw [e_X7_shortest_79, if_pos (show rg K0 7 107 = true from rfl), wordNumber_ok hs2 hlen b3, Option.bind_some]
      show vr sc (d + 49) c_X7_shortest (83, [(2, 107), (0, (l : Int)), (0, v2), (0, c), (0, ((4 ^ n : Nat) : Int)), (0, (n : Int)), (0, (w : Int))], [(0, _)], (K0, M2)) = _
      rw [e_X7_shortest_83]
    · rw [if_neg z, if_neg z, if_pos rfl, w_s w (by omega)]
      obtain ⟨M3, c1, c2⟩ := ih (w + 1) M1 (by omega) hs1 (ht.ru a2) (hx.ru a2)
      exact ⟨M3, a2.tr c1, c2⟩
theorem sizer_loop {sc : dS} {d : Nat} {t : Tn} (hok : okT t) {xs : List (List Int)} (hxs : okXs xs) (hr : (tRule t).toNat < xs.length) {l : Nat} (hl : l < tMany t) {v2 c : Int} (hc : 0 ≤ c ∧ c < 4) : ∀ (m n : Nat) (q : dV) (M : dM), n + m = 5 → Sk M → rT M t → rXs M xs →
    ∃ M' : dM, vr sc (d + 49) c_X7_shortest (41, [(2, 107), (0, (l : Int)), (0, v2), (0, c), (0, ((4 ^ n : Nat) : Int)), (0, (n : Int)), q], [], (K0, M)) = some ([(0, sizeS (serB xs t l v2 c) m n)], (K0, M')) ∧ RU M M' := by
  intro m
  induction m with
  | zero =>
    intro n q M hn hs ht hx
    rw [e_X7_shortest_41, if_pos (by omega)]
    exact ⟨M, rfl, RU.rf _⟩
  | succ m ih =>
    intro n q M hn hs ht hx
    obtain ⟨M1, a1, a2⟩ := coder_loop (sc := sc) (d := d) hok hxs hr hl (v2 := v2) hc (n := n) (by omega) (4 ^ n) 0 M (by omega) hs ht hx
    rw [e_X7_shortest_41, if_neg (by omega)]
    unfold sizeS
    rw [show vr sc (d + 49) c_X7_shortest (50, [(2, 107), (0, (l : Int)), (0, v2), (0, c), (0, ((4 ^ n : Nat) : Int)), (0, (n : Int)), (0, 0)], [], (K0, M)) = _ from a2]
    generalize codeS (serB xs t l v2 c) n (4 ^ n) 0 = r
    cases r with
    | some u => exact ⟨M1, rfl, a1⟩
    | none =>
      obtain ⟨M2, b1, b2⟩ := ih (n + 1) (0, ((4 ^ n : Nat) : Int)) M1 (by omega) (a1.sk hs) (ht.ru a1) (hx.ru a1)
      exact ⟨M2, b1, a1.tr b2⟩
theorem shortest_r {sc : dS} {d : Nat} {M : dM} (hs : Sk M) {t : Tn} (ht : rT M t) (hok : okT t) {xs : List (List Int)} (hx : rXs M xs) (hxs : okXs xs) (hr : (tRule t).toNat < xs.length) (x v2 v3 : Int) : ∃ M' : dM, vc sc (d + 50) 183 [(2, 107), (0, x), (0, v2), (0, v3)] (K0, M) = some ([(0, shortF xs t x v2 v3)], (K0, M')) ∧ RU M M' := by
  rw [vc_s (md := m_X7_shortest) (L := [(2, 107), (0, x), (0, v2), (0, v3), (3, 0), (3, 0), (3, 0)]) rfl (Nat.le_of_ble_eq_true rfl) rfl]
  show ∃ M', vr sc (d + 49) c_X7_shortest (0, [(2, 107), (0, x), (0, v2), (0, v3), (3, 0), (3, 0), (3, 0)], [], (K0, M)) = _ ∧ _
  rw [e_X7_shortest_0, if_pos (show rg K0 7 107 = true from rfl), isLad_ok (d := d + 47) hok.1.2.2.2.2.2 ht.1.2.2.2, Option.bind_some]
  show ∃ M', vr sc (d + 49) c_X7_shortest (5, [(2, 107), (0, x), (0, v2), (0, v3), (3, 0), (3, 0), (3, 0)], [(0, _)], (K0, M)) = _ ∧ _
  rw [e_X7_shortest_5]
  unfold shortF
  by_cases p : ¬ (0 ≤ x ∧ x < (tMany t : Int))
  · rw [bi_f p, if_pos rfl, if_neg p]
    exact ⟨M, rfl, RU.rf _⟩
  have p := Classical.not_not.mp p
  rw [bi_t p, if_neg (by decide), if_pos p, in_ok, Option.bind_some]
  show ∃ M', vr sc (d + 49) c_X7_shortest (17, [(2, 107), (0, x), (0, v2), (0, v3), (3, 0), (3, 0), (3, 0)], [(0, _)], (K0, M)) = _ ∧ _
  rw [e_X7_shortest_17]
  by_cases q : ¬ (0 ≤ v2 ∧ v2 ≤ 99)
  · rw [bi_f q, if_pos rfl, if_neg q]
    exact ⟨M, rfl, RU.rf _⟩
  have q := Classical.not_not.mp q
  rw [bi_t q, if_neg (by decide), if_pos q, in_ok, Option.bind_some]
  show ∃ M', vr sc (d + 49) c_X7_shortest (29, [(2, 107), (0, x), (0, v2), (0, v3), (3, 0), (3, 0), (3, 0)], [(0, _)], (K0, M)) = _ ∧ _
  rw [e_X7_shortest_29]
  by_cases r : ¬ (0 ≤ v3 ∧ v3 < 4)
  · rw [bi_f (show ¬ (0 ≤ v3 ∧ v3 ≤ 3) by omega), if_neg (fun z => z rfl), if_neg r]
    exact ⟨M, rfl, RU.rf _⟩
  have r := Classical.not_not.mp r
  obtain ⟨l, rfl⟩ : ∃ n : Nat, x = n := ⟨x.toNat, by omega⟩
  rw [bi_t (show 0 ≤ v3 ∧ v3 ≤ 3 by omega), if_pos (by decide), if_pos r, Int.toNat_natCast]
  exact sizer_loop (sc := sc) (d := d) hok hxs hr (l := l) (by omega) r 5 0 (3, 0) M rfl hs ht hx
