/-! taken and count, both sides -/
def popc (v : Nat) : Nat := v % 2 + v / 2 % 2 + v / 4 % 2 + v / 8 % 2 + v / 16 % 2 + v / 32 % 2
theorem bc_tab : ∀ v ∈ List.range 64, i_and (w32 ((w32 ((i_and (w32 ((w32 ((i_and (w32 (((v : Nat) : Int) - (i_and (i_ushr ((v : Nat) : Int) 1) 1431655765))) 858993459) + (i_and (i_ushr (w32 (((v : Nat) : Int) - (i_and (i_ushr ((v : Nat) : Int) 1) 1431655765))) 2) 858993459))) + (i_ushr (w32 ((i_and (w32 (((v : Nat) : Int) - (i_and (i_ushr ((v : Nat) : Int) 1) 1431655765))) 858993459) + (i_and (i_ushr (w32 (((v : Nat) : Int) - (i_and (i_ushr ((v : Nat) : Int) 1) 1431655765))) 2) 858993459))) 4))) 252645135) + (i_ushr (i_and (w32 ((w32 ((i_and (w32 (((v : Nat) : Int) - (i_and (i_ushr ((v : Nat) : Int) 1) 1431655765))) 858993459) + (i_and (i_ushr (w32 (((v : Nat) : Int) - (i_and (i_ushr ((v : Nat) : Int) 1) 1431655765))) 2) 858993459))) + (i_ushr (w32 ((i_and (w32 (((v : Nat) : Int) - (i_and (i_ushr ((v : Nat) : Int) 1) 1431655765))) 858993459) + (i_and (i_ushr (w32 (((v : Nat) : Int) - (i_and (i_ushr ((v : Nat) : Int) 1) 1431655765))) 2) 858993459))) 4))) 252645135) 8))) + (i_ushr (w32 ((i_and (w32 ((w32 ((i_and (w32 (((v : Nat) : Int) - (i_and (i_ushr ((v : Nat) : Int) 1) 1431655765))) 858993459) + (i_and (i_ushr (w32 (((v : Nat) : Int) - (i_and (i_ushr ((v : Nat) : Int) 1) 1431655765))) 2) 858993459))) + (i_ushr (w32 ((i_and (w32 (((v : Nat) : Int) - (i_and (i_ushr ((v : Nat) : Int) 1) 1431655765))) 858993459) + (i_and (i_ushr (w32 (((v : Nat) : Int) - (i_and (i_ushr ((v : Nat) : Int) 1) 1431655765))) 2) 858993459))) 4))) 252645135) + (i_ushr (i_and (w32 ((w32 ((i_and (w32 (((v : Nat) : Int) - (i_and (i_ushr ((v : Nat) : Int) 1) 1431655765))) 858993459) + (i_and (i_ushr (w32 (((v : Nat) : Int) - (i_and (i_ushr ((v : Nat) : Int) 1) 1431655765))) 2) 858993459))) + (i_ushr (w32 ((i_and (w32 (((v : Nat) : Int) - (i_and (i_ushr ((v : Nat) : Int) 1) 1431655765))) 858993459) + (i_and (i_ushr (w32 (((v : Nat) : Int) - (i_and (i_ushr ((v : Nat) : Int) 1) 1431655765))) 2) 858993459))) 4))) 252645135) 8))) 16))) 63 = ((popc v : Nat) : Int) := by decide +kernel
theorem bitCount_ok {sc : dS} {d : Nat} {h : dH} {v : Nat} (hv : v < 64) : vc sc (d + 1) 203 [(0, (v : Int))] h = some ([(0, ((popc v : Nat) : Int))], h) := by
  rw [vc_s (md := m_J6_bitCount_0f7a4) (L := [(0, (v : Int))]) rfl (Nat.le_of_ble_eq_true rfl) rfl]
  show vr sc d c_J6_bitCount_0f7a4 (0, [(0, (v : Int))], [], (h.1, h.2)) = _
  rw [e_J6_bitCount_0f7a4_0, bc_tab v (List.mem_range.mpr hv)]
theorem bo_tab : ∀ v ∈ List.range 64, v ≠ 0 → 0 ≤ i_and ((v : Nat) : Int) (((v : Nat) : Int) - 1) ∧ i_and ((v : Nat) : Int) (((v : Nat) : Int) - 1) < 64 ∧ popc (i_and ((v : Nat) : Int) (((v : Nat) : Int) - 1)).toNat + 1 = popc v := by decide +kernel
theorem popc_0 : ∀ v ∈ List.range 64, popc v = 0 → v = 0 := by decide +kernel
theorem popc_6 : ∀ v ∈ List.range 64, popc v ≤ 6 := by decide +kernel
theorem bitsOf_ok {sc : dS} {d : Nat} {h : dH} {v : Nat} (hv : v < 64) : vc sc (d + 1) 175 [(0, (v : Int))] h = some ([(0, ((popc v : Nat) : Int))], h) := by
  rw [vc_s (md := m_X7_bitsOf) (L := [(0, (v : Int)), (3, 0), (3, 0)]) rfl (Nat.le_of_ble_eq_true rfl) rfl]
  show vr sc d c_X7_bitsOf (0, [(0, (v : Int)), (3, 0), (3, 0)], [], (h.1, h.2)) = _
  rw [e_X7_bitsOf_0]
  have key : ∀ (n x a : Nat), popc x = n → x < 64 → a + n ≤ 6 → vr sc d c_X7_bitsOf (4, [(0, (v : Int)), (0, (a : Int)), (0, (x : Int))], [], (h.1, h.2)) = some ([(0, ((a + n : Nat) : Int))], (h.1, h.2)) := by
    intro n
    induction n with
    | zero =>
      intro x a hx hl ha
      have e := popc_0 x (List.mem_range.mpr hl) hx
      subst e
      rw [e_X7_bitsOf_4, if_pos (show ((0 : Nat) : Int) = 0 from rfl), Nat.add_zero]
    | succ n ih =>
      intro x a hx hl ha
      have hx0 : x ≠ 0 := by
        rintro rfl
        have e : popc 0 = 0 := by decide
        omega
      have k := bo_tab x (List.mem_range.mpr hl) hx0
      have ew : w32 ((x : Int) - 1) = (x : Int) - 1 := w32_i (by omega) (by omega)
      rw [e_X7_bitsOf_4, if_neg (by clear ew; omega), ew, w_s a (by clear ew; omega)]
      clear ew
      obtain ⟨k0, k1, k2⟩ := k
      have en : i_and ((x : Nat) : Int) (((x : Nat) : Int) - 1) = (((i_and ((x : Nat) : Int) (((x : Nat) : Int) - 1)).toNat : Nat) : Int) := by omega
      rw [en]
      have := ih (i_and ((x : Nat) : Int) (((x : Nat) : Int) - 1)).toNat (a + 1) (by omega) (by omega) (by omega)
      rw [this, show a + 1 + n = a + (n + 1) by omega]
  have := key (popc v) v 0 rfl hv (by have := popc_6 v (List.mem_range.mpr hv); omega)
  rw [Nat.zero_add] at this
  exact this
def tdB (t : Tn) (f : Nat) : Bool := decide (0 ≤ tBy t f)
set_option maxRecDepth 4096 in
theorem or_tab2 : ∀ b0 b1 b2 b3 b4 b5 c0 c1 c2 c3 c4 c5 : Bool, i_or (pset (fsix b0 b1 b2 b3 b4 b5) 6) (pset (fsix c0 c1 c2 c3 c4 c5) 6) = pset (fsix (b0 || c0) (b1 || c1) (b2 || c2) (b3 || c3) (b4 || c4) (b5 || c5)) 6 := by decide +kernel
theorem pset_or (b c : Nat → Bool) : i_or (pset b 6) (pset c 6) = pset (fun f => b f || c f) 6 := by
  rw [pset_six b, pset_six c, pset_six (fun f => b f || c f)]
  exact or_tab2 _ _ _ _ _ _ _ _ _ _ _ _
theorem tiedFeet_ok {sc : dS} {d : Nat} {M : dM} (hs : Sk M) {T : Int} (hT : isT T) {t : Tn} (ht : cT M T t) (hok : okT t) : vc sc (d + 2) 56 [(2, T)] (K0, M) = some ([(0, pset (tdB t) 6)], (K0, M)) := by
  have m5 := hok.1.2.2.2.2.2
  rw [vc_s (md := m_X5_tiedFeet) (L := [(2, T), (3, 0), (3, 0)]) rfl (Nat.le_of_ble_eq_true rfl) rfl]
  show vr sc (d + 1) c_X5_tiedFeet (0, [(2, T), (3, 0), (3, 0)], [], (K0, M)) = _
  rw [e_X5_tiedFeet_0]
  have key : ∀ (m i : Nat), tMany t - i = m → i ≤ tMany t → vr sc (d + 1) c_X5_tiedFeet (4, [(2, T), (0, pset (fun f => decide (0 ≤ tBy t f ∧ tBy t f < (i : Int))) 6), (0, (i : Int))], [], (K0, M)) = some ([(0, pset (tdB t) 6)], (K0, M)) := by
    intro m
    induction m with
    | zero =>
      intro i hm hi
      have e : i = tMany t := by omega
      subst e
      rw [e_X5_tiedFeet_4, if_pos (og_tn hT (by decide)), ht.1.2.2.2, if_pos (Int.le_refl _)]
      have e2 : pset (fun f => decide (0 ≤ tBy t f ∧ tBy t f < (tMany t : Int))) 6 = pset (tdB t) 6 := pset_cg 6 fun f hf => by
        have := (hok.2.2 f hf).2.2.2.1
        unfold tdB
        exact decide_eq_decide.mpr (by omega)
      rw [e2]
    | succ m ih =>
      intro i hm hi
      have hn := ih (i + 1) (by omega) (by omega)
      rw [e_X5_tiedFeet_4, if_pos (og_tn hT (by decide)), ht.1.2.2.2, if_neg (by omega), if_pos (rg_tn hT), feetOf_ok hs hT ht, Option.bind_some]
      show vr sc (d + 1) c_X5_tiedFeet (18, [(2, T), (0, _), (0, (i : Int))], [(0, pset (byB t (i : Int)) 6), (0, pset (fun f => decide (0 ≤ tBy t f ∧ tBy t f < (i : Int))) 6)], (K0, M)) = _
      have e2 : pset (fun f => decide (0 ≤ tBy t f ∧ tBy t f < (i : Int)) || byB t (i : Int) f) 6 = pset (fun f => decide (0 ≤ tBy t f ∧ tBy t f < ((i + 1 : Nat) : Int))) 6 := pset_cg 6 fun f hf => by
        unfold byB
        rw [← Bool.decide_or]
        exact decide_eq_decide.mpr (by omega)
      rw [e_X5_tiedFeet_18, pset_or, w_s i (by omega), e2]
      exact hn
  have k0 := key (tMany t) 0 rfl (by omega)
  have e0 : pset (fun f => decide (0 ≤ tBy t f ∧ tBy t f < ((0 : Nat) : Int))) 6 = 0 := by
    have : pset (fun f => decide (0 ≤ tBy t f ∧ tBy t f < ((0 : Nat) : Int))) 6 = pset (fun _ => false) 6 := pset_cg 6 fun f hf => decide_eq_false (by omega)
    rw [this]
    rfl
  rw [e0] at k0
  exact k0
theorem tiedSet_ok {sc : dS} {d : Nat} {M : dM} (hs : Sk M) {t : Tn} (ht : rT M t) (hok : okT t) : vc sc (d + 1) 174 [(2, 107)] (K0, M) = some ([(0, pset (tdB t) 6)], (K0, M)) := by
  rw [vc_s (md := m_X7_tiedSet) (L := [(2, 107), (3, 0), (3, 0)]) rfl (Nat.le_of_ble_eq_true rfl) rfl]
  show vr sc d c_X7_tiedSet (0, [(2, 107), (3, 0), (3, 0)], [], (K0, M)) = _
  rw [e_X7_tiedSet_0]
  have key : ∀ (m i : Nat), 6 - i = m → i ≤ 6 → vr sc d c_X7_tiedSet (4, [(2, 107), (0, pset (tdB t) i), (0, (i : Int))], [], (K0, M)) = some ([(0, pset (tdB t) 6)], (K0, M)) := by
    intro m
    induction m with
    | zero =>
      intro i hm hi
      have e : i = 6 := by omega
      subst e
      rw [e_X7_tiedSet_4, if_pos (by decide)]
    | succ m ih =>
      intro i hm hi
      have hi' : i < 6 := by omega
      have hn := ih (i + 1) (by omega) (by omega)
      have o3 := hok.2.2 i hi'
      have w31 : w32 (w32 (3 * (i : Int)) + 1) = ((3 * i + 1 : Nat) : Int) := w_t3 i 1 (by omega) (by omega)
      rw [e_X7_tiedSet_4, if_neg (by clear w31; omega), if_pos (show og K0 7 107 10 = true from rfl), (Sk_m10 hs).1, w31]
      clear w31
      rw [if_pos (ag_112 (by omega) (by omega)), (ht.2.2 i hi').2.1, w_s i (by omega)]
      by_cases q : 0 ≤ tBy t i
      · have e : pset (tdB t) (i + 1) = i_or (pset (tdB t) i) (i_shl 1 i) := if_pos (decide_eq_true q)
        rw [e] at hn
        rw [if_pos (by omega)]
        exact hn
      · have e : pset (tdB t) (i + 1) = pset (tdB t) i := if_neg (by rw [show tdB t i = false from decide_eq_false q]; decide)
        rw [e] at hn
        rw [if_neg (by omega), or_0 hi hi']
        exact hn
  exact key 6 0 rfl (by omega)
def countF (xs : List (List Int)) (b : List Int) (t : Tn) (w : Int) : Int := if w = 0 then (tMany t : Int) else if w = 1 then ((popc (pset (tdB t) 6).toNat : Nat) : Int) else if w = 2 then tDay t else if w = 3 then (xs.length : Int) else if w = 4 then (b.length : Int) else if w = 5 then tRule t else -2
theorem count_c {sc : dS} {d : Nat} {M : dM} (hs : Sk M) {t : Tn} (ht : cT M 1 t) (hok : okT t) {xs : List (List Int)} (hx : cXs M xs) {b : List Int} (hk : KV 88 1 89 M b) (w : Int) : vc sc (d + 3) 100 [(2, 0), (0, w)] (K0, M) = some ([(0, countF xs b t w)], (K0, M)) := by
  rw [vc_s (md := m_X6_count) (L := [(2, 0), (0, w)]) rfl (Nat.le_of_ble_eq_true rfl) rfl]
  show vr sc (d + 2) c_X6_count (0, [(2, 0), (0, w)], [], (K0, M)) = _
  have g0 : og K0 6 0 0 = true := rfl
  rw [e_X6_count_0, (Sk_00 hs).1, (Sk_04r hs).1, (Sk_05 hs).1, ht.1.1, ht.1.2.2.1, ht.1.2.2.2, hx.1, hk.1]
  unfold countF
  by_cases k0 : w = 0
  · rw [if_pos k0, if_pos k0, if_pos g0, if_pos (og_tn isT_1 (by decide))]
  rw [if_neg k0, if_neg k0]
  by_cases k1 : w = 1
  · have pr := pset_r (b := tdB t) 6 (by omega)
    have hb := bitCount_ok (sc := sc) (d := d + 1) (h := (K0, M)) (v := (pset (tdB t) 6).toNat) (by omega)
    rw [show (((pset (tdB t) 6).toNat : Nat) : Int) = pset (tdB t) 6 by omega] at hb
    rw [if_pos k1, if_pos k1, if_pos g0, if_pos (rg_tn isT_1), tiedFeet_ok hs isT_1 ht hok, Option.bind_some]
    show vr sc (d + 2) c_X6_count (55, [(2, 0), (0, w)], [(0, pset (tdB t) 6)], (K0, M)) = _
    rw [e_X6_count_55, hb, Option.bind_some]
    show vr sc (d + 2) c_X6_count (58, [(2, 0), (0, w)], [(0, _)], (K0, M)) = _
    rw [e_X6_count_58]
  rw [if_neg k1, if_neg k1]
  by_cases k2 : w = 2
  · rw [if_pos k2, if_pos k2, if_pos g0, if_pos (og_tn isT_1 (by decide))]
  rw [if_neg k2, if_neg k2]
  by_cases k3 : w = 3
  · rw [if_pos k3, if_pos k3, if_pos (show og K0 6 0 4 = true from rfl), if_pos (show og K0 2 58 1 = true from rfl)]
  rw [if_neg k3, if_neg k3]
  by_cases k4 : w = 4
  · rw [if_pos k4, if_pos k4, if_pos (show og K0 6 0 5 = true from rfl), if_pos (show og K0 1 88 1 = true from rfl)]
  rw [if_neg k4, if_neg k4]
  by_cases k5 : w = 5
  · rw [if_pos k5, if_pos k5, if_pos g0, if_pos (og_tn isT_1 (by decide))]
  rw [if_neg k5, if_neg k5]
theorem count_r {sc : dS} {d : Nat} {M : dM} (hs : Sk M) {t : Tn} (ht : rT M t) (hok : okT t) {xs : List (List Int)} (hx : rXs M xs) {b : List Int} (hk : KV 107 6 110 M b) (w : Int) : vc sc (d + 3) 195 [(2, 107), (0, w)] (K0, M) = some ([(0, countF xs b t w)], (K0, M)) := by
  rw [vc_s (md := m_X7_count) (L := [(2, 107), (0, w)]) rfl (Nat.le_of_ble_eq_true rfl) rfl]
  show vr sc (d + 2) c_X7_count (0, [(2, 107), (0, w)], [], (K0, M)) = _
  rw [e_X7_count_0, in_ok, Option.bind_some]
  show vr sc (d + 2) c_X7_count (9, [(2, 107), (0, w)], [(0, _)], (K0, M)) = _
  rw [e_X7_count_9, ht.1.1, ht.1.2.2.1, ht.1.2.2.2, hx.1, hk.1]
  unfold countF
  by_cases p : ¬ (0 ≤ w ∧ w ≤ 5)
  · rw [bi_f p, if_neg (fun z => z rfl), if_neg (by omega), if_neg (by omega), if_neg (by omega), if_neg (by omega), if_neg (by omega), if_neg (by omega)]
  have p := Classical.not_not.mp p
  rw [bi_t p, if_pos (by decide)]
  by_cases k0 : w = 0
  · rw [if_neg (fun z => z k0), if_pos k0, if_pos (show og K0 7 107 12 = true from rfl)]
  rw [if_pos k0, if_neg k0]
  by_cases k1 : w = 1
  · have pr := pset_r (b := tdB t) 6 (by omega)
    have hb := bitsOf_ok (sc := sc) (d := d + 1) (h := (K0, M)) (v := (pset (tdB t) 6).toNat) (by omega)
    rw [show (((pset (tdB t) 6).toNat : Nat) : Int) = pset (tdB t) 6 by omega] at hb
    rw [if_neg (fun z => z k1), if_pos k1, if_pos (show rg K0 7 107 = true from rfl), tiedSet_ok (d := d + 1) hs ht hok, Option.bind_some]
    show vr sc (d + 2) c_X7_count (35, [(2, 107), (0, w)], [(0, pset (tdB t) 6)], (K0, M)) = _
    rw [e_X7_count_35, hb, Option.bind_some]
    show vr sc (d + 2) c_X7_count (38, [(2, 107), (0, w)], [(0, _)], (K0, M)) = _
    rw [e_X7_count_38]
  rw [if_pos k1, if_neg k1]
  by_cases k2 : w = 2
  · rw [if_neg (fun z => z k2), if_pos k2, if_pos (show og K0 7 107 7 = true from rfl)]
  rw [if_pos k2, if_neg k2]
  by_cases k3 : w = 3
  · rw [if_neg (fun z => z k3), if_pos k3, if_pos (show og K0 7 107 3 = true from rfl)]
  rw [if_pos k3, if_neg k3]
  by_cases k4 : w = 4
  · rw [if_neg (fun z => z k4), if_pos k4, if_pos (show og K0 7 107 6 = true from rfl)]
  · rw [if_pos k4, if_neg k4, if_pos (show w = 5 by omega), if_pos (show og K0 7 107 4 = true from rfl)]
def undB (a k : Int) : Bool := decide (a = k ∨ (a = 3 ∧ k = 1) ∨ (a = 4 ∧ k = 2) ∨ k = 0)
theorem isUnder_ok {sc : dS} {d : Nat} {h : dH} {a k : Int} (ha : 0 ≤ a ∧ a < 6) (hk : 0 ≤ k ∧ k < 6) : vc sc (d + 2) 106 [(0, a), (0, k)] h = some ([(0, if undB a k = true then 1 else 0)], h) := by
  rw [vc_s (md := m_X6_isUnder) (L := [(0, a), (0, k), (3, 0), (3, 0)]) rfl (Nat.le_of_ble_eq_true rfl) rfl]
  show vr sc (d + 1) c_X6_isUnder (0, [(0, a), (0, k), (3, 0), (3, 0)], [], (h.1, h.2)) = _
  rw [e_X6_isUnder_0]
  have hit : ∀ i : Int, i < 6 → vr sc (d + 1) c_X6_isUnder (4, [(0, a), (0, k), (0, k), (0, i)], [], (h.1, h.2)) = some ([(0, 1)], h) := fun i hi => by
    rw [e_X6_isUnder_4, if_neg (by omega), if_pos rfl, if_neg (fun z => z rfl)]
  have stp1 : ∀ x i : Int, 0 ≤ i → i < 6 → x ≠ k → 0 ≤ x ∧ x < 6 → vr sc (d + 1) c_X6_isUnder (4, [(0, a), (0, k), (0, x), (0, i)], [], (h.1, h.2)) = vr sc (d + 1) c_X6_isUnder (4, [(0, a), (0, k), (0, d_above.getD x.toNat 0), (0, i + 1)], [], (h.1, h.2)) := fun x i h0 hi hx hr => by
    have ew : w32 (i + 1) = i + 1 := w32_i (by omega) (by omega)
    rw [e_X6_isUnder_4, if_neg (by clear ew; omega), if_neg hx, isKind_ok, Option.bind_some, bi_t hr]
    show vr sc (d + 1) c_X6_isUnder (19, [(0, a), (0, k), (0, x), (0, i)], [(0, 1)], (h.1, h.2)) = _
    rw [e_X6_isUnder_19, if_neg (by decide), if_pos hr, ew]
  have fin : ∀ i : Int, i < 6 → vr sc (d + 1) c_X6_isUnder (4, [(0, a), (0, k), (0, -1), (0, i)], [], (h.1, h.2)) = some ([(0, 0)], h) := fun i hi => by
    rw [e_X6_isUnder_4, if_neg (by omega), if_neg (by omega), isKind_ok, Option.bind_some, bi_f (by decide)]
    show vr sc (d + 1) c_X6_isUnder (19, [(0, a), (0, k), (0, -1), (0, i)], [(0, 0)], (h.1, h.2)) = _
    rw [e_X6_isUnder_19, if_pos rfl, if_pos (by omega)]
  have yes : (a = k ∨ (a = 3 ∧ k = 1) ∨ (a = 4 ∧ k = 2) ∨ k = 0) → (if undB a k = true then (1 : Int) else 0) = 1 := fun z => if_pos (decide_eq_true z)
  have no : ¬ (a = k ∨ (a = 3 ∧ k = 1) ∨ (a = 4 ∧ k = 2) ∨ k = 0) → (if undB a k = true then (1 : Int) else 0) = 0 := fun z => if_neg (by unfold undB; rw [decide_eq_false z]; decide)
  have zero : ∀ i : Int, 0 ≤ i → i < 5 → (a = k ∨ (a = 3 ∧ k = 1) ∨ (a = 4 ∧ k = 2) → k = 0) → vr sc (d + 1) c_X6_isUnder (4, [(0, a), (0, k), (0, 0), (0, i)], [], (h.1, h.2)) = some ([(0, if undB a k = true then 1 else 0)], h) := fun i h0 hi hn => by
    by_cases z : k = 0
    · rw [yes (by omega)]
      have := hit i (by omega)
      rw [z] at this ⊢
      exact this
    · rw [no (by omega), stp1 0 i h0 (by omega) (by omega) (by omega)]
      exact fin (i + 1) (by omega)
  by_cases e : a = k
  · rw [yes (by omega), e]
    have := hit 0 (by decide)
    rw [e] at this
    exact this
  rcases (show a = 0 ∨ a = 1 ∨ a = 2 ∨ a = 3 ∨ a = 4 ∨ a = 5 by omega) with z | z | z | z | z | z
  · rw [show vr sc (d + 1) c_X6_isUnder (4, [(0, a), (0, k), (0, a), (0, 0)], [], (h.1, h.2)) = vr sc (d + 1) c_X6_isUnder (4, [(0, a), (0, k), (0, 0), (0, 0)], [], (h.1, h.2)) by rw [z]]
    exact zero 0 (by decide) (by decide) (by omega)
  · rw [stp1 a 0 (by decide) (by decide) e ha, z]
    rw [z] at zero
    exact zero 1 (by decide) (by decide) (by omega)
  · rw [stp1 a 0 (by decide) (by decide) e ha, z]
    rw [z] at zero
    exact zero 1 (by decide) (by decide) (by omega)
  · rw [stp1 a 0 (by decide) (by decide) e ha, z]
    rw [z] at zero stp1 hit yes
    show vr sc (d + 1) c_X6_isUnder (4, [(0, 3), (0, k), (0, 1), (0, 1)], [], (h.1, h.2)) = _
    by_cases y : k = 1
    · rw [yes (by omega)]
      have := hit 1 (by decide)
      rw [y] at this ⊢
      exact this
    · rw [stp1 1 1 (by decide) (by decide) (by omega) (by decide)]
      exact zero 2 (by decide) (by decide) (by omega)
  · rw [stp1 a 0 (by decide) (by decide) e ha, z]
    rw [z] at zero stp1 hit yes
    show vr sc (d + 1) c_X6_isUnder (4, [(0, 4), (0, k), (0, 2), (0, 1)], [], (h.1, h.2)) = _
    by_cases y : k = 2
    · rw [yes (by omega)]
      have := hit 1 (by decide)
      rw [y] at this ⊢
      exact this
    · rw [stp1 2 1 (by decide) (by decide) (by omega) (by decide)]
      exact zero 2 (by decide) (by decide) (by omega)
  · rw [stp1 a 0 (by decide) (by decide) e ha, z]
    rw [z] at zero
    exact zero 1 (by decide) (by decide) (by omega)
