/-! best, class side -/
theorem Fr.up {M : dM} {a : Int} (h : SCO.elem a = true) (k v : Int) : Fr M (d_up M a k v) := fun x j g => d_up_n1 M (fun z => by rw [z, scr_o h] at g; cases g)
def nB (t : Tn) (w : List Int) (l : Nat) : Nat := (pul (redl (tiel (tKind t l) w))).length
def gdB (xs : List (List Int)) (t : Tn) (w : List Int) (l f : Nat) : Bool := decide (tWlk t f ≤ strF xs t l f (nB t w l))
def gdN (xs : List (List Int)) (t : Tn) (w : List Int) (l f : Nat) : Nat := if gdB xs t w l f = true then 1 else 0
theorem gdN_le (xs : List (List Int)) (t : Tn) (w : List Int) (l f : Nat) : gdN xs t w l f ≤ 1 := by
  unfold gdN
  split
  · exact Nat.le_refl _
  · exact Nat.zero_le _
theorem Sk_10 {M : dM} (h : Sk M) : M 0 10 = 97 ∧ M 0 11 = 98 := ⟨h (0, 10, 97) (by decide +kernel), h (0, 11, 98) (by decide +kernel)⟩
theorem ag_97 {i : Int} (h0 : 0 ≤ i) (h1 : i < 5) : ag K0 8 97 i = true := ag_of (n := 5) rfl h0 h1
theorem ag_98 {i : Int} (h0 : 0 ≤ i) (h1 : i < 64) : ag K0 8 98 i = true := ag_of (n := 64) rfl h0 h1
theorem good_in {sc : dS} {d : Nat} {t : Tn} (hok : okT t) {xs : List (List Int)} (hxs : okXs xs) (hr : (tRule t).toNat < xs.length) {w : List Int} (hw : w.length ≤ 12) {l : Nat} (hl : l < tMany t) : ∀ (m f : Nat) (N : dM), 6 - f = m → f ≤ 6 → Sk N → cT N 1 t → cXs N xs → N 97 (l : Int) = pset (gdB xs t w l) f →
    ∃ N' : dM, vr sc (d + 6) c_X6_findGoodFeet (54, [(2, 0), (0, (l : Int)), (0, ((nB t w l : Nat) : Int)), (0, (f : Int))], [], (K0, N)) = vr sc (d + 6) c_X6_findGoodFeet (2, [(2, 0), (0, ((l + 1 : Nat) : Int)), (0, ((nB t w l : Nat) : Int)), (0, 6)], [], (K0, N')) ∧ Fr N N' ∧ (∀ x k : Int, x ≠ 60 → x ≠ 61 → x ≠ 63 → ¬ (x = 62 ∧ k = 1) → ¬ (x = 97 ∧ k = (l : Int)) → N' x k = N x k) ∧ N' 97 (l : Int) = pset (gdB xs t w l) 6 := by
  have hl5 : l < 5 := by have := hok.1.2.2.2.2.2; omega
  have hn : nB t w l ≤ 12 := pt_len hw
  intro m
  induction m with
  | zero =>
    intro f N hm hf hs ht hx hg
    have e : f = 6 := by omega
    subst e
    rw [e_X6_findGoodFeet_54, if_pos (by decide), w_s l (by omega)]
    exact ⟨N, rfl, Fr.rf _, fun _ _ _ _ _ _ _ => rfl, hg⟩
  | succ m ih =>
    intro f N hm hf hs ht hx hg
    have hf6 : f < 6 := by omega
    obtain ⟨N1, a1, a2⟩ := strength_ok (sc := sc) (d := d) hs isT_1 ht hok hx hxs hr hl hf6 (n := nB t w l) (by omega)
    have hs1 := a2.sk hs
    have ht1 := ht.fs isT_1 a2
    have hx1 := hx.fs hxs.1 a2
    have hg1 : N1 97 (l : Int) = pset (gdB xs t w l) f := (a2 97 _ (by decide) (by decide) (by decide) (fun z => absurd z.1 (by decide))).trans hg
    rw [e_X6_findGoodFeet_54, if_neg (by omega), if_pos (show og K0 6 0 4 = true from rfl), if_pos (show og K0 6 0 0 = true from rfl), (Sk_04r hs).1, (Sk_00 hs).1, if_pos (show rg K0 2 58 = true from rfl), a1, Option.bind_some]
    show ∃ N', vr sc (d + 6) c_X6_findGoodFeet (74, [(2, 0), (0, (l : Int)), (0, ((nB t w l : Nat) : Int)), (0, (f : Int))], [(0, strF xs t l f (nB t w l))], (K0, N1)) = _ ∧ _
    rw [e_X6_findGoodFeet_74, if_pos (show og K0 6 0 0 = true from rfl), (Sk_00 hs1).1, if_pos (og_tn isT_1 (by decide)), (Sk_T hs1 isT_1).2.2.2.1, if_pos (ag_t4 isT_1 (by omega) (by omega)), (ht1.2.2 f hf6).1, w_s f (by omega)]
    by_cases q : strF xs t l f (nB t w l) < tWlk t f
    · have e : pset (gdB xs t w l) (f + 1) = pset (gdB xs t w l) f := if_neg (show ¬ gdB xs t w l f = true from fun y => by have := of_decide_eq_true y; omega)
      obtain ⟨N2, b1, b2, b3, b4⟩ := ih (f + 1) N1 (by omega) (by omega) hs1 ht1 hx1 (hg1.trans e.symm)
      rw [if_pos q]
      exact ⟨N2, b1, a2.fr.tr b2, fun x k g0 g1 g2 g3 g4 => (b3 x k g0 g1 g2 g3 g4).trans (a2 x k g0 g1 g2 g3), b4⟩
    · have e : pset (gdB xs t w l) (f + 1) = i_or (pset (gdB xs t w l) f) (i_shl 1 (f : Int)) := if_pos (show gdB xs t w l f = true from decide_eq_true (by omega))
      have u : Fr N1 (d_up N1 97 (l : Int) (i_or (N1 97 (l : Int)) (i_shl 1 (f : Int)))) := Fr.up (by decide +kernel) _ _
      obtain ⟨N2, b1, b2, b3, b4⟩ := ih (f + 1) (d_up N1 97 (l : Int) (i_or (N1 97 (l : Int)) (i_shl 1 (f : Int)))) (by omega) (by omega) (u.sk hs1) (ht1.fr (Or.inl rfl) u) (hx1.fr hxs.1 u) (by rw [d_up_at, hg1, e])
      rw [if_neg q, if_pos (show og K0 6 0 10 = true from rfl), (Sk_10 hs1).1, if_pos (ag_97 (by omega) (by omega)), if_pos (ag_97 (by omega) (by omega))]
      refine ⟨N2, b1, a2.fr.tr (u.tr b2), fun x k g0 g1 g2 g3 g4 => (b3 x k g0 g1 g2 g3 g4).trans (Eq.trans ?_ (a2 x k g0 g1 g2 g3)), b4⟩
      unfold d_up
      rw [if_neg g4]
theorem good_ok {sc : dS} {d : Nat} {M : dM} (hs : Sk M) {t : Tn} (ht : cT M 1 t) (hok : okT t) {xs : List (List Int)} (hx : cXs M xs) (hxs : okXs xs) (hr : (tRule t).toNat < xs.length) {w : List Int} (hw : w.length ≤ 12) (hk : KV 91 1 92 M w) : ∃ M' : dM, vc sc (d + 7) 79 [(2, 0)] (K0, M) = some ([], (K0, M')) ∧ Fr M M' ∧ ∀ l : Nat, l < tMany t → M' 97 (l : Int) = pset (gdB xs t w l) 6 := by
  have o5 := hok.1.2.2.2.2.2
  rw [vc_s (md := m_X6_findGoodFeet) (L := [(2, 0), (3, 0), (3, 0), (3, 0)]) rfl (Nat.le_of_ble_eq_true rfl) rfl]
  show ∃ M', vr sc (d + 6) c_X6_findGoodFeet (0, [(2, 0), (3, 0), (3, 0), (3, 0)], [], (K0, M)) = _ ∧ _
  have key : ∀ (m l : Nat) (q2 q3 : dV) (N : dM), tMany t - l = m → l ≤ tMany t → Sk N → cT N 1 t → cXs N xs → KV 91 1 92 N w → (∀ j : Nat, j < l → N 97 (j : Int) = pset (gdB xs t w j) 6) → ∃ N' : dM, vr sc (d + 6) c_X6_findGoodFeet (2, [(2, 0), (0, (l : Int)), q2, q3], [], (K0, N)) = some ([], (K0, N')) ∧ Fr N N' ∧ ∀ l : Nat, l < tMany t → N' 97 (l : Int) = pset (gdB xs t w l) 6 := by
    intro m
    induction m with
    | zero =>
      intro l q2 q3 N hm hl hs ht hx hk hj
      rw [e_X6_findGoodFeet_2, if_pos (show og K0 6 0 0 = true from rfl), (Sk_00 hs).1, if_pos (og_tn isT_1 (by decide)), ht.1.2.2.2, if_pos (by omega)]
      exact ⟨N, rfl, Fr.rf _, fun j h => hj j (by omega)⟩
    | succ m ih =>
      intro l q2 q3 N hm hl hs ht hx hk hj
      have hl' : l < tMany t := by omega
      have hl5 : l < 5 := by omega
      have hu : (tiel (tKind t l) w).length ≤ 12 := tiel_len hw
      obtain ⟨N1, a1, a2, a3⟩ := becomeTied_ok (sc := sc) (d := d + 3) isK_93 isK_91 (tKind t l) hs hw hk
      have hs1 := a2.s93.sk hs
      obtain ⟨N2, b1, b2⟩ := turns_ok (sc := sc) (d := d + 2) isK_93 hs1 hu a3
      have f2 := a2.s93.tr b2.fs.fr
      have hs2 := f2.sk hs
      have hk2 := (hk.fr isK_91 isK_93 (by decide) a2).fr isK_91 isK_62 (by decide) b2
      have u : Fr N2 (d_up N2 97 (l : Int) 0) := Fr.up (by decide +kernel) _ _
      have f3 := f2.tr u
      have hs3 := u.sk hs2
      have ht3 := ht.fr (Or.inl rfl) f3
      have hx3 := hx.fr hxs.1 f3
      have hk3 : KV 91 1 92 (d_up N2 97 (l : Int) 0) w := hk2.up (d_up_n1 _ (by decide)) fun j _ _ => d_up_n1 _ (by decide)
      obtain ⟨N3, c1, c2, c3, c4⟩ := good_in (sc := sc) (d := d) hok hxs hr hw hl' 6 0 (d_up N2 97 (l : Int) 0) rfl (by omega) hs3 ht3 hx3 (d_up_at _ _ _ _)
      have f4 := f3.tr c2
      have hk4 : KV 91 1 92 N3 w := hk3.up (c3 _ _ (by decide) (by decide) (by decide) (by decide) (fun z => absurd z.1 (by decide))) fun j _ _ => c3 _ _ (by decide) (by decide) (by decide) (fun z => absurd z.1 (by decide)) (fun z => absurd z.1 (by decide))
      obtain ⟨N4, e1, e2, e3⟩ := ih (l + 1) (0, ((nB t w l : Nat) : Int)) (0, 6) N3 (by omega) (by omega) (f4.sk hs) (ht.fr (Or.inl rfl) f4) (hx.fr hxs.1 f4) hk4 (fun j hjl => by
        by_cases q : j = l
        · rw [q]; exact c4
        · rw [c3 97 (j : Int) (by decide) (by decide) (by decide) (fun z => absurd z.1 (by decide)) (by omega), d_up_n2 _ (by omega), b2 97 _ (fun z => absurd z.1 (by decide)) (by decide), a2 97 _ (fun z => absurd z.1 (by decide)) (by decide)]
          exact hj j (by omega))
      rw [e_X6_findGoodFeet_2, if_pos (show og K0 6 0 0 = true from rfl), (Sk_00 hs).1, if_pos (og_tn isT_1 (by decide)), ht.1.2.2.2, if_neg (by omega), if_pos (show og K0 6 0 8 = true from rfl), if_pos (show og K0 6 0 0 = true from rfl), (Sk_00 hs).2.2.2, if_pos (og_tn isT_1 (by decide)), (Sk_T hs isT_1).1, if_pos (ag_t1 isT_1 (by omega) (by omega)), if_pos (show og K0 6 0 7 = true from rfl), if_pos (rg_kn isK_93), Sk_07 hs, (ht.2.1 l hl5).1, a1, Option.bind_some]
      show ∃ N', vr sc (d + 6) c_X6_findGoodFeet (33, [(2, 0), (0, (l : Int)), q2, q3], [], (K0, N1)) = _ ∧ _
      rw [e_X6_findGoodFeet_33, if_pos (show og K0 6 0 4 = true from rfl), if_pos (show og K0 6 0 8 = true from rfl), (Sk_04r hs1).1, (Sk_00 hs1).2.2.2, if_pos (show rg K0 2 58 = true from rfl), b1, Option.bind_some]
      show ∃ N', vr sc (d + 6) c_X6_findGoodFeet (44, [(2, 0), (0, (l : Int)), q2, q3], [(0, ((nB t w l : Nat) : Int))], (K0, N2)) = _ ∧ _
      rw [e_X6_findGoodFeet_44, if_pos (show og K0 6 0 10 = true from rfl), (Sk_10 hs2).1, if_pos (ag_97 (by omega) (by omega))]
      exact ⟨N4, c1.trans e1, f4.tr e2, e3⟩
  rw [e_X6_findGoodFeet_0]
  exact key (tMany t) 0 (3, 0) (3, 0) M rfl (by omega) hs ht hx hk (fun j hj => absurd hj (Nat.not_lt_zero j))
