/-! told, both sides -/
set_option maxRecDepth 4096 in
theorem and_tab : ∀ b0 b1 b2 b3 b4 b5 c0 c1 c2 c3 c4 c5 : Bool, i_and (pset (fsix b0 b1 b2 b3 b4 b5) 6) (pset (fsix c0 c1 c2 c3 c4 c5) 6) = pset (fsix (b0 && c0) (b1 && c1) (b2 && c2) (b3 && c3) (b4 && c4) (b5 && c5)) 6 := by decide +kernel
theorem pset_and (b c : Nat → Bool) : i_and (pset b 6) (pset c 6) = pset (fun f => b f && c f) 6 := by
  rw [pset_six b, pset_six c, pset_six (fun f => b f && c f)]
  exact and_tab _ _ _ _ _ _ _ _ _ _ _ _
def byB (t : Tn) (l : Int) (f : Nat) : Bool := decide (tBy t f = l)
theorem feetOf_ok {sc : dS} {d : Nat} {M : dM} (hs : Sk M) {T : Int} (hT : isT T) {t : Tn} (ht : cT M T t) (l : Int) : vc sc (d + 1) 57 [(2, T), (0, l)] (K0, M) = some ([(0, pset (byB t l) 6)], (K0, M)) := by
  rw [vc_s (md := m_X5_feetOf) (L := [(2, T), (0, l), (3, 0), (3, 0)]) rfl (Nat.le_of_ble_eq_true rfl) rfl]
  show vr sc d c_X5_feetOf (0, [(2, T), (0, l), (3, 0), (3, 0)], [], (K0, M)) = _
  rw [e_X5_feetOf_0]
  have key : ∀ (m i : Nat), 6 - i = m → i ≤ 6 → vr sc d c_X5_feetOf (4, [(2, T), (0, l), (0, pset (byB t l) i), (0, (i : Int))], [], (K0, M)) = some ([(0, pset (byB t l) 6)], (K0, M)) := by
    intro m
    induction m with
    | zero =>
      intro i hm hi
      have e : i = 6 := by omega
      subst e
      rw [e_X5_feetOf_4, if_pos (by decide)]
    | succ m ih =>
      intro i hm hi
      have hi' : i < 6 := by omega
      have hn := ih (i + 1) (by omega) (by omega)
      rw [e_X5_feetOf_4, if_neg (by omega), if_pos (og_tn hT (by decide)), (Sk_T hs hT).2.2.2.2.1, if_pos (ag_t5 hT (by omega) (by omega)), (ht.2.2 i hi').2.1, w_s i (by omega)]
      by_cases q : tBy t i = l
      · have e : pset (byB t l) (i + 1) = i_or (pset (byB t l) i) (i_shl 1 i) := if_pos (decide_eq_true q)
        rw [e] at hn
        rw [if_neg (fun z => z q)]
        exact hn
      · have e : pset (byB t l) (i + 1) = pset (byB t l) i := if_neg (by rw [show byB t l i = false from decide_eq_false q]; decide)
        rw [e] at hn
        rw [if_pos q]
        exact hn
  exact key 6 0 rfl (by omega)
def ppB (xs : List (List Int)) (t : Tn) (l : Int) (f : Nat) : Bool := byB t l f && psB xs t f
theorem passedBy_ok {sc : dS} {d : Nat} {M : dM} (hs : Sk M) {t : Tn} (ht : rT M t) (hok : okT t) {xs : List (List Int)} (hx : rXs M xs) (hxs : okXs xs) (hr : (tRule t).toNat < xs.length) (l : Int) : ∃ M' : dM, vc sc (d + 51) 168 [(2, 107), (0, l)] (K0, M) = some ([(0, pset (ppB xs t l) 6)], (K0, M')) ∧ RU M M' := by
  rw [vc_s (md := m_X7_passedBy) (L := [(2, 107), (0, l), (3, 0), (3, 0)]) rfl (Nat.le_of_ble_eq_true rfl) rfl]
  show ∃ M', vr sc (d + 50) c_X7_passedBy (0, [(2, 107), (0, l), (3, 0), (3, 0)], [], (K0, M)) = _ ∧ _
  rw [e_X7_passedBy_0]
  have key : ∀ (m i : Nat) (M : dM), 6 - i = m → i ≤ 6 → Sk M → rT M t → rXs M xs → ∃ M' : dM, vr sc (d + 50) c_X7_passedBy (4, [(2, 107), (0, l), (0, pset (ppB xs t l) i), (0, (i : Int))], [], (K0, M)) = some ([(0, pset (ppB xs t l) 6)], (K0, M')) ∧ RU M M' := by
    intro m
    induction m with
    | zero =>
      intro i M hm hi hs ht hx
      have e : i = 6 := by omega
      subst e
      rw [e_X7_passedBy_4, if_pos (by decide)]
      exact ⟨M, rfl, RU.rf _⟩
    | succ m ih =>
      intro i M hm hi hs ht hx
      have hi' : i < 6 := by omega
      have w31 : w32 (w32 (3 * (i : Int)) + 1) = ((3 * i + 1 : Nat) : Int) := w_t3 i 1 (by omega) (by omega)
      rw [e_X7_passedBy_4, if_neg (by clear w31; omega), if_pos (show og K0 7 107 10 = true from rfl), (Sk_m10 hs).1, w31]
      clear w31
      rw [if_pos (ag_112 (by omega) (by omega)), (ht.2.2 i hi').2.1, w_s i (by omega)]
      have eno : ppB xs t l i = false → pset (ppB xs t l) (i + 1) = pset (ppB xs t l) i := fun z => if_neg (by rw [z]; decide)
      by_cases q : ¬ tBy t i = l
      · have e := eno (by unfold ppB byB; rw [decide_eq_false q]; rfl)
        obtain ⟨M2, b1, b2⟩ := ih (i + 1) M (by omega) (by omega) hs ht hx
        rw [e] at b1
        rw [if_pos q, or_0 hi hi']
        exact ⟨M2, b1, b2⟩
      have q := Classical.not_not.mp q
      obtain ⟨M1, a1, a2⟩ := passesAt_ok (sc := sc) (d := d) hs ht hok hx hxs hr hi'
      obtain ⟨M2, b1, b2⟩ := ih (i + 1) M1 (by omega) (by omega) (a2.sk hs) (ht.ru a2) (hx.ru a2)
      rw [if_neg (fun z => z q), if_pos (show rg K0 7 107 = true from rfl), a1, Option.bind_some]
      show ∃ M', vr sc (d + 50) c_X7_passedBy (30, [(2, 107), (0, l), (0, pset (ppB xs t l) i), (0, (i : Int))], [(0, if psB xs t i = true then 1 else 0), (0, pset (ppB xs t l) i)], (K0, M1)) = _ ∧ _
      rw [e_X7_passedBy_30, w_s i (by omega)]
      have ep : ppB xs t l i = psB xs t i := by unfold ppB byB; rw [decide_eq_true q]; rfl
      by_cases z : psB xs t i = true
      · have e : pset (ppB xs t l) (i + 1) = i_or (pset (ppB xs t l) i) (i_shl 1 i) := if_pos (by rw [ep]; exact z)
        rw [e] at b1
        rw [if_pos z, if_neg (by decide)]
        exact ⟨M2, b1, a2.tr b2⟩
      · have e := eno (by rw [ep]; exact Bool.eq_false_iff.mpr z)
        rw [e] at b1
        rw [if_neg z, if_pos rfl, or_0 hi hi']
        exact ⟨M2, b1, a2.tr b2⟩
  exact key 6 0 M rfl (by omega) hs ht hx
def toldF (xs : List (List Int)) (t : Tn) (of w : Int) : Int :=
  if w = 0 then tDay t else if w = 1 then tWet t
  else if w = 2 then (if 0 ≤ of ∧ of < (tMany t : Int) then tNum t of.toNat else -1000)
  else if w = 3 then (if 0 ≤ of ∧ of < (tMany t : Int) then tSkl t of.toNat else -1000)
  else if w = 4 then (if 0 ≤ of ∧ of < 6 then tWlk t of.toNat else -1000)
  else if w = 5 then (if 0 ≤ of ∧ of < (tMany t : Int) then tKind t of.toNat else -1000)
  else if w = 6 then (if 0 ≤ of ∧ of < (tMany t : Int) then pset (ppB xs t of) 6 else -1000)
  else if w = 7 then (if 0 ≤ of ∧ of < 6 then tBy t of.toNat else -1000)
  else if w = 8 then (if 0 ≤ of ∧ of < 6 then numl (tKn t of.toNat) else -1000)
  else if w = 9 then (if 0 ≤ of ∧ of < 6 then ((tno t of.toNat : Nat) : Int) else -1000)
  else -1000
theorem told_c {sc : dS} {d : Nat} {M : dM} (hs : Sk M) {t : Tn} (ht : cT M 1 t) (hok : okT t) {xs : List (List Int)} (hx : cXs M xs) (hxs : okXs xs) (hr : (tRule t).toNat < xs.length) (of w : Int) : ∃ M' : dM, vc sc (d + 8) 63 [(2, 0), (0, of), (0, w)] (K0, M) = some ([(0, toldF xs t of w)], (K0, M')) ∧ FS M M' := by
  rw [vc_s (md := m_X6_told) (L := [(2, 0), (0, of), (0, w)]) rfl (Nat.le_of_ble_eq_true rfl) rfl]
  show ∃ M', vr sc (d + 7) c_X6_told (0, [(2, 0), (0, of), (0, w)], [], (K0, M)) = _ ∧ _
  have g0 : og K0 6 0 0 = true := rfl
  have m1 := hok.1.2.2.2.2.2
  rw [e_X6_told_0, (Sk_00 hs).1, hasLad_ok isT_1, isFoot_ok, ht.1.2.2.2, ht.1.1, ht.1.2.1]
  unfold toldF
  by_cases k0 : w = 0
  · rw [if_pos k0, if_pos k0, if_pos g0, if_pos (og_tn isT_1 (by decide))]
    exact ⟨M, rfl, FS.rf _⟩
  rw [if_neg k0, if_neg k0]
  by_cases k1 : w = 1
  · rw [if_pos k1, if_pos k1, if_pos g0, if_pos (og_tn isT_1 (by decide))]
    exact ⟨M, rfl, FS.rf _⟩
  rw [if_neg k1, if_neg k1]
  by_cases k2 : w = 2
  · rw [if_pos k2, if_pos k2, if_pos g0, if_pos (rg_tn isT_1), Option.bind_some]
    show ∃ M', vr sc (d + 7) c_X6_told (80, [(2, 0), (0, of), (0, w)], [(0, _)], (K0, M)) = _ ∧ _
    rw [e_X6_told_80]
    by_cases p : ¬ (0 ≤ of ∧ of < (tMany t : Int))
    · rw [bi_f p, if_pos rfl, if_neg p]
      exact ⟨M, rfl, FS.rf _⟩
    have p := Classical.not_not.mp p
    obtain ⟨l, rfl⟩ : ∃ n : Nat, of = n := ⟨of.toNat, by omega⟩
    rw [bi_t p, if_neg (by decide), if_pos g0, (Sk_00 hs).1, if_pos (og_tn isT_1 (by decide)), (Sk_T hs isT_1).2.1, if_pos (ag_t2 isT_1 (by omega) (by omega)), (ht.2.1 l (by omega)).2.1, if_pos p]
    exact ⟨M, rfl, FS.rf _⟩
  rw [if_neg k2, if_neg k2]
  by_cases k3 : w = 3
  · rw [if_pos k3, if_pos k3, if_pos g0, if_pos (rg_tn isT_1), Option.bind_some]
    show ∃ M', vr sc (d + 7) c_X6_told (107, [(2, 0), (0, of), (0, w)], [(0, _)], (K0, M)) = _ ∧ _
    rw [e_X6_told_107]
    by_cases p : ¬ (0 ≤ of ∧ of < (tMany t : Int))
    · rw [bi_f p, if_pos rfl, if_neg p]
      exact ⟨M, rfl, FS.rf _⟩
    have p := Classical.not_not.mp p
    obtain ⟨l, rfl⟩ : ∃ n : Nat, of = n := ⟨of.toNat, by omega⟩
    rw [bi_t p, if_neg (by decide), if_pos g0, (Sk_00 hs).1, if_pos (og_tn isT_1 (by decide)), (Sk_T hs isT_1).2.2.1, if_pos (ag_t3 isT_1 (by omega) (by omega)), (ht.2.1 l (by omega)).2.2, if_pos p]
    exact ⟨M, rfl, FS.rf _⟩
  rw [if_neg k3, if_neg k3]
  by_cases k4 : w = 4
  · rw [if_pos k4, if_pos k4, Option.bind_some]
    show ∃ M', vr sc (d + 7) c_X6_told (130, [(2, 0), (0, of), (0, w)], [(0, _)], (K0, M)) = _ ∧ _
    rw [e_X6_told_130]
    by_cases p : ¬ (0 ≤ of ∧ of < 6)
    · rw [bi_f p, if_pos rfl, if_neg p]
      exact ⟨M, rfl, FS.rf _⟩
    have p := Classical.not_not.mp p
    obtain ⟨l, rfl⟩ : ∃ n : Nat, of = n := ⟨of.toNat, by omega⟩
    rw [bi_t p, if_neg (by decide), if_pos g0, (Sk_00 hs).1, if_pos (og_tn isT_1 (by decide)), (Sk_T hs isT_1).2.2.2.1, if_pos (ag_t4 isT_1 (by omega) (by omega)), (ht.2.2 l (by omega)).1, if_pos p]
    exact ⟨M, rfl, FS.rf _⟩
  rw [if_neg k4, if_neg k4]
  by_cases k5 : w = 5
  · rw [if_pos k5, if_pos k5, if_pos g0, if_pos (rg_tn isT_1), Option.bind_some]
    show ∃ M', vr sc (d + 7) c_X6_told (157, [(2, 0), (0, of), (0, w)], [(0, _)], (K0, M)) = _ ∧ _
    rw [e_X6_told_157]
    by_cases p : ¬ (0 ≤ of ∧ of < (tMany t : Int))
    · rw [bi_f p, if_pos rfl, if_neg p]
      exact ⟨M, rfl, FS.rf _⟩
    have p := Classical.not_not.mp p
    obtain ⟨l, rfl⟩ : ∃ n : Nat, of = n := ⟨of.toNat, by omega⟩
    rw [bi_t p, if_neg (by decide), if_pos g0, (Sk_00 hs).1, if_pos (og_tn isT_1 (by decide)), (Sk_T hs isT_1).1, if_pos (ag_t1 isT_1 (by omega) (by omega)), (ht.2.1 l (by omega)).1, if_pos p]
    exact ⟨M, rfl, FS.rf _⟩
  rw [if_neg k5, if_neg k5]
  by_cases k6 : w = 6
  · rw [if_pos k6, if_pos k6, if_pos g0, if_pos (rg_tn isT_1), Option.bind_some]
    show ∃ M', vr sc (d + 7) c_X6_told (184, [(2, 0), (0, of), (0, w)], [(0, _)], (K0, M)) = _ ∧ _
    rw [e_X6_told_184]
    by_cases p : ¬ (0 ≤ of ∧ of < (tMany t : Int))
    · rw [bi_f p, if_pos rfl, if_neg p]
      exact ⟨M, rfl, FS.rf _⟩
    have p := Classical.not_not.mp p
    rw [bi_t p, if_neg (by decide), if_pos g0, (Sk_00 hs).1, if_pos (rg_tn isT_1), feetOf_ok (d := d + 6) hs isT_1 ht, Option.bind_some, if_pos p]
    show ∃ M', vr sc (d + 7) c_X6_told (195, [(2, 0), (0, of), (0, w)], [(0, pset (byB t of) 6)], (K0, M)) = _ ∧ _
    obtain ⟨M1, a1, a2⟩ := passing_ok (sc := sc) (d := d) hs isT_1 ht hok hx hxs hr
    rw [e_X6_told_195, if_pos (show og K0 6 0 4 = true from rfl), if_pos g0, (Sk_04r hs).1, (Sk_00 hs).1, if_pos (show rg K0 2 58 = true from rfl), a1, Option.bind_some]
    show ∃ M', vr sc (d + 7) c_X6_told (206, [(2, 0), (0, of), (0, w)], [(0, pset (psB xs t) 6), (0, pset (byB t of) 6)], (K0, M1)) = _ ∧ _
    rw [e_X6_told_206, pset_and]
    exact ⟨M1, rfl, a2⟩
  rw [if_neg k6, if_neg k6]
  by_cases k7 : w = 7
  · rw [if_pos k7, if_pos k7, Option.bind_some]
    show ∃ M', vr sc (d + 7) c_X6_told (218, [(2, 0), (0, of), (0, w)], [(0, _)], (K0, M)) = _ ∧ _
    rw [e_X6_told_218]
    by_cases p : ¬ (0 ≤ of ∧ of < 6)
    · rw [bi_f p, if_pos rfl, if_neg p]
      exact ⟨M, rfl, FS.rf _⟩
    have p := Classical.not_not.mp p
    obtain ⟨l, rfl⟩ : ∃ n : Nat, of = n := ⟨of.toNat, by omega⟩
    rw [bi_t p, if_neg (by decide), if_pos g0, (Sk_00 hs).1, if_pos (og_tn isT_1 (by decide)), (Sk_T hs isT_1).2.2.2.2.1, if_pos (ag_t5 isT_1 (by omega) (by omega)), (ht.2.2 l (by omega)).2.1, if_pos p]
    exact ⟨M, rfl, FS.rf _⟩
  rw [if_neg k7, if_neg k7]
  by_cases k8 : w = 8
  · rw [if_pos k8, if_pos k8, Option.bind_some]
    show ∃ M', vr sc (d + 7) c_X6_told (241, [(2, 0), (0, of), (0, w)], [(0, _)], (K0, M)) = _ ∧ _
    rw [e_X6_told_241]
    by_cases p : ¬ (0 ≤ of ∧ of < 6)
    · rw [bi_f p, if_pos rfl, if_neg p]
      exact ⟨M, rfl, FS.rf _⟩
    have p := Classical.not_not.mp p
    obtain ⟨l, rfl⟩ : ∃ n : Nat, of = n := ⟨of.toNat, by omega⟩
    have hl : l < 6 := by omega
    have kn := isT_kn isT_1 hl
    rw [bi_t p, if_neg (by decide), if_pos g0, (Sk_00 hs).1, if_pos (og_tn isT_1 (by decide)), (Sk_T hs isT_1).2.2.2.2.2, if_pos (ag_t6 isT_1 (by omega) (by omega)), Sk_Tk hs isT_1 hl, if_pos (rg_kn kn), number_ok kn hs (hok.2.2 l hl).2.2.2.2.1 (ht.2.2 l hl).2.2, Option.bind_some, if_pos p]
    show ∃ M', vr sc (d + 7) c_X6_told (256, [(2, 0), (0, (l : Int)), (0, w)], [(0, _)], (K0, M)) = _ ∧ _
    rw [e_X6_told_256]
    exact ⟨M, rfl, FS.rf _⟩
  rw [if_neg k8, if_neg k8]
  by_cases k9 : w = 9
  · rw [if_pos k9, if_pos k9, Option.bind_some]
    show ∃ M', vr sc (d + 7) c_X6_told (267, [(2, 0), (0, of), (0, w)], [(0, _)], (K0, M)) = _ ∧ _
    rw [e_X6_told_267]
    by_cases p : ¬ (0 ≤ of ∧ of < 6)
    · rw [bi_f p, if_pos rfl, if_neg p]
      exact ⟨M, rfl, FS.rf _⟩
    have p := Classical.not_not.mp p
    obtain ⟨l, rfl⟩ : ∃ n : Nat, of = n := ⟨of.toNat, by omega⟩
    have hl : l < 6 := by omega
    have kn := isT_kn isT_1 hl
    obtain ⟨M1, a1, a2⟩ := turns_ok (sc := sc) (d := d + 3) kn hs (hok.2.2 l hl).2.2.2.2.1 (ht.2.2 l hl).2.2
    rw [bi_t p, if_neg (by decide), if_pos (show og K0 6 0 4 = true from rfl), if_pos g0, (Sk_04r hs).1, (Sk_00 hs).1, if_pos (og_tn isT_1 (by decide)), (Sk_T hs isT_1).2.2.2.2.2, if_pos (ag_t6 isT_1 (by omega) (by omega)), Sk_Tk hs isT_1 hl, if_pos (show rg K0 2 58 = true from rfl), a1, Option.bind_some, if_pos p]
    show ∃ M', vr sc (d + 7) c_X6_told (286, [(2, 0), (0, (l : Int)), (0, w)], [(0, _)], (K0, M1)) = _ ∧ _
    rw [e_X6_told_286]
    exact ⟨M1, rfl, a2.fs⟩
  · rw [if_neg k9, if_neg k9]
    exact ⟨M, rfl, FS.rf _⟩
