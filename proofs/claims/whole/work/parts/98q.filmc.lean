/-! film, both sides -/
theorem cT_fa {M M' : dM} (hf : FSA M M') {t : Tn} (ht : cT M 1 t) : cT M' 1 t := by
  have e : ∀ x : Int, x < 99 → ∀ k, M' x k = M x k := fun x hx k => hf x k (Or.inl hx)
  exact ⟨⟨(e _ (by omega) _).trans ht.1.1, (e _ (by omega) _).trans ht.1.2.1, (e _ (by omega) _).trans ht.1.2.2.1, (e _ (by omega) _).trans ht.1.2.2.2⟩, fun l hl => ⟨(e _ (by omega) _).trans (ht.2.1 l hl).1, (e _ (by omega) _).trans (ht.2.1 l hl).2.1, (e _ (by omega) _).trans (ht.2.1 l hl).2.2⟩, fun f hf2 => ⟨(e _ (by omega) _).trans (ht.2.2 f hf2).1, (e _ (by omega) _).trans (ht.2.2 f hf2).2.1, (ht.2.2 f hf2).2.2.up (e _ (by omega) _) fun j _ _ => e _ (by omega) _⟩⟩
theorem cXs_fa {M M' : dM} (hf : FSA M M') {xs : List (List Int)} (hl : xs.length ≤ 6) (hx : cXs M xs) : cXs M' xs :=
  ⟨(hf _ _ (by omega)).trans hx.1, fun t ht => (hx.2 t ht).fr (fun k => hf _ _ (by omega)) (fun k => hf _ _ (by omega)) (fun k => hf _ _ (by omega)) (fun k => hf _ _ (by omega))⟩
theorem rT_fr {M M' : dM} (hf : FSR M M') {t : Tn} (ht : rT M t) : rT M' t :=
  ⟨⟨(hf _ _ (by omega)).trans ht.1.1, (hf _ _ (by omega)).trans ht.1.2.1, (hf _ _ (by omega)).trans ht.1.2.2.1, (hf _ _ (by omega)).trans ht.1.2.2.2⟩, fun l hl => ⟨(hf _ _ (by omega)).trans (ht.2.1 l hl).1, (hf _ _ (by omega)).trans (ht.2.1 l hl).2.1, (hf _ _ (by omega)).trans (ht.2.1 l hl).2.2⟩, fun f hf2 => ⟨(hf _ _ (by omega)).trans (ht.2.2 f hf2).1, (hf _ _ (by omega)).trans (ht.2.2 f hf2).2.1, (hf _ _ (by omega)).trans (ht.2.2 f hf2).2.2.1, fun k hk => (hf _ _ (by omega)).trans ((ht.2.2 f hf2).2.2.2 k hk)⟩⟩
theorem rXs_fr {M M' : dM} (hf : FSR M M') {xs : List (List Int)} (hx : rXs M xs) : rXs M' xs :=
  ⟨(hf _ _ (by omega)).trans hx.1, fun t ht => ⟨(hf _ _ (by omega)).trans (hx.2 t ht).1, fun i hi => (hf _ _ (by omega)).trans ((hx.2 t ht).2 i hi)⟩⟩
theorem FSA.tr {M M1 M2 : dM} (h1 : FSA M M1) (h2 : FSA M1 M2) : FSA M M2 := fun x k g => (h2 x k g).trans (h1 x k g)
theorem FSR.tr {M M1 M2 : dM} (h1 : FSR M M1) (h2 : FSR M1 M2) : FSR M M2 := fun x k g => (h2 x k g).trans (h1 x k g)
/-- what a call that writes a sheet, and thinks, keeps -/
def FSAs (M M' : dM) : Prop := ∀ x k : Int, (x < 99 ∨ 106 < x) → x ≠ 60 → x ≠ 61 → x ≠ 63 → ¬ (x = 62 ∧ k = 1) → M' x k = M x k
def FSRs (M M' : dM) : Prop := ∀ x k : Int, (x < 121 ∨ 124 < x) → x ≠ 114 → (x = 107 → (k < 13 ∨ 27 < k) ∧ k ≠ 29) → M' x k = M x k
def flS (xs : List (List Int)) (t : Tn) (l : Nat) (n : Nat) : Int := strF xs t l 0 n
def flN (xs : List (List Int)) (t : Tn) (l : Nat) : Nat → Nat
  | 0 => 0
  | n + 1 => flN xs t l n + (flS xs t l n).toNat
theorem flN_le (xs : List (List Int)) (t : Tn) (l : Nat) : ∀ n : Nat, flN xs t l n ≤ 99 * n := by
  intro n
  induction n with
  | zero => exact Nat.le_refl _
  | succ n ih =>
    have r := strF_r (xs := xs) (t := t) (l := l) (f := 0) (n := n)
    show flN xs t l n + (strF xs t l 0 n).toNat ≤ _
    omega
def flL (xs : List (List Int)) (t : Tn) (l : Nat) : List Int := lst (fun j => flS xs t l j.toNat) 13
theorem flL_len (xs : List (List Int)) (t : Tn) (l : Nat) : (flL xs t l).length = 13 := lst_len _ _
theorem flL_get {xs : List (List Int)} {t : Tn} {l i : Nat} (h : i < (flL xs t l).length) : (flL xs t l)[i] = flS xs t l i := by
  have h' : i < 13 := by rw [flL_len] at h; exact h
  have e : (flL xs t l)[i]? = some (flS xs t l i) := (lst_get (fun j => flS xs t l j.toNat) h').trans (by rw [Int.toNat_natCast])
  rw [List.getElem?_eq_getElem h] at e
  exact Option.some.inj e
def filmB (t : Tn) (s x : Int) : Bool := decide ((0 ≤ s ∧ s < 4) ∧ 0 ≤ x ∧ x < (tMany t : Int))
def filmF (xs : List (List Int)) (t : Tn) (s x : Int) : Int := if 0 ≤ s ∧ s < 4 then (if 0 ≤ x ∧ x < (tMany t : Int) then ((flN xs t x.toNat 13 : Nat) : Int) else -2) else -2
def filmO (t : Tn) (so : Nat → Int) (s x : Int) : Nat → Int := if filmB t s x = true then upf so s.toNat 0 else so
def filmL (xs : List (List Int)) (t : Tn) (sl : Nat → List Int) (s x : Int) : Nat → List Int := if filmB t s x = true then upf sl s.toNat (flL xs t x.toNat) else sl
theorem okS_film {xs : List (List Int)} {t : Tn} {so : Nat → Int} {sl : Nat → List Int} (h : okS so sl) (s x : Int) : okS (filmO t so s x) (filmL xs t sl s x) := by
  unfold filmO filmL
  by_cases p : filmB t s x = true
  · rw [if_pos p, if_pos p]
    intro j hj
    by_cases z : j = s.toNat
    · subst z
      rw [upd_at, upd_at, flL_len]
      exact ⟨by decide, by decide, by decide⟩
    · rw [upd_n z, upd_n z]
      exact h j hj
  · rw [if_neg p, if_neg p]
    exact h
theorem cS_fs {n : Nat} (hn : n < 4) {M M' : dM} (hf : FS M M') {o : Int} {l : List Int} (hc : cS M n o l) : cS M' n o l := hc.fr hn hf.fr
theorem film_c {sc : dS} {d : Nat} {M : dM} (hs : Sk M) {t : Tn} (ht : cT M 1 t) (hok : okT t) {xs : List (List Int)} (hx : cXs M xs) (hxs : okXs xs) (hr : (tRule t).toNat < xs.length) {so : Nat → Int} {sl : Nat → List Int} (hc : ∀ n : Nat, n < 4 → cS M n (so n) (sl n)) (s x : Int) : ∃ M' : dM, vc sc (d + 7) 93 [(2, 0), (0, s), (0, x)] (K0, M) = some ([(0, filmF xs t s x)], (K0, M')) ∧ Sk M' ∧ FSAs M M' ∧ ∀ j : Nat, j < 4 → cS M' j (filmO t so s x j) (filmL xs t sl s x j) := by
  rw [vc_s (md := m_X6_film) (L := [(2, 0), (0, s), (0, x), (3, 0), (3, 0), (3, 0)]) rfl (Nat.le_of_ble_eq_true rfl) rfl]
  show ∃ M', vr sc (d + 6) c_X6_film (0, [(2, 0), (0, s), (0, x), (3, 0), (3, 0), (3, 0)], [], (K0, M)) = _ ∧ _
  rw [e_X6_film_0, isSheet_ok, Option.bind_some]
  show ∃ M', vr sc (d + 6) c_X6_film (4, [(2, 0), (0, s), (0, x), (3, 0), (3, 0), (3, 0)], [(0, _)], (K0, M)) = _ ∧ _
  rw [e_X6_film_4]
  have same : FSAs M M := fun _ _ _ _ _ _ _ => rfl
  have no : ¬ ((0 ≤ s ∧ s < 4) ∧ 0 ≤ x ∧ x < (tMany t : Int)) → ¬ filmB t s x = true := fun z y => z (of_decide_eq_true y)
  unfold filmF filmO filmL
  by_cases p : ¬ (0 ≤ s ∧ s < 4)
  · rw [bi_f p, if_pos rfl, if_neg p, if_neg (no (fun z => p z.1)), if_neg (no (fun z => p z.1))]
    exact ⟨M, rfl, hs, same, hc⟩
  have p := Classical.not_not.mp p
  obtain ⟨n, rfl⟩ : ∃ j : Nat, s = j := ⟨s.toNat, by omega⟩
  have hn : n < 4 := by omega
  rw [bi_t p, if_neg (by decide), if_pos p, if_pos (show og K0 6 0 0 = true from rfl), (Sk_00 hs).1, if_pos (rg_tn isT_1), hasLad_ok isT_1, Option.bind_some, ht.1.2.2.2]
  show ∃ M', vr sc (d + 6) c_X6_film (15, [(2, 0), (0, (n : Int)), (0, x), (3, 0), (3, 0), (3, 0)], [(0, _)], (K0, M)) = _ ∧ _
  rw [e_X6_film_15]
  by_cases q : ¬ (0 ≤ x ∧ x < (tMany t : Int))
  · rw [bi_f q, if_neg (fun z => z rfl), if_neg q, if_neg (no (fun z => q z.2)), if_neg (no (fun z => q z.2))]
    exact ⟨M, rfl, hs, same, hc⟩
  have q := Classical.not_not.mp q
  obtain ⟨l, rfl⟩ : ∃ j : Nat, x = j := ⟨x.toNat, by omega⟩
  have yB : filmB t (n : Int) (l : Int) = true := decide_eq_true ⟨p, q⟩
  have a90 : ag K0 12 90 (n : Int) = true := ag_of (n := 4) rfl (by omega) (by omega)
  obtain ⟨M1, a1, a2, a3⟩ := sbecome_ok (sc := sc) (d := d + 4) hs hn (o := 0) (by decide) (n := 13) (by omega)
  have fa := a2.fa hn
  rw [bi_t q, if_pos (by decide), if_pos q, if_pos yB, if_pos yB, if_pos (show og K0 6 0 6 = true from rfl), Sk_06 hs, if_pos a90, (Sk_s hs hn).1, if_pos (rg_s hn), show vc sc (d + 6) 46 [(2, sO n), (0, 0), (0, 13)] (K0, M) = _ from a1, Option.bind_some, Int.toNat_natCast, Int.toNat_natCast]
  show ∃ M', vr sc (d + 6) c_X6_film (35, [(2, 0), (0, (n : Int)), (0, (l : Int)), (2, sO n), (3, 0), (3, 0)], [], (K0, M1)) = _ ∧ _
  have key : ∀ (m i : Nat) (N : dM), 13 - i = m → i ≤ 13 → Sk N → cT N 1 t → cXs N xs → N (sO n) 1 = 0 → N (sO n) 2 = 13 → (∀ j : Nat, j < i → N (sO n + 1) j = flS xs t l j) → ∃ N' : dM, vr sc (d + 6) c_X6_film (41, [(2, 0), (0, (n : Int)), (0, (l : Int)), (2, sO n), (0, ((flN xs t l i : Nat) : Int)), (0, (i : Int))], [], (K0, N)) = some ([(0, ((flN xs t l 13 : Nat) : Int))], (K0, N')) ∧ Sk N' ∧ (∀ a k : Int, a ≠ 60 → a ≠ 61 → a ≠ 63 → ¬ (a = 62 ∧ k = 1) → a ≠ sO n + 1 → N' a k = N a k) ∧ ∀ j : Nat, j < 13 → N' (sO n + 1) j = flS xs t l j := by
    intro m
    induction m with
    | zero =>
      intro i N hm hi hs ht hx h1 h2 hj
      have e : i = 13 := by omega
      subst e
      rw [e_X6_film_41, if_pos (og_s hn (by decide)), h2, if_pos (by decide)]
      exact ⟨N, rfl, hs, fun _ _ _ _ _ _ _ => rfl, hj⟩
    | succ m ih =>
      intro i N hm hi hs ht hx h1 h2 hj
      have hso : 99 ≤ sO n ∧ sO n ≤ 105 := by unfold sO; omega
      have r := strF_r (xs := xs) (t := t) (l := l) (f := 0) (n := i)
      have fl := flN_le xs t l i
      obtain ⟨N1, b1, b2⟩ := strength_ok (sc := sc) (d := d) hs isT_1 ht hok hx hxs hr (l := l) (f := 0) (n := i) (by omega) (by omega) (by omega)
      have hs1 := b2.sk hs
      have e2 : ∀ k : Int, N1 (sO n) k = N (sO n) k := fun k => b2 _ _ (by omega) (by omega) (by omega) (by omega)
      have e3 : ∀ k : Int, N1 (sO n + 1) k = N (sO n + 1) k := fun k => b2 _ _ (by omega) (by omega) (by omega) (by omega)
      have f2 : FSh n N1 (d_up N1 (sO n + 1) (i : Int) (strF xs t l 0 i)) := fun a k g0 _ => d_up_n1 _ g0
      have hs2 := f2.sk hn hs1
      rw [e_X6_film_41, if_pos (og_s hn (by decide)), h2, if_neg (by omega), if_pos (og_s hn (by decide)), if_pos (show og K0 6 0 4 = true from rfl), if_pos (show og K0 6 0 0 = true from rfl), (Sk_04r hs).1, (Sk_00 hs).1, if_pos (show rg K0 2 58 = true from rfl), show vc sc (d + 6) 39 [(2, 58), (2, 1), (0, (l : Int)), (0, 0), (0, (i : Int))] (K0, N) = _ from b1, Option.bind_some, (Sk_s hs hn).2]
      show ∃ N', vr sc (d + 6) c_X6_film (71, [(2, 0), (0, (n : Int)), (0, (l : Int)), (2, sO n), (0, ((flN xs t l i : Nat) : Int)), (0, (i : Int))], [(0, strF xs t l 0 i), (0, (i : Int)), (2, sO n + 1)], (K0, N1)) = _ ∧ _
      have ew : w32 (((flN xs t l i : Nat) : Int) + strF xs t l 0 i) = ((flN xs t l (i + 1) : Nat) : Int) := by
        show w32 _ = ((flN xs t l i + (strF xs t l 0 i).toNat : Nat) : Int)
        exact w32_e (by omega) (by omega) (by omega)
      rw [e_X6_film_71, if_pos (ag_s hn (by clear ew; omega) (by clear ew; omega)), if_pos (og_s hn (by decide)), (Sk_s hs2 hn).2, if_pos (ag_s hn (by clear ew; omega) (by clear ew; omega)), d_up_at, ew, w_s i (by clear ew; omega)]
      clear ew
      obtain ⟨N', c1, c2, c3, c4⟩ := ih (i + 1) (d_up N1 (sO n + 1) (i : Int) (strF xs t l 0 i)) (by omega) (by omega) hs2 (cT_fa (f2.fa hn) (ht.fs isT_1 b2)) (cXs_fa (f2.fa hn) hxs.1 (hx.fs hxs.1 b2)) ((d_up_n1 _ (by omega)).trans ((e2 1).trans h1)) ((d_up_n1 _ (by omega)).trans ((e2 2).trans h2)) (fun j hj2 => by
        by_cases z : j = i
        · subst z; rw [d_up_at]; rfl
        · rw [d_up_n2 _ (by omega), e3]
          exact hj j (by omega))
      exact ⟨N', c1, c2, fun a k g0 g1 g2 g3 g4 => (c3 a k g0 g1 g2 g3 g4).trans ((d_up_n1 _ g4).trans (b2 a k g0 g1 g2 g3)), c4⟩
  obtain ⟨M2, b1, b2, b3, b4⟩ := key 13 0 M1 rfl (by omega) (a2.sk hn hs) (cT_fa fa ht) (cXs_fa fa hxs.1 hx) a3.1 a3.2.1 (fun j hj => absurd hj (Nat.not_lt_zero j))
  have hso : 99 ≤ sO n ∧ sO n ≤ 105 := by unfold sO; omega
  have hnew : cS M2 n 0 (flL xs t l) := by
    refine ⟨(b3 _ _ (by omega) (by omega) (by omega) (by omega) (by omega)).trans a3.1, (b3 _ _ (by omega) (by omega) (by omega) (by omega) (by omega)).trans (a3.2.1.trans (by rw [flL_len]; rfl)), lst_of fun j hj => ?_⟩
    rw [flL_get hj]
    exact b4 j (by rw [flL_len] at hj; exact hj)
  rw [e_X6_film_35, show vr sc (d + 6) c_X6_film (41, [(2, 0), (0, (n : Int)), (0, (l : Int)), (2, sO n), (0, 0), (0, 0)], [], (K0, M1)) = _ from b1]
  refine ⟨M2, rfl, b2, fun a k g0 g1 g2 g3 g4 => (b3 a k g1 g2 g3 g4 (by omega)).trans (fa a k g0), fun j hj => ?_⟩
  by_cases z : j = n
  · subst z
    rw [upd_at, upd_at]
    exact hnew
  · rw [upd_n z, upd_n z]
    have cj := cS_far z a2 (hc j hj)
    have e : ∀ k : Int, M2 (sO j) k = M1 (sO j) k := fun k => b3 _ _ (by unfold sO; omega) (by unfold sO; omega) (by unfold sO; omega) (by unfold sO; omega) (by unfold sO; omega)
    have e1 : ∀ k : Int, M2 (sO j + 1) k = M1 (sO j + 1) k := fun k => b3 _ _ (by unfold sO; omega) (by unfold sO; omega) (by unfold sO; omega) (by unfold sO; omega) (by unfold sO; omega)
    exact ⟨(e 1).trans cj.1, cj.2.up (e 2) fun k _ _ => e1 k⟩
