/-! tells, reference side -/
theorem rXs.fv {M M' : dM} {xs : List (List Int)} (h : rXs M xs) (hf : FV M M') : rXs M' xs := ⟨(hf 107 3 (by decide) (by decide) (by decide) (by decide) (fun _ => by decide)).trans h.1, fun t ht => ⟨(hf 109 _ (by decide) (by decide) (by decide) (by decide) (fun z => absurd z (by decide))).trans (h.2 t ht).1, fun i hi => (hf 108 _ (by decide) (by decide) (by decide) (by decide) (fun z => absurd z (by decide))).trans ((h.2 t ht).2 i hi)⟩⟩
theorem firstOther_ok {sc : dS} {d : Nat} {t : Tn} (hok : okT t) {xs : List (List Int)} (hxs : okXs xs) (hr : (tRule t).toNat < xs.length) {n : Nat} (hn : n < 4) {o : Int} (ho : 0 ≤ o) {L : List Int} (hL : L.length ≤ 13) {l : Nat} (hl : l < tMany t) {M : dM} (hs : Sk M) (ht : rT M t) (hx : rXs M xs) (hc : rS M n o L) : ∃ M' : dM, vc sc (d + 49) 186 [(2, 107), (0, (n : Int)), (0, (l : Int))] (K0, M) = some ([(0, fo xs t l L)], (K0, M')) ∧ RU M M' := by
  rw [vc_s (md := m_X7_firstOther) (L := [(2, 107), (0, (n : Int)), (0, (l : Int)), (3, 0)]) rfl (Nat.le_of_ble_eq_true rfl) rfl]
  show ∃ M', vr sc (d + 48) c_X7_firstOther (0, [(2, 107), (0, (n : Int)), (0, (l : Int)), (3, 0)], [], (K0, M)) = _ ∧ _
  have key : ∀ (m i : Nat) (N : dM), L.length - i = m → i ≤ L.length → Sk N → rT N t → rXs N xs → rS N n o L → ∃ N' : dM, vr sc (d + 48) c_X7_firstOther (2, [(2, 107), (0, (n : Int)), (0, (l : Int)), (0, (i : Int))], [], (K0, N)) = some ([(0, foI xs t l L m i)], (K0, N')) ∧ RU N N' := by
    intro m
    induction m with
    | zero =>
      intro i N hm hi hs ht hx hc
      have sm := Sk_m42 hs
      rw [e_X7_firstOther_2, if_pos (show og K0 7 107 44 = true from rfl), sm.2.2.1, if_pos (ag_123 (by omega) (by omega)), (hc.2 ho).2.1, if_pos (by omega)]
      exact ⟨N, rfl, RU.rf _⟩
    | succ m ih =>
      intro i N hm hi hs ht hx hc
      have sm := Sk_m42 hs
      have hi' : i < L.length := by omega
      obtain ⟨N1, b1, b2⟩ := holdsOf_ok (sc := sc) (d := d) hs ht hok hx hxs hr (l := l) (f := 0) (n := i) hl (by omega) (by omega)
      have hs1 := b2.ru.sk hs
      have sm1 := Sk_m42 hs1
      have hc1 := hc.fr b2.ru.fr
      have ed : L.getD i 0 = L[i] := getD_get hi'
      have w := w_t40 n i (by omega) (by omega)
      rw [e_X7_firstOther_2, if_pos (show og K0 7 107 44 = true from rfl), sm.2.2.1, if_pos (ag_123 (by clear w; omega) (by clear w; omega)), (hc.2 ho).2.1, if_neg (by clear w; omega), if_pos (show rg K0 7 107 = true from rfl), show vc sc (d + 48) 164 [(2, 107), (0, (l : Int)), (0, 0), (0, (i : Int))] (K0, N) = _ from b1, Option.bind_some]
      show ∃ N', vr sc (d + 48) c_X7_firstOther (19, [(2, 107), (0, (n : Int)), (0, (l : Int)), (0, (i : Int))], [(0, strF xs t l 0 i)], (K0, N1)) = _ ∧ _
      unfold foI
      rw [e_X7_firstOther_19, if_pos (show og K0 7 107 45 = true from rfl), sm1.2.2.2, w]
      clear w
      rw [if_pos (ag_124 (by omega) (by omega)), (hc1.2 ho).2.2 i hi', ed]
      by_cases z : L[i] = strF xs t l 0 i
      · obtain ⟨N2, c1, c2⟩ := ih (i + 1) N1 (by omega) (by omega) hs1 (ht.ru b2.ru) (hx.ru b2.ru) hc1
        rw [if_pos z.symm, if_pos z, w_s i (by omega)]
        exact ⟨N2, c1, b2.ru.tr c2⟩
      · rw [if_neg (fun y => z y.symm), if_neg z]
        exact ⟨N1, rfl, b2.ru⟩
  rw [e_X7_firstOther_0]
  exact key L.length 0 M rfl (by omega) hs ht hx hc
theorem likeSet_ok {sc : dS} {d : Nat} {t : Tn} (hok : okT t) {xs : List (List Int)} (hxs : okXs xs) (hr : (tRule t).toNat < xs.length) {n : Nat} (hn : n < 4) {o : Int} (ho : 0 ≤ o) {L : List Int} (hL : L.length ≤ 13) {M : dM} (hs : Sk M) (ht : rT M t) (hx : rXs M xs) (hc : rS M n o L) : ∃ M' : dM, vc sc (d + 50) 187 [(2, 107), (0, (n : Int))] (K0, M) = some ([(0, pset (fl xs t L) (tMany t))], (K0, M')) ∧ RU M M' := by
  have o5 := hok.1.2.2.2.2.2
  have key : ∀ (m i : Nat) (M : dM), tMany t - i = m → i ≤ tMany t → Sk M → rT M t → rXs M xs → rS M n o L →
      ∃ M' : dM, vr sc (d + 49) c_X7_likeSet (4, [(2, 107), (0, (n : Int)), (0, pset (fl xs t L) i), (0, (i : Int))], [], (K0, M)) = some ([(0, pset (fl xs t L) (tMany t))], (K0, M')) ∧ RU M M' := by
    intro m
    induction m with
    | zero =>
      intro i M hm hi hs ht hx hc
      have e : i = tMany t := by omega
      subst e
      rw [e_X7_likeSet_4, if_pos (show og K0 7 107 12 = true from rfl), ht.1.2.2.2, if_pos (Int.le_refl _)]
      exact ⟨M, rfl, RU.rf _⟩
    | succ m ih =>
      intro i M hm hi hs ht hx hc
      obtain ⟨M1, a1, a2⟩ := firstOther_ok (sc := sc) (d := d) hok hxs hr hn ho hL (l := i) (by omega) hs ht hx hc
      obtain ⟨M2, b1, b2⟩ := ih (i + 1) M1 (by omega) (by omega) (a2.sk hs) (ht.ru a2) (hx.ru a2) (hc.fr a2.fr)
      rw [e_X7_likeSet_4, if_pos (show og K0 7 107 12 = true from rfl), ht.1.2.2.2, if_neg (by omega), if_pos (show rg K0 7 107 = true from rfl), a1, Option.bind_some]
      show ∃ M', vr sc (d + 49) c_X7_likeSet (19, [(2, 107), (0, (n : Int)), (0, pset (fl xs t L) i), (0, (i : Int))], [(0, fo xs t i L), (0, pset (fl xs t L) i)], (K0, M1)) = _ ∧ _
      rw [e_X7_likeSet_19, w_s i (by omega), or_0 (by omega) (by omega)]
      refine ⟨M2, ?_, a2.tr b2⟩
      rw [← b1]
      show _ = vr sc (d + 49) c_X7_likeSet (4, [(2, 107), (0, (n : Int)), (0, if fl xs t L i = true then i_or (pset (fl xs t L) i) (i_shl 1 i) else pset (fl xs t L) i), (0, ((i + 1 : Nat) : Int))], [], (K0, M1))
      by_cases z : fo xs t i L = -1
      · rw [if_neg (fun y => y z), if_pos (show fl xs t L i = true from decide_eq_true z)]
      · rw [if_pos z, if_neg (show ¬ fl xs t L i = true from fun y => z (of_decide_eq_true y))]
  rw [vc_s (md := m_X7_likeSet) (L := [(2, 107), (0, (n : Int)), (3, 0), (3, 0)]) rfl (Nat.le_of_ble_eq_true rfl) rfl]
  show ∃ M', vr sc (d + 49) c_X7_likeSet (0, [(2, 107), (0, (n : Int)), (3, 0), (3, 0)], [], (K0, M)) = _ ∧ _
  rw [e_X7_likeSet_0]
  exact key (tMany t) 0 M rfl (by omega) hs ht hx hc
def dnS (b : Nat → Bool) : Nat → Int → Int
  | 0, a => a
  | m + 1, a => dnS b m (if b m = true then (if (10 : Int) ≤ (m : Int) then i_or a 0 else i_or a (i_shl 1 m)) else a)
def dnL (b : Nat → Bool) : Nat → Int → Int
  | 0, a => a
  | m + 1, a => dnL b m (if b m = true then (m : Int) else a)
theorem lea_ge (b : Nat → Bool) : ∀ m : Nat, lea b m = -1 ∨ 0 ≤ lea b m := by
  intro m
  induction m with
  | zero => exact Or.inl rfl
  | succ m ih =>
    unfold lea
    by_cases p : lea b m = -1
    · rw [if_pos p]
      by_cases q : b m = true
      · rw [if_pos q]; exact Or.inr (by omega)
      · rw [if_neg q]; exact Or.inl rfl
    · rw [if_neg p]; exact ih
theorem dnL_lea (b : Nat → Bool) : ∀ (m : Nat) (a : Int), dnL b m a = if lea b m = -1 then a else lea b m := by
  intro m
  induction m with
  | zero => intro a; exact (if_pos rfl).symm
  | succ m ih =>
    intro a
    show dnL b m (if b m = true then (m : Int) else a) = if (if lea b m = -1 then (if b m = true then (m : Int) else -1) else lea b m) = -1 then a else (if lea b m = -1 then (if b m = true then (m : Int) else -1) else lea b m)
    rw [ih]
    by_cases p : lea b m = -1
    · rw [if_pos p, if_pos p]
      by_cases q : b m = true
      · rw [if_pos q, if_pos q, if_neg (by omega)]
      · rw [if_neg q, if_neg q, if_pos rfl]
    · rw [if_neg p, if_neg p, if_neg p]
theorem i_or_n (x y : Int) : Int32.ofInt (i_or x y) = Int32.ofInt x ||| Int32.ofInt y := by
  unfold i_or
  exact Int32.ofInt_toInt _
theorem i_or_swp (a s p : Int) : i_or (i_or a s) p = i_or a (i_or p s) := by
  show (Int32.ofInt (i_or a s) ||| Int32.ofInt p).toInt = (Int32.ofInt a ||| Int32.ofInt (i_or p s)).toInt
  rw [i_or_n, i_or_n, Int32.or_assoc, Int32.or_comm (Int32.ofInt s)]
theorem dnS_pset (b : Nat → Bool) : ∀ (m : Nat) (a : Int), m ≤ 10 → (Int32.ofInt a).toInt = a → dnS b m a = i_or a (pset b m) := by
  intro m
  induction m with
  | zero =>
    intro a _ ha
    show a = (Int32.ofInt a ||| 0).toInt
    rw [Int32.or_zero, ha]
  | succ m ih =>
    intro a hm ha
    show dnS b m (if b m = true then (if (10 : Int) ≤ (m : Int) then i_or a 0 else i_or a (i_shl 1 m)) else a) = i_or a (if b m = true then i_or (pset b m) (i_shl 1 m) else pset b m)
    rw [if_neg (show ¬ (10 : Int) ≤ (m : Int) by omega)]
    by_cases q : b m = true
    · rw [if_pos q, if_pos q, ih _ (by omega) (by rw [i_or_n]; rfl), i_or_swp]
    · rw [if_neg q, if_neg q, ih _ (by omega) ha]
theorem pset_n (b : Nat → Bool) (m : Nat) : (Int32.ofInt (pset b m)).toInt = pset b m := by
  induction m with
  | zero => rfl
  | succ m ih =>
    unfold pset
    by_cases q : b m = true
    · rw [if_pos q, i_or_n]; rfl
    · rw [if_neg q]; exact ih
theorem dnS_0 (b : Nat → Bool) {m : Nat} (h : m ≤ 10) : dnS b m 0 = pset b m := by
  rw [dnS_pset b m 0 h rfl]
  show (0 ||| Int32.ofInt (pset b m)).toInt = _
  rw [Int32.zero_or, pset_n]
