/-! guild, both sides -/
def gldR (l : List Int) (a : Int) : Nat → Nat → Nat → Tn → Int × Tn
  | 0, _, c, t => ((c : Int), t)
  | m + 1, i, c, t => if 0 ≤ a ∧ a + 2 * (i : Int) + 2 ≤ (l.length : Int) then gldR l a m (i + 1) (if ladF t (l.getD (a.toNat + 2 * i) 0) (l.getD (a.toNat + 2 * i + 1) 0) < 0 then c else c + 1) (ladS t (l.getD (a.toNat + 2 * i) 0) (l.getD (a.toNat + 2 * i + 1) 0)) else (-12, t)
def guildR (so : Nat → Int) (sl : Nat → List Int) (t : Tn) (s o a n : Int) : Int × Tn := if 0 ≤ s ∧ s < 4 then (if 0 ≤ o ∧ o < 3 then (if 0 ≤ n ∧ n ≤ 5 then (if so s.toNat = -1 then (-11, t) else if so s.toNat = o then gldR (sl s.toNat) a n.toNat 0 0 t else (-13, t)) else (-2, t)) else (-2, t)) else (-2, t)
theorem okT_gldR {l : List Int} {a : Int} : ∀ (m i c : Nat) {t : Tn}, okT t → okT (gldR l a m i c t).2 := by
  intro m
  induction m with
  | zero => intro i c t h; exact h
  | succ m ih =>
    intro i c t h
    show okT (if _ then _ else _ : Int × Tn).2
    split
    · exact ih _ _ (okT_lad h _ _)
    · exact h
theorem ladS_1 (t : Tn) (k n : Int) : tDay (ladS t k n) = tDay t ∧ tRule (ladS t k n) = tRule t := by
  unfold ladS
  split
  · split
    · split
      · exact ⟨rfl, rfl⟩
      · exact ⟨rfl, rfl⟩
    · exact ⟨rfl, rfl⟩
  · exact ⟨rfl, rfl⟩
theorem gldR_1 {l : List Int} {a : Int} : ∀ (m i c : Nat) (t : Tn), tDay (gldR l a m i c t).2 = tDay t ∧ tRule (gldR l a m i c t).2 = tRule t := by
  intro m
  induction m with
  | zero => intro i c t; exact ⟨rfl, rfl⟩
  | succ m ih =>
    intro i c t
    show tDay (if _ then _ else _ : Int × Tn).2 = _ ∧ tRule (if _ then _ else _ : Int × Tn).2 = _
    split
    · have e := ladS_1 t (l.getD (a.toNat + 2 * i) 0) (l.getD (a.toNat + 2 * i + 1) 0)
      have e2 := ih (i + 1) (if ladF t (l.getD (a.toNat + 2 * i) 0) (l.getD (a.toNat + 2 * i + 1) 0) < 0 then c else c + 1) (ladS t (l.getD (a.toNat + 2 * i) 0) (l.getD (a.toNat + 2 * i + 1) 0))
      exact ⟨e2.1.trans e.1, e2.2.trans e.2⟩
    · exact ⟨rfl, rfl⟩
theorem cS_ft1 {M M' : dM} {n : Nat} (hn : n < 4) (hf : FT 1 M M') {o : Int} {l : List Int} (hc : cS M n o l) : cS M' n o l := by
  have e : ∀ x : Int, 99 ≤ x → ∀ k, M' x k = M x k := fun x hx k => hf x k (fun z => by unfold tslot at z; omega) (by omega) (by omega) (by omega) (by omega)
  exact ⟨(e _ (by unfold sO; omega) _).trans hc.1, hc.2.up (e _ (by unfold sO; omega) _) fun j _ _ => e _ (by unfold sO; omega) _⟩
theorem guild_loop_c {sc : dS} {d : Nat} {s : Nat} (h4 : s < 4) {o a v1 v2 : Int} {l : List Int} (hl : l.length ≤ 40) {N : Nat} (hN : N ≤ 5) (ha : -2147483648 ≤ a ∧ a < 2147483648) : ∀ (m i c : Nat) (M : dM) (t : Tn) (q8 : dV), N - i = m → i ≤ N → c ≤ i → (i = 0 ∨ (0 ≤ a ∧ a ≤ 40)) → Sk M → cT M 1 t → okT t → cS M s o l →
    ∃ M' : dM, vr sc (d + 2) c_X6_guild (63, [(2, 0), (0, v1), (0, v2), (0, a), (0, (N : Int)), (2, sO s), (0, (c : Int)), (0, (i : Int)), q8], [], (K0, M)) = some ([(0, (gldR l a m i c t).1)], (K0, M')) ∧ FT 1 M M' ∧ cT M' 1 (gldR l a m i c t).2 := by
  intro m
  induction m with
  | zero =>
    intro i c M t q8 hm hi hc ho hs ht hok hS
    rw [e_X6_guild_63, if_pos (by omega)]
    exact ⟨M, rfl, FT.rf _ _, ht⟩
  | succ m ih =>
    intro i c M t q8 hm hi hc ho hs ht hok hS
    have ew : w32 (a + w32 (2 * (i : Int))) = a + 2 * (i : Int) := by
      have e : w32 (2 * (i : Int)) = 2 * (i : Int) := w32_i (by omega) (by omega)
      rw [e]
      clear e
      exact w32_i (by omega) (by omega)
    have eG : gldR l a (m + 1) i c t = if 0 ≤ a ∧ a + 2 * (i : Int) + 2 ≤ (l.length : Int) then gldR l a m (i + 1) (if ladF t (l.getD (a.toNat + 2 * i) 0) (l.getD (a.toNat + 2 * i + 1) 0) < 0 then c else c + 1) (ladS t (l.getD (a.toNat + 2 * i) 0) (l.getD (a.toNat + 2 * i + 1) 0)) else (-12, t) := rfl
    rw [e_X6_guild_63, if_neg (by clear ew; omega), if_pos (rg_s h4), ew, spans_ok (d := d + 1) h4 hS hl ⟨by decide, by decide⟩, Option.bind_some, eG]
    clear ew
    show ∃ M', vr sc (d + 2) c_X6_guild (86, [(2, 0), (0, v1), (0, v2), (0, a), (0, (N : Int)), (2, sO s), (0, (c : Int)), (0, (i : Int)), (0, a + 2 * (i : Int))], [(0, _)], (K0, M)) = _ ∧ _
    rw [e_X6_guild_86]
    by_cases p : ¬ (0 ≤ a ∧ a + 2 * (i : Int) + 2 ≤ (l.length : Int))
    · rw [bi_f (by omega), if_neg (fun z => z rfl), if_neg p]
      exact ⟨M, rfl, FT.rf _ _, ht⟩
    have p := Classical.not_not.mp p
    obtain ⟨A, rfl⟩ : ∃ k : Nat, a = k := ⟨a.toNat, by omega⟩
    have e1 : (A : Int) + 2 * (i : Int) = ((A + 2 * i : Nat) : Int) := by omega
    have g1 : M (sO s + 1) ((A + 2 * i : Nat) : Int) = l.getD (A + 2 * i) 0 := by rw [hS.2.get (show A + 2 * i < l.length by omega), gdx_0]
    have g2 : M (sO s + 1) ((A + 2 * i + 1 : Nat) : Int) = l.getD (A + 2 * i + 1) 0 := by rw [hS.2.get (show A + 2 * i + 1 < l.length by omega), gdx_0]
    rw [bi_t (by omega), if_pos (by decide), if_pos p, if_pos (og_s h4 (by decide)), (Sk_s hs h4).2, e1, if_pos (ag_s h4 (by omega) (by omega)), if_pos (og_s h4 (by decide)), w_s _ (by omega), if_pos (ag_s h4 (by omega) (by omega)), if_pos (show rg K0 6 0 = true from rfl), g1, g2, Int.toNat_natCast]
    generalize l.getD (A + 2 * i) 0 = k at *
    generalize l.getD (A + 2 * i + 1) 0 = n at *
    obtain ⟨M1, a1, a2, a3⟩ := lad_c (sc := sc) (d := d) hs ht hok k n
    rw [a1, Option.bind_some]
    show ∃ M', vr sc (d + 2) c_X6_guild (114, [(2, 0), (0, v1), (0, v2), (0, (A : Int)), (0, (N : Int)), (2, sO s), (0, (c : Int)), (0, (i : Int)), (0, ((A + 2 * i : Nat) : Int))], [(0, ladF t k n)], (K0, M1)) = _ ∧ _
    rw [e_X6_guild_114, w_s i (by omega)]
    by_cases q : ladF t k n < 0
    · obtain ⟨M2, b1, b2, b3⟩ := ih (i + 1) c M1 (ladS t k n) (0, ((A + 2 * i : Nat) : Int)) (by omega) (by omega) (by omega) (Or.inr ⟨by omega, by omega⟩) (a2.sk isT_1 hs) a3 (okT_lad hok k n) (cS_ft1 h4 a2 hS)
      rw [if_pos q, if_pos q]
      exact ⟨M2, b1, a2.tr b2, b3⟩
    · obtain ⟨M2, b1, b2, b3⟩ := ih (i + 1) (c + 1) M1 (ladS t k n) (0, ((A + 2 * i : Nat) : Int)) (by omega) (by omega) (by omega) (Or.inr ⟨by omega, by omega⟩) (a2.sk isT_1 hs) a3 (okT_lad hok k n) (cS_ft1 h4 a2 hS)
      rw [if_neg q, if_neg q, w_s c (by omega)]
      exact ⟨M2, b1, a2.tr b2, b3⟩
theorem guild_c {sc : dS} {d : Nat} {M : dM} (hs : Sk M) {t : Tn} (ht : cT M 1 t) (hok : okT t) {so : Nat → Int} {sl : Nat → List Int} (hoS : okS so sl) (hc : ∀ n : Nat, n < 4 → cS M n (so n) (sl n)) (s o a n : Int) (ha : -2147483648 ≤ a ∧ a < 2147483648) : ∃ M' : dM, vc sc (d + 3) 104 [(2, 0), (0, s), (0, o), (0, a), (0, n)] (K0, M) = some ([(0, (guildR so sl t s o a n).1)], (K0, M')) ∧ FT 1 M M' ∧ cT M' 1 (guildR so sl t s o a n).2 := by
  rw [vc_s (md := m_X6_guild) (L := [(2, 0), (0, s), (0, o), (0, a), (0, n), (3, 0), (3, 0), (3, 0), (3, 0)]) rfl (Nat.le_of_ble_eq_true rfl) rfl]
  show ∃ M', vr sc (d + 2) c_X6_guild (0, [(2, 0), (0, s), (0, o), (0, a), (0, n), (3, 0), (3, 0), (3, 0), (3, 0)], [], (K0, M)) = _ ∧ _
  rw [e_X6_guild_0, isSheet_ok, Option.bind_some]
  show ∃ M', vr sc (d + 2) c_X6_guild (4, [(2, 0), (0, s), (0, o), (0, a), (0, n), (3, 0), (3, 0), (3, 0), (3, 0)], [(0, _)], (K0, M)) = _ ∧ _
  rw [e_X6_guild_4]
  unfold guildR
  by_cases p : ¬ (0 ≤ s ∧ s < 4)
  · rw [bi_f p, if_pos rfl, if_neg p]
    exact ⟨M, rfl, FT.rf _ _, ht⟩
  have p := Classical.not_not.mp p
  rw [bi_t p, if_neg (by decide), isSort_ok, Option.bind_some, if_pos p]
  show ∃ M', vr sc (d + 2) c_X6_guild (11, [(2, 0), (0, s), (0, o), (0, a), (0, n), (3, 0), (3, 0), (3, 0), (3, 0)], [(0, _)], (K0, M)) = _ ∧ _
  rw [e_X6_guild_11]
  by_cases q : ¬ (0 ≤ o ∧ o < 3)
  · rw [bi_f q, if_pos rfl, if_neg q]
    exact ⟨M, rfl, FT.rf _ _, ht⟩
  have q := Classical.not_not.mp q
  rw [bi_t q, if_neg (by decide), isWithin_ok, Option.bind_some, if_pos q]
  show ∃ M', vr sc (d + 2) c_X6_guild (20, [(2, 0), (0, s), (0, o), (0, a), (0, n), (3, 0), (3, 0), (3, 0), (3, 0)], [(0, _)], (K0, M)) = _ ∧ _
  rw [e_X6_guild_20]
  by_cases r : ¬ (0 ≤ n ∧ n ≤ 5)
  · rw [bi_f r, if_neg (fun z => z rfl), if_neg r]
    exact ⟨M, rfl, FT.rf _ _, ht⟩
  have r := Classical.not_not.mp r
  obtain ⟨b, rfl⟩ : ∃ k : Nat, s = k := ⟨s.toNat, by omega⟩
  obtain ⟨N, rfl⟩ : ∃ k : Nat, n = k := ⟨n.toNat, by omega⟩
  have hb : b < 4 := by omega
  have cb := hc b hb
  have a90 : ag K0 12 90 (b : Int) = true := ag_of (n := 4) rfl (by omega) (by omega)
  rw [bi_t r, if_pos (by decide), if_pos r, Int.toNat_natCast, Int.toNat_natCast, if_pos (show og K0 6 0 6 = true from rfl), Sk_06 hs, if_pos a90, (Sk_s hs hb).1, if_pos (rg_s hb), isMissing_ok hb, Option.bind_some, cb.1]
  show ∃ M', vr sc (d + 2) c_X6_guild (39, [(2, 0), (0, (b : Int)), (0, o), (0, a), (0, (N : Int)), (2, sO b), (3, 0), (3, 0), (3, 0)], [(0, bi (so b = -1))], (K0, M)) = _ ∧ _
  rw [e_X6_guild_39]
  by_cases o1 : so b = -1
  · rw [bi_t o1, if_neg (by decide), if_pos o1]
    exact ⟨M, rfl, FT.rf _ _, ht⟩
  rw [bi_f o1, if_pos rfl, if_neg o1, if_pos (og_s hb (by decide)), cb.1]
  by_cases o2 : so b = o
  · rw [if_pos o2, if_pos o2]
    exact guild_loop_c (d := d) hb (hoS b hb).2.2 (N := N) (by omega) ha N 0 0 M t (3, 0) rfl (by omega) (by omega) (Or.inl rfl) hs ht hok cb
  · rw [if_neg o2, if_neg o2]
    exact ⟨M, rfl, FT.rf _ _, ht⟩
theorem rS_fv {M M' : dM} {n : Nat} (hf : FV M M') {o : Int} {l : List Int} (hc : rS M n o l) : rS M' n o l := by
  have e : ∀ x : Int, 121 ≤ x → ∀ k, M' x k = M x k := fun x hx k => hf x k (by omega) (by omega) (by omega) (by omega) (by omega)
  exact ⟨(e _ (by decide) _).trans hc.1, fun ho => ⟨(e _ (by decide) _).trans (hc.2 ho).1, (e _ (by decide) _).trans (hc.2 ho).2.1, fun i hi => (e _ (by decide) _).trans ((hc.2 ho).2.2 i hi)⟩⟩
theorem guild_loop_r {sc : dS} {d : Nat} {s : Nat} (h4 : s < 4) {o a v2 : Int} (ho0 : 0 ≤ o) {l : List Int} (hl : l.length ≤ 40) {N : Nat} (hN : N ≤ 5) : ∀ (m i c : Nat) (M : dM) (t : Tn) (q7 : dV), N - i = m → i ≤ N → c ≤ i → Sk M → rT M t → okT t → rS M s o l →
    ∃ M' : dM, vr sc (d + 2) c_X7_guild (75, [(2, 107), (0, (s : Int)), (0, v2), (0, a), (0, (N : Int)), (0, (c : Int)), (0, (i : Int)), q7], [], (K0, M)) = some ([(0, (gldR l a m i c t).1)], (K0, M')) ∧ FV M M' ∧ rT M' (gldR l a m i c t).2 := by
  intro m
  induction m with
  | zero =>
    intro i c M t q7 hm hi hc hs ht hok hS
    rw [e_X7_guild_75, if_pos (by omega)]
    exact ⟨M, rfl, FV.rf _, ht⟩
  | succ m ih =>
    intro i c M t q7 hm hi hc hs ht hok hS
    have rs := hS.2 ho0
    have eG : gldR l a (m + 1) i c t = if 0 ≤ a ∧ a + 2 * (i : Int) + 2 ≤ (l.length : Int) then gldR l a m (i + 1) (if ladF t (l.getD (a.toNat + 2 * i) 0) (l.getD (a.toNat + 2 * i + 1) 0) < 0 then c else c + 1) (ladS t (l.getD (a.toNat + 2 * i) 0) (l.getD (a.toNat + 2 * i + 1) 0)) else (-12, t) := rfl
    rw [e_X7_guild_75, if_neg (by omega), eG]
    by_cases a0 : a < 0
    · rw [if_pos a0, if_neg (by omega)]
      exact ⟨M, rfl, FV.rf _, ht⟩
    have e2i : w32 (2 * (i : Int)) = ((2 * i : Nat) : Int) := w32_e (by omega) (by omega) (by omega)
    have e3 : w32 (w32 ((l.length : Int) - w32 (2 * (i : Int))) - 2) = (l.length : Int) - 2 * (i : Int) - 2 := by
      rw [e2i]
      clear e2i
      have e : w32 ((l.length : Int) - ((2 * i : Nat) : Int)) = (l.length : Int) - 2 * (i : Int) := w32_e (by omega) (by omega) (by omega)
      rw [e]
      clear e
      exact w32_i (by omega) (by omega)
    rw [if_neg a0, if_pos (show og K0 7 107 44 = true from rfl), (Sk_m42 hs).2.2.1, if_pos (ag_123 (by clear e2i e3; omega) (by clear e2i e3; omega)), rs.2.1, e3]
    clear e3
    by_cases p : ¬ (0 ≤ a ∧ a + 2 * (i : Int) + 2 ≤ (l.length : Int))
    · clear e2i
      rw [if_neg (show ¬ a ≤ (l.length : Int) - 2 * (i : Int) - 2 by omega), if_neg p]
      exact ⟨M, rfl, FV.rf _, ht⟩
    have p := Classical.not_not.mp p
    obtain ⟨A, rfl⟩ : ∃ k : Nat, a = k := ⟨a.toNat, by clear e2i; omega⟩
    have w1 : w32 (w32 (w32 (40 * (s : Int)) + (A : Int)) + w32 (2 * (i : Int))) = ((40 * s + (A + 2 * i) : Nat) : Int) := by
      rw [e2i]
      clear e2i
      rw [w_40ik s A (2 * i) (by omega) (by omega) (by omega)]
      omega
    clear e2i
    have w2 : w32 (((40 * s + (A + 2 * i) : Nat) : Int) + 1) = ((40 * s + (A + 2 * i + 1) : Nat) : Int) := by
      clear w1
      exact w32_e (by omega) (by omega) (by omega)
    have g1 : M 124 ((40 * s + (A + 2 * i) : Nat) : Int) = l.getD (A + 2 * i) 0 := by
      clear w1 w2
      rw [rs.2.2 (A + 2 * i) (by omega), gdx_0]
    have g2 : M 124 ((40 * s + (A + 2 * i + 1) : Nat) : Int) = l.getD (A + 2 * i + 1) 0 := by
      clear w1 w2
      rw [rs.2.2 (A + 2 * i + 1) (by omega), gdx_0]
    rw [if_pos (show (A : Int) ≤ (l.length : Int) - 2 * (i : Int) - 2 by clear w1 w2; omega), if_pos p, if_pos (show og K0 7 107 45 = true from rfl), (Sk_m42 hs).2.2.2, w1, if_pos (ag_124 (by clear w1 w2; omega) (by clear w1 w2; omega)), if_pos (show og K0 7 107 45 = true from rfl), w2, if_pos (ag_124 (by clear w1 w2; omega) (by clear w1 w2; omega)), if_pos (show rg K0 7 107 = true from rfl), g1, g2, Int.toNat_natCast]
    clear w1 w2
    generalize l.getD (A + 2 * i) 0 = k at *
    generalize l.getD (A + 2 * i + 1) 0 = n at *
    obtain ⟨M1, a1, a2, a3⟩ := lad_r (sc := sc) (d := d) hs ht hok k n
    rw [a1, Option.bind_some]
    show ∃ M', vr sc (d + 2) c_X7_guild (141, [(2, 107), (0, (s : Int)), (0, v2), (0, (A : Int)), (0, (N : Int)), (0, (c : Int)), (0, (i : Int)), (0, ((40 * s + (A + 2 * i) : Nat) : Int))], [(0, ladF t k n), (0, (c : Int))], (K0, M1)) = _ ∧ _
    have e0 : w32 ((c : Int) + 0) = (c : Int) := w32_e (by omega) (by omega) (by omega)
    rw [e_X7_guild_141, w_s i (by clear e0; omega), e0]
    clear e0
    by_cases q : ladF t k n < 0
    · obtain ⟨M2, b1, b2, b3⟩ := ih (i + 1) c M1 (ladS t k n) (0, ((40 * s + (A + 2 * i) : Nat) : Int)) (by omega) (by omega) (by omega) (a2.sk hs) a3 (okT_lad hok k n) (rS_fv a2 hS)
      rw [if_pos q, if_pos q]
      exact ⟨M2, b1, a2.tr b2, b3⟩
    · obtain ⟨M2, b1, b2, b3⟩ := ih (i + 1) (c + 1) M1 (ladS t k n) (0, ((40 * s + (A + 2 * i) : Nat) : Int)) (by omega) (by omega) (by omega) (a2.sk hs) a3 (okT_lad hok k n) (rS_fv a2 hS)
      rw [if_neg q, if_neg q, w_s c (by omega)]
      exact ⟨M2, b1, a2.tr b2, b3⟩
theorem guild_r {sc : dS} {d : Nat} {M : dM} (hs : Sk M) {t : Tn} (ht : rT M t) (hok : okT t) {so : Nat → Int} {sl : Nat → List Int} (hoS : okS so sl) (hc : ∀ n : Nat, n < 4 → rS M n (so n) (sl n)) (s o a n : Int) : ∃ M' : dM, vc sc (d + 3) 200 [(2, 107), (0, s), (0, o), (0, a), (0, n)] (K0, M) = some ([(0, (guildR so sl t s o a n).1)], (K0, M')) ∧ FV M M' ∧ rT M' (guildR so sl t s o a n).2 := by
  rw [vc_s (md := m_X7_guild) (L := [(2, 107), (0, s), (0, o), (0, a), (0, n), (3, 0), (3, 0), (3, 0)]) rfl (Nat.le_of_ble_eq_true rfl) rfl]
  show ∃ M', vr sc (d + 2) c_X7_guild (0, [(2, 107), (0, s), (0, o), (0, a), (0, n), (3, 0), (3, 0), (3, 0)], [], (K0, M)) = _ ∧ _
  rw [e_X7_guild_0, isSheet7_ok, Option.bind_some]
  show ∃ M', vr sc (d + 2) c_X7_guild (4, [(2, 107), (0, s), (0, o), (0, a), (0, n), (3, 0), (3, 0), (3, 0)], [(0, _)], (K0, M)) = _ ∧ _
  rw [e_X7_guild_4]
  unfold guildR
  by_cases p : ¬ (0 ≤ s ∧ s < 4)
  · rw [bi_f p, if_pos rfl, if_neg p]
    exact ⟨M, rfl, FV.rf _, ht⟩
  have p := Classical.not_not.mp p
  rw [bi_t p, if_neg (by decide), in_ok, Option.bind_some, if_pos p]
  show ∃ M', vr sc (d + 2) c_X7_guild (16, [(2, 107), (0, s), (0, o), (0, a), (0, n), (3, 0), (3, 0), (3, 0)], [(0, _)], (K0, M)) = _ ∧ _
  rw [e_X7_guild_16]
  by_cases q : ¬ (0 ≤ o ∧ o ≤ 2)
  · rw [bi_f q, if_pos rfl, if_neg (show ¬ (0 ≤ o ∧ o < 3) by omega)]
    exact ⟨M, rfl, FV.rf _, ht⟩
  have q := Classical.not_not.mp q
  rw [bi_t q, if_neg (by decide), in_ok, Option.bind_some, if_pos (show 0 ≤ o ∧ o < 3 by omega)]
  show ∃ M', vr sc (d + 2) c_X7_guild (29, [(2, 107), (0, s), (0, o), (0, a), (0, n), (3, 0), (3, 0), (3, 0)], [(0, _)], (K0, M)) = _ ∧ _
  rw [e_X7_guild_29]
  by_cases r : ¬ (0 ≤ n ∧ n ≤ 5)
  · rw [bi_f r, if_neg (fun z => z rfl), if_neg r]
    exact ⟨M, rfl, FV.rf _, ht⟩
  have r := Classical.not_not.mp r
  obtain ⟨b, rfl⟩ : ∃ k : Nat, s = k := ⟨s.toNat, by omega⟩
  obtain ⟨N, rfl⟩ : ∃ k : Nat, n = k := ⟨n.toNat, by omega⟩
  have hb : b < 4 := by omega
  have cb := hc b hb
  have ob := hoS b hb
  have g42 : og K0 7 107 42 = true := rfl
  have a121 := ag_121 (i := (b : Int)) (by omega) (by omega)
  rw [bi_t r, if_pos (by decide), if_pos r, Int.toNat_natCast, Int.toNat_natCast, if_pos g42, (Sk_m42 hs).1, if_pos a121, cb.1]
  by_cases o1 : so b = -1
  · rw [bi_f (by omega), if_pos rfl, if_pos g42, if_pos a121, if_neg (fun z => z rfl), if_pos o1]
    exact ⟨M, rfl, FV.rf _, ht⟩
  have ho : 0 ≤ so b := by omega
  rw [bi_t ho, if_neg (by decide), if_neg o1, if_pos (show og K0 7 107 43 = true from rfl), (Sk_m42 hs).2.1, if_pos (ag_122 (by omega) (by omega)), (cb.2 ho).1]
  by_cases o2 : so b = o
  · rw [if_pos o2, if_pos o2, if_pos g42, if_pos a121, if_pos (by decide)]
    exact guild_loop_r (d := d) hb ho (hoS b hb).2.2 (N := N) (by omega) N 0 0 M t (3, 0) rfl (by omega) (by omega) hs ht hok cb
  · rw [if_neg o2, if_neg o2]
    exact ⟨M, rfl, FV.rf _, ht⟩
