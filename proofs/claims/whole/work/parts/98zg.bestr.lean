/-! best, reference side -/
theorem scr_108 (k : Int) : scr 108 k = false ∧ scr 109 k = false := ⟨scr_no (by decide +kernel) (by decide +kernel) k, scr_no (by decide +kernel) (by decide +kernel) k⟩
theorem rXs.fr {M M' : dM} {xs : List (List Int)} (h : rXs M xs) (hf : Fr M M') : rXs M' xs := ⟨(hf 107 3 (by decide +kernel)).trans h.1, fun t ht => ⟨(hf 109 _ (scr_108 _).2).trans (h.2 t ht).1, fun i hi => (hf 108 _ (scr_108 _).1).trans ((h.2 t ht).2 i hi)⟩⟩
theorem Sk_m32 {M : dM} (h : Sk M) : M 107 32 = 117 := h (107, 32, 117) (by decide +kernel)
theorem ag_117 {i : Int} (h0 : 0 ≤ i) (h1 : i < 30) : ag K0 8 117 i = true := ag_of (n := 30) rfl h0 h1
def tpS (xs : List (List Int)) (t : Tn) (w : List Int) (n : Nat) (M : dM) : Prop := ∀ j : Nat, j < n → M 117 (j : Int) = ((gdN xs t w (j / 6) (j % 6) : Nat) : Int)
theorem RU.tp {xs : List (List Int)} {t : Tn} {w : List Int} {n : Nat} {M M' : dM} (h : RU M M') (ht : tpS xs t w n M) : tpS xs t w n M' := fun j hj => (h 117 _ (by decide) (fun z => absurd z (by decide))).trans (ht j hj)
theorem tellsPass_ok {sc : dS} {d : Nat} {M : dM} (hs : Sk M) {t : Tn} (ht : rT M t) (hok : okT t) {xs : List (List Int)} (hx : rXs M xs) (hxs : okXs xs) (hr : (tRule t).toNat < xs.length) {n : Nat} (hn : n < 4) {o : Int} (ho : 0 ≤ o) {w : List Int} (hw : w.length ≤ 12) (hc : rS M n o w) : ∃ M' : dM, vc sc (d + 49) 178 [(2, 107), (0, (n : Int))] (K0, M) = some ([], (K0, M')) ∧ Fr M M' ∧ tpS xs t w (6 * tMany t) M' := by
  have o5 := hok.1.2.2.2.2.2
  have inner : ∀ (m f l : Nat) (N : dM), 6 - f = m → f ≤ 6 → l < tMany t → Sk N → rT N t → rXs N xs → tpS xs t w (6 * l + f) N → ∃ N' : dM, vr sc (d + 48) c_X7_tellsPass (28, [(2, 107), (0, (n : Int)), (0, (l : Int)), (0, ((nB t w l : Nat) : Int)), (0, (f : Int))], [], (K0, N)) = vr sc (d + 48) c_X7_tellsPass (2, [(2, 107), (0, (n : Int)), (0, ((l + 1 : Nat) : Int)), (0, ((nB t w l : Nat) : Int)), (0, 6)], [], (K0, N')) ∧ Fr N N' ∧ tpS xs t w (6 * (l + 1)) N' := by
    intro m
    induction m with
    | zero =>
      intro f l N hm hf hl hs ht hx hp
      have e : f = 6 := by omega
      subst e
      rw [e_X7_tellsPass_28, if_pos (by decide), w_s l (by omega)]
      exact ⟨N, rfl, Fr.rf _, hp⟩
    | succ m ih =>
      intro f l N hm hf hl hs ht hx hp
      have hf6 : f < 6 := by omega
      have hn12 : nB t w l ≤ 12 := pt_len hw
      obtain ⟨N1, a1, a2⟩ := holdsOf_ok (sc := sc) (d := d) hs ht hok hx hxs hr hl hf6 (n := nB t w l) (by omega)
      have hs1 := a2.ru.sk hs
      have ht1 := ht.ru a2.ru
      have hx1 := hx.ru a2.ru
      have hp1 := a2.ru.tp hp
      have w6 : w32 (w32 (6 * (l : Int)) + (f : Int)) = ((6 * l + f : Nat) : Int) := by
        rw [show w32 (6 * (l : Int)) = ((6 * l : Nat) : Int) from w32_e (by omega) (by omega) (by omega)]
        exact w32_e (by omega) (by omega) (by omega)
      have u : ∀ v : Int, Fr N1 (d_up N1 117 ((6 * l + f : Nat) : Int) v) := fun v => Fr.up (by decide +kernel) _ _
      have fin : ∀ v : Int, v = ((gdN xs t w l f : Nat) : Int) → ∃ N' : dM, vr sc (d + 48) c_X7_tellsPass (28, [(2, 107), (0, (n : Int)), (0, (l : Int)), (0, ((nB t w l : Nat) : Int)), (0, ((f + 1 : Nat) : Int))], [], (K0, d_up N1 117 ((6 * l + f : Nat) : Int) v)) = vr sc (d + 48) c_X7_tellsPass (2, [(2, 107), (0, (n : Int)), (0, ((l + 1 : Nat) : Int)), (0, ((nB t w l : Nat) : Int)), (0, 6)], [], (K0, N')) ∧ Fr N N' ∧ tpS xs t w (6 * (l + 1)) N' := fun v hv => by
        clear w6
        obtain ⟨N', b1, b2, b3⟩ := ih (f + 1) l (d_up N1 117 ((6 * l + f : Nat) : Int) v) (by omega) (by omega) hl ((u v).sk hs1) (ht1.fr (u v)) (hx1.fr (u v)) (fun j hj => by
          by_cases z : j = 6 * l + f
          · rw [z, d_up_at, hv, show (6 * l + f) / 6 = l by omega, show (6 * l + f) % 6 = f by omega]
          · rw [d_up_n2 _ (by omega)]
            exact hp1 j (by omega))
        exact ⟨N', b1, a2.ru.fr.tr ((u v).tr b2), b3⟩
      rw [e_X7_tellsPass_28, if_neg (by clear w6; omega), if_pos (show og K0 7 107 32 = true from rfl), if_pos (show rg K0 7 107 = true from rfl), a1, Option.bind_some, Sk_m32 hs, w6]
      clear w6
      show ∃ N', vr sc (d + 48) c_X7_tellsPass (54, [(2, 107), (0, (n : Int)), (0, (l : Int)), (0, ((nB t w l : Nat) : Int)), (0, (f : Int))], [(0, strF xs t l f (nB t w l)), (0, ((6 * l + f : Nat) : Int)), (2, 117)], (K0, N1)) = _ ∧ _
      rw [e_X7_tellsPass_54, if_pos (show og K0 7 107 10 = true from rfl), (Sk_m10 hs1).1, w_m3 f (by omega), if_pos (ag_112 (by omega) (by omega)), (ht1.2.2 f hf6).1, if_pos (ag_117 (by omega) (by omega)), if_pos (ag_117 (by omega) (by omega)), w_s f (by omega)]
      by_cases q : strF xs t l f (nB t w l) < tWlk t f
      · rw [if_pos q]
        exact fin 0 (by unfold gdN; rw [if_neg (show ¬ gdB xs t w l f = true from fun y => by have := of_decide_eq_true y; omega)]; rfl)
      · rw [if_neg q]
        exact fin 1 (by unfold gdN; rw [if_pos (show gdB xs t w l f = true from decide_eq_true (by omega))]; rfl)
  have outer : ∀ (m l : Nat) (q3 q4 : dV) (N : dM), tMany t - l = m → l ≤ tMany t → Sk N → rT N t → rXs N xs → rS N n o w → tpS xs t w (6 * l) N → ∃ N' : dM, vr sc (d + 48) c_X7_tellsPass (2, [(2, 107), (0, (n : Int)), (0, (l : Int)), q3, q4], [], (K0, N)) = some ([], (K0, N')) ∧ Fr N N' ∧ tpS xs t w (6 * tMany t) N' := by
    intro m
    induction m with
    | zero =>
      intro l q3 q4 N hm hl hs ht hx hc hp
      have e : l = tMany t := by omega
      rw [e_X7_tellsPass_2, if_pos (show og K0 7 107 12 = true from rfl), ht.1.2.2.2, if_pos (by omega)]
      exact ⟨N, rfl, Fr.rf _, by rw [← e]; exact hp⟩
    | succ m ih =>
      intro l q3 q4 N hm hl hs ht hx hc hp
      have hl5 : l < 5 := by omega
      obtain ⟨N1, a1, a2, a3⟩ := takesSheet_ok (sc := sc) (d := d + 47) hs hn ho hw hc
      have hs1 := a2.ru.sk hs
      have ht1 := ht.ru a2.ru
      obtain ⟨N2, b1, b2, b3⟩ := ties1_ok (sc := sc) (d := d + 45) hl5 hs1 hw a3
      rw [(ht1.2.1 l hl5).2.2] at b3
      have hs2 := b2.ru.sk hs1
      obtain ⟨N3, c1, c2, c3⟩ := pulledSize_ok (sc := sc) (d := d + 44) hs2 (tiel_len hw) b3
      have f3 := (a2.ru.tr b2.ru).tr c2.ru
      have hs3 := f3.sk hs
      obtain ⟨N4, e1, e2, e3⟩ := inner 6 0 l N3 rfl (by omega) (by omega) hs3 (ht.ru f3) (hx.ru f3) (f3.tp hp)
      have f4 := f3.fr.tr e2
      obtain ⟨N5, g1, g2, g3⟩ := ih (l + 1) (0, ((nB t w l : Nat) : Int)) (0, 6) N4 (by omega) (by omega) (f4.sk hs) (ht.fr f4) (hx.fr f4) (hc.fr f4) e3
      rw [e_X7_tellsPass_2, if_pos (show og K0 7 107 12 = true from rfl), ht.1.2.2.2, if_neg (by omega), if_pos (show rg K0 7 107 = true from rfl), a1, Option.bind_some]
      show ∃ N', vr sc (d + 48) c_X7_tellsPass (15, [(2, 107), (0, (n : Int)), (0, (l : Int)), q3, q4], [], (K0, N1)) = _ ∧ _
      rw [e_X7_tellsPass_15, if_pos (show rg K0 7 107 = true from rfl), b1, Option.bind_some]
      show ∃ N', vr sc (d + 48) c_X7_tellsPass (20, [(2, 107), (0, (n : Int)), (0, (l : Int)), q3, q4], [], (K0, N2)) = _ ∧ _
      rw [e_X7_tellsPass_20, if_pos (show rg K0 7 107 = true from rfl), c1, Option.bind_some]
      show ∃ N', vr sc (d + 48) c_X7_tellsPass (24, [(2, 107), (0, (n : Int)), (0, (l : Int)), q3, q4], [(0, ((nB t w l : Nat) : Int))], (K0, N3)) = _ ∧ _
      rw [e_X7_tellsPass_24]
      exact ⟨N5, e1.trans g1, f4.tr g2, g3⟩
  rw [vc_s (md := m_X7_tellsPass) (L := [(2, 107), (0, (n : Int)), (3, 0), (3, 0), (3, 0)]) rfl (Nat.le_of_ble_eq_true rfl) rfl]
  show ∃ M', vr sc (d + 48) c_X7_tellsPass (0, [(2, 107), (0, (n : Int)), (3, 0), (3, 0), (3, 0)], [], (K0, M)) = _ ∧ _
  rw [e_X7_tellsPass_0]
  exact outer (tMany t) 0 (3, 0) (3, 0) M rfl (by omega) hs ht hx hc (fun j hj => absurd hj (Nat.not_lt_zero j))
