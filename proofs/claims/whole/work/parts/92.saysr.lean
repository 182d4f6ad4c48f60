/-! what a rule says of a lad: reference side -/
def RZ (M M' : dM) : Prop := ∀ x k : Int, (x = 107 → k < 13 ∨ 27 < k) → M' x k = M x k
theorem RZ.rf (M : dM) : RZ M M := fun _ _ _ => rfl
theorem RZ.tr {M M1 M2 : dM} (h1 : RZ M M1) (h2 : RZ M1 M2) : RZ M M2 := fun x k g => (h2 x k g).trans (h1 x k g)
theorem RY.rz {M M' : dM} (h : RY M M') : RZ M M' := fun x k g => h x k (fun z => by have := g z; omega)
theorem RZ.up (M : dM) {k : Int} (h : 13 ≤ k ∧ k ≤ 18) (v : Int) : RZ M (d_up M 107 k v) := fun x j g => by
  unfold d_up
  rw [if_neg]
  rintro ⟨rfl, rfl⟩
  have := g rfl
  omega
theorem scr_107 : ∀ k : Int, 13 ≤ k → k ≤ 27 → scr 107 k = true := by
  intro k h0 h1
  rcases (show k = 13 ∨ k = 14 ∨ k = 15 ∨ k = 16 ∨ k = 17 ∨ k = 18 ∨ k = 19 ∨ k = 20 ∨ k = 21 ∨ k = 22 ∨ k = 23 ∨ k = 24 ∨ k = 25 ∨ k = 26 ∨ k = 27 by omega) with rfl | rfl | rfl | rfl | rfl | rfl | rfl | rfl | rfl | rfl | rfl | rfl | rfl | rfl | rfl <;> decide +kernel
theorem RZ.fr {M M' : dM} (h : RZ M M') : Fr M M' := fun x k g => h x k fun z => by
  by_cases p : 13 ≤ k ∧ k ≤ 27
  · rw [z, scr_107 k p.1 p.2] at g; cases g
  · omega
theorem rXs.rz {M M' : dM} {xs : List (List Int)} (h : rXs M xs) (hf : RZ M M') : rXs M' xs := ⟨(hf 107 3 (fun _ => by omega)).trans h.1, fun t ht => ⟨(hf 109 _ (fun z => absurd z (by decide))).trans (h.2 t ht).1, fun i hi => (hf 108 _ (fun z => absurd z (by decide))).trans ((h.2 t ht).2 i hi)⟩⟩
theorem Sk_m9b {M : dM} (h : Sk M) : M 107 9 = 111 := h (107, 9, 111) (by decide +kernel)
theorem w_m3 (n : Nat) (h : n < 1000) : w32 (3 * (n : Int)) = ((3 * n : Nat) : Int) := w32_e (by omega) (by omega) (by omega)
theorem says_fin {sc : dS} {d : Nat} {M M6 : dM} (hs : Sk M) {t : Tn} (hok : okT t) {xs : List (List Int)} (hx : rXs M xs) (hxs : okXs xs) (hr : (tRule t).toNat < xs.length) {w : Nat} (hw : w < 3) {l : Nat} (turns walk : Int) (rz : RZ M M6) (h4 : M6 107 4 = tRule t) (hn : ∀ i : Nat, i < 6 → M6 107 (13 + (i : Int)) = nsT t l turns walk i) {f : Int} : ∃ M' : dM, ((vc sc (d + 46) 142 [(2, 107), (0, M6 107 4), (0, (w : Int))] (K0, M6)).bind fun r => vr sc (d + 46) c_X7_says (78, [(2, 107), (0, (w : Int)), (0, (l : Int)), (0, f), (0, turns)], r.1 ++ [], r.2)) = some ([(0, sayF xs t w l turns walk)], (K0, M')) ∧ RZ M M' := by
  have o1 := hok.1
  have hb := hxs.2 _ (List.getElem_mem hr)
  have hrr : ((tRule t).toNat : Int) = tRule t := by omega
  have hx6 := hx.rz rz
  obtain ⟨M7, v, a1, a2, a3, a4⟩ := readText_r (sc := sc) (d := d) (t := (tRule t).toNat) (by omega) hb.1 (rz.fr.sk hs) (hx6.2 _ hr) hn hw
  rw [hrr] at a1
  have e := (a3 hb.2).2
  have exs : xs.getD (tRule t).toNat [] = xs[(tRule t).toNat] := by rw [List.getD_eq_getElem?_getD, List.getElem?_eq_getElem hr]; rfl
  have ev1 : vl (nsT t l turns walk) (xs.getD (tRule t).toNat []) w = v := by
    rw [exs]
    unfold vl
    rw [e]
    rfl
  have e93 : ∀ v : Int, vr sc (d + 46) c_X7_says (93, [(2, 107), (0, (w : Int)), (0, (l : Int)), (0, f), (0, turns)], [(0, v)], (K0, M7)) = some ([(0, v)], (K0, M7)) := fun v => by rw [e_X7_says_93]
  rw [h4, a1, Option.bind_some]
  show ∃ M', vr sc (d + 46) c_X7_says (78, [(2, 107), (0, (w : Int)), (0, (l : Int)), (0, f), (0, turns)], [(0, v)], (K0, M7)) = _ ∧ _
  rw [e_X7_says_78]
  unfold sayF
  rw [ev1]
  by_cases w0 : w = 0
  · rw [if_neg (by omega), within_ok, Option.bind_some, if_pos w0]
    exact ⟨M7, e93 _, rz.tr a2.rz⟩
  · rw [if_pos (by omega), within_ok, Option.bind_some, if_neg w0]
    exact ⟨M7, e93 _, rz.tr a2.rz⟩
theorem rT.rz {M M' : dM} {t : Tn} (h : rT M t) (hf : RZ M M') : rT M' t := h.fr hf.fr
theorem says_r {sc : dS} {d : Nat} {M : dM} (hs : Sk M) {t : Tn} (ht : rT M t) (hok : okT t) {xs : List (List Int)} (hx : rXs M xs) (hxs : okXs xs) (hr : (tRule t).toNat < xs.length) {w : Nat} (hw : w < 3) {l : Nat} (hl : l < tMany t) {turns : Int} (htu : -2147483648 ≤ turns ∧ turns < 2147483648) {f walk : Int} (hf : (f = -1 ∧ walk = 0) ∨ (∃ g : Nat, g < 6 ∧ f = g ∧ walk = tWlk t g)) : ∃ M' : dM, vc sc (d + 47) 145 [(2, 107), (0, (w : Int)), (0, (l : Int)), (0, f), (0, turns)] (K0, M) = some ([(0, sayF xs t w l turns walk)], (K0, M')) ∧ RZ M M' := by
  have o1 := hok.1
  have hl5 : l < 5 := by omega
  have o2 := hok.2.1 l hl5
  rw [vc_s (md := m_X7_says) (L := [(2, 107), (0, (w : Int)), (0, (l : Int)), (0, f), (0, turns)]) rfl (Nat.le_of_ble_eq_true rfl) rfl]
  show ∃ M', vr sc (d + 46) c_X7_says (0, [(2, 107), (0, (w : Int)), (0, (l : Int)), (0, f), (0, turns)], [], (K0, M)) = _ ∧ _
  have g : ∀ b : Nat, b ∈ [13, 9, 14, 10, 15, 8, 16, 17, 7, 18, 4] → og K0 7 107 b = true := by
    intro b hb
    simp at hb
    rcases hb with rfl | rfl | rfl | rfl | rfl | rfl | rfl | rfl | rfl | rfl | rfl <;> rfl
  have rg1 : rg K0 7 107 = true := rfl
  have step : ∀ (N : dM) (k v : Int), 13 ≤ k ∧ k ≤ 18 → rT N t → RZ M N → rT (d_up N 107 k v) t ∧ RZ M (d_up N 107 k v) := fun N k v hk h2 h3 => ⟨h2.rz (RZ.up N hk v), h3.tr (RZ.up N hk v)⟩
  have sk : ∀ N : dM, RZ M N → Sk N := fun N h => h.fr.sk hs
  have w31 := w_t3 l 1 (by omega) (by omega)
  have w31 : w32 (w32 (3 * (l : Int)) + 1) = ((3 * l + 1 : Nat) : Int) := w31
  rw [e_X7_says_0, if_pos (g 13 (by decide)), if_pos htu, w31]
  clear w31
  rw [w_m3 l (by omega)]
  have k1 := step M 13 turns (by decide) ht (RZ.rf M)
  have n1 : (d_up M 107 13 turns) 107 13 = turns := d_up_at _ _ _ _
  generalize d_up M 107 13 turns = M1 at *
  rw [if_pos (g 9 (by decide)), Sk_m9b (sk _ k1.2), if_pos (ag_of (n := 15) rfl (by omega) (by omega)), if_pos (g 14 (by decide)), (k1.1.2.1 l hl5).2.1, if_pos ⟨by omega, by omega⟩]
  have k2 := step M1 14 (tSkl t l) (by decide) k1.1 k1.2
  have n20 : (d_up M1 107 14 (tSkl t l)) 107 13 = turns := by rw [d_up_n2 _ (by decide)]; exact n1
  have n21 : (d_up M1 107 14 (tSkl t l)) 107 14 = tSkl t l := d_up_at _ _ _ _
  generalize d_up M1 107 14 (tSkl t l) = M2 at *
  have tail : ∀ N3 : dM, N3 107 13 = turns → N3 107 14 = tSkl t l → N3 107 15 = walk → rT N3 t → RZ M N3 → ∃ M', (if og K0 7 107 8 = true then (if og K0 7 107 16 = true then (if -2147483648 ≤ N3 107 8 ∧ N3 107 8 < 2147483648 then (if og K0 7 107 9 = true then (if ag K0 8 ((d_up N3 107 16 (N3 107 8)) 107 9) ((3 * l : Nat) : Int) = true then (if og K0 7 107 17 = true then (if -2147483648 ≤ ((d_up N3 107 16 (N3 107 8)) ((d_up N3 107 16 (N3 107 8)) 107 9) ((3 * l : Nat) : Int)) ∧ ((d_up N3 107 16 (N3 107 8)) ((d_up N3 107 16 (N3 107 8)) 107 9) ((3 * l : Nat) : Int)) < 2147483648 then (if og K0 7 107 7 = true then (if og K0 7 107 18 = true then (if -2147483648 ≤ ((d_up (d_up N3 107 16 (N3 107 8)) 107 17 ((d_up N3 107 16 (N3 107 8)) ((d_up N3 107 16 (N3 107 8)) 107 9) ((3 * l : Nat) : Int))) 107 7) ∧ ((d_up (d_up N3 107 16 (N3 107 8)) 107 17 ((d_up N3 107 16 (N3 107 8)) ((d_up N3 107 16 (N3 107 8)) 107 9) ((3 * l : Nat) : Int))) 107 7) < 2147483648 then (if og K0 7 107 4 = true then (if rg K0 7 107 = true then (vc sc (d + 46) 142 [(2, 107), (0, (d_up (d_up (d_up N3 107 16 (N3 107 8)) 107 17 ((d_up N3 107 16 (N3 107 8)) ((d_up N3 107 16 (N3 107 8)) 107 9) ((3 * l : Nat) : Int))) 107 18 ((d_up (d_up N3 107 16 (N3 107 8)) 107 17 ((d_up N3 107 16 (N3 107 8)) ((d_up N3 107 16 (N3 107 8)) 107 9) ((3 * l : Nat) : Int))) 107 7)) 107 4), (0, (w : Int))] (K0, d_up (d_up (d_up N3 107 16 (N3 107 8)) 107 17 ((d_up N3 107 16 (N3 107 8)) ((d_up N3 107 16 (N3 107 8)) 107 9) ((3 * l : Nat) : Int))) 107 18 ((d_up (d_up N3 107 16 (N3 107 8)) 107 17 ((d_up N3 107 16 (N3 107 8)) ((d_up N3 107 16 (N3 107 8)) 107 9) ((3 * l : Nat) : Int))) 107 7))).bind (fun r => vr sc (d + 46) c_X7_says (78, [(2, 107), (0, (w : Int)), (0, (l : Int)), (0, f), (0, turns)], r.1 ++ [], r.2)) else none) else none) else none) else none) else none) else none) else none) else none) else none) else none) else none) else none) = some ([(0, sayF xs t w l turns walk)], (K0, M')) ∧ RZ M M' := by
    intro N3 n30 n31 n32 kt kr
    rw [if_pos (g 8 (by decide)), if_pos (g 16 (by decide)), kt.1.2.1, if_pos ⟨by omega, by omega⟩]
    have k4 := step N3 16 (tWet t) (by decide) kt kr
    have n40 : (d_up N3 107 16 (tWet t)) 107 13 = turns := by rw [d_up_n2 _ (by decide)]; exact n30
    have n41 : (d_up N3 107 16 (tWet t)) 107 14 = tSkl t l := by rw [d_up_n2 _ (by decide)]; exact n31
    have n42 : (d_up N3 107 16 (tWet t)) 107 15 = walk := by rw [d_up_n2 _ (by decide)]; exact n32
    have n43 : (d_up N3 107 16 (tWet t)) 107 16 = tWet t := d_up_at _ _ _ _
    generalize d_up N3 107 16 (tWet t) = N4 at *
    rw [if_pos (g 9 (by decide)), Sk_m9b (sk _ k4.2), if_pos (ag_of (n := 15) rfl (by omega) (by omega)), if_pos (g 17 (by decide)), (k4.1.2.1 l hl5).1, if_pos ⟨by omega, by omega⟩]
    have k5 := step N4 17 (tNum t l) (by decide) k4.1 k4.2
    have n50 : (d_up N4 107 17 (tNum t l)) 107 13 = turns := by rw [d_up_n2 _ (by decide)]; exact n40
    have n51 : (d_up N4 107 17 (tNum t l)) 107 14 = tSkl t l := by rw [d_up_n2 _ (by decide)]; exact n41
    have n52 : (d_up N4 107 17 (tNum t l)) 107 15 = walk := by rw [d_up_n2 _ (by decide)]; exact n42
    have n53 : (d_up N4 107 17 (tNum t l)) 107 16 = tWet t := by rw [d_up_n2 _ (by decide)]; exact n43
    have n54 : (d_up N4 107 17 (tNum t l)) 107 17 = tNum t l := d_up_at _ _ _ _
    generalize d_up N4 107 17 (tNum t l) = N5 at *
    rw [if_pos (g 7 (by decide)), if_pos (g 18 (by decide)), k5.1.1.1, if_pos ⟨by omega, by omega⟩, if_pos (g 4 (by decide)), if_pos rg1]
    have k6 := step N5 18 (tDay t) (by decide) k5.1 k5.2
    have hn : ∀ i : Nat, i < 6 → (d_up N5 107 18 (tDay t)) 107 (13 + (i : Int)) = nsT t l turns walk i := fun i hi => by
      rcases (show i = 0 ∨ i = 1 ∨ i = 2 ∨ i = 3 ∨ i = 4 ∨ i = 5 by omega) with rfl | rfl | rfl | rfl | rfl | rfl
      · exact (d_up_n2 _ (by decide)).trans n50
      · exact (d_up_n2 _ (by decide)).trans n51
      · exact (d_up_n2 _ (by decide)).trans n52
      · exact (d_up_n2 _ (by decide)).trans n53
      · exact (d_up_n2 _ (by decide)).trans n54
      · exact d_up_at _ _ _ _
    generalize d_up N5 107 18 (tDay t) = N6 at *
    exact says_fin hs hok hx hxs hr hw turns walk k6.2 k6.1.1.2.2.1 hn
  rcases hf with ⟨rfl, rfl⟩ | ⟨q, hq, rfl, rfl⟩
  · have k3 := step M2 15 0 (by decide) k2.1 k2.2
    have n30 : (d_up M2 107 15 0) 107 13 = turns := by rw [d_up_n2 _ (by decide)]; exact n20
    have n31 : (d_up M2 107 15 0) 107 14 = tSkl t l := by rw [d_up_n2 _ (by decide)]; exact n21
    rw [if_neg (fun z => z rfl), if_pos (g 15 (by decide)), if_pos (by decide)]
    exact tail (d_up M2 107 15 0) n30 n31 (d_up_at _ _ _ _) k3.1 k3.2
  · have o3 := hok.2.2 q hq
    rw [if_pos (by omega), if_pos (g 10 (by decide)), w_m3 q (by omega), (Sk_m10 (sk _ k2.2)).1, if_pos (ag_112 (by omega) (by omega)), if_pos (g 15 (by decide)), (k2.1.2.2 q hq).1, if_pos ⟨by omega, by omega⟩]
    have k3 := step M2 15 (tWlk t q) (by decide) k2.1 k2.2
    have n30 : (d_up M2 107 15 (tWlk t q)) 107 13 = turns := by rw [d_up_n2 _ (by decide)]; exact n20
    have n31 : (d_up M2 107 15 (tWlk t q)) 107 14 = tSkl t l := by rw [d_up_n2 _ (by decide)]; exact n21
    exact tail (d_up M2 107 15 (tWlk t q)) n30 n31 (d_up_at _ _ _ _) k3.1 k3.2
