/-! small questions, towns -/
def bi (p : Prop) [Decidable p] : Int := if p then 1 else 0
theorem bi_t {p : Prop} [Decidable p] (h : p) : bi p = 1 := if_pos h
theorem bi_f {p : Prop} [Decidable p] (h : ¬ p) : bi p = 0 := if_neg h
theorem bi_0 {p : Prop} [Decidable p] : bi p = 0 ↔ ¬ p := by
  by_cases h : p
  · rw [bi_t h]; exact ⟨fun z => absurd z (by decide), fun z => absurd h z⟩
  · rw [bi_f h]; exact ⟨fun _ => h, fun _ => rfl⟩
theorem bi_ret (p : Prop) [Decidable p] (h : dH) : d_ret 3 [(0, bi p)] h = some ([(0, bi p)], h) := by
  by_cases q : p
  · rw [bi_t q]; rfl
  · rw [bi_f q]; rfl
theorem bi_iff {p q : Prop} [Decidable p] [Decidable q] (h : p ↔ q) : bi p = bi q := by
  by_cases z : p
  · rw [bi_t z, bi_t (h.mp z)]
  · rw [bi_f z, bi_f (fun k => z (h.mpr k))]
theorem isWithin_ok {sc : dS} {d : Nat} {h : dH} {v m : Int} : vc sc (d + 1) 107 [(0, v), (0, m)] h = some ([(0, bi (0 ≤ v ∧ v ≤ m))], h) := by
  rw [vc_s (md := m_X6_isWithin) (L := [(0, v), (0, m)]) rfl (Nat.le_of_ble_eq_true rfl) rfl]
  show vr sc d c_X6_isWithin (0, [(0, v), (0, m)], [], (h.1, h.2)) = _
  rw [e_X6_isWithin_0]
  by_cases a : v < 0
  · rw [if_pos a, bi_f (by omega)]
  · rw [if_neg a]
    by_cases b : m < v
    · rw [if_pos b, bi_f (by omega)]
    · rw [if_neg b, bi_t (by omega)]
theorem isKind_ok {sc : dS} {d : Nat} {h : dH} {v : Int} : vc sc (d + 1) 108 [(0, v)] h = some ([(0, bi (0 ≤ v ∧ v < 6))], h) := by
  rw [vc_s (md := m_X6_isKind) (L := [(0, v)]) rfl (Nat.le_of_ble_eq_true rfl) rfl]
  show vr sc d c_X6_isKind (0, [(0, v)], [], (h.1, h.2)) = _
  rw [e_X6_isKind_0]
  by_cases a : v < 0
  · rw [if_pos a, bi_f (by omega)]
  · rw [if_neg a]
    by_cases b : 6 ≤ v
    · rw [if_pos b, bi_f (by omega)]
    · rw [if_neg b, bi_t (by omega)]
theorem isFoot_ok {sc : dS} {d : Nat} {h : dH} {v : Int} : vc sc (d + 1) 109 [(0, v)] h = some ([(0, bi (0 ≤ v ∧ v < 6))], h) := by
  rw [vc_s (md := m_X6_isFoot) (L := [(0, v)]) rfl (Nat.le_of_ble_eq_true rfl) rfl]
  show vr sc d c_X6_isFoot (0, [(0, v)], [], (h.1, h.2)) = _
  rw [e_X6_isFoot_0]
  by_cases a : v < 0
  · rw [if_pos a, bi_f (by omega)]
  · rw [if_neg a]
    by_cases b : 6 ≤ v
    · rw [if_pos b, bi_f (by omega)]
    · rw [if_neg b, bi_t (by omega)]
theorem isCrossing_ok {sc : dS} {d : Nat} {h : dH} {v : Int} : vc sc (d + 1) 110 [(0, v)] h = some ([(0, bi (0 ≤ v ∧ v < 4))], h) := by
  rw [vc_s (md := m_X6_isCrossing) (L := [(0, v)]) rfl (Nat.le_of_ble_eq_true rfl) rfl]
  show vr sc d c_X6_isCrossing (0, [(0, v)], [], (h.1, h.2)) = _
  rw [e_X6_isCrossing_0]
  by_cases a : v < 0
  · rw [if_pos a, bi_f (by omega)]
  · rw [if_neg a]
    by_cases b : 4 ≤ v
    · rw [if_pos b, bi_f (by omega)]
    · rw [if_neg b, bi_t (by omega)]
theorem isSheet_ok {sc : dS} {d : Nat} {h : dH} {v : Int} : vc sc (d + 1) 111 [(0, v)] h = some ([(0, bi (0 ≤ v ∧ v < 4))], h) := by
  rw [vc_s (md := m_X6_isSheet) (L := [(0, v)]) rfl (Nat.le_of_ble_eq_true rfl) rfl]
  show vr sc d c_X6_isSheet (0, [(0, v)], [], (h.1, h.2)) = _
  rw [e_X6_isSheet_0]
  by_cases a : v < 0
  · rw [if_pos a, bi_f (by omega)]
  · rw [if_neg a]
    by_cases b : 4 ≤ v
    · rw [if_pos b, bi_f (by omega)]
    · rw [if_neg b, bi_t (by omega)]
theorem isSort_ok {sc : dS} {d : Nat} {h : dH} {v : Int} : vc sc (d + 1) 112 [(0, v)] h = some ([(0, bi (0 ≤ v ∧ v < 3))], h) := by
  rw [vc_s (md := m_X6_isSort) (L := [(0, v)]) rfl (Nat.le_of_ble_eq_true rfl) rfl]
  show vr sc d c_X6_isSort (0, [(0, v)], [], (h.1, h.2)) = _
  rw [e_X6_isSort_0]
  by_cases a : v < 0
  · rw [if_pos a, bi_f (by omega)]
  · rw [if_neg a]
    by_cases b : 2 < v
    · rw [if_pos b, bi_f (by omega)]
    · rw [if_neg b, bi_t (by omega)]
def bnd (v a b : Int) : Int := if v < a then a else if b < v then b else v
theorem bounded_ok {sc : dS} {d : Nat} {h : dH} {v a b : Int} : vc sc (d + 1) 113 [(0, v), (0, a), (0, b)] h = some ([(0, bnd v a b)], h) := by
  rw [vc_s (md := m_X6_bounded) (L := [(0, v), (0, a), (0, b)]) rfl (Nat.le_of_ble_eq_true rfl) rfl]
  show vr sc d c_X6_bounded (0, [(0, v), (0, a), (0, b)], [], (h.1, h.2)) = _
  rw [e_X6_bounded_0]
  unfold bnd
  by_cases p : a ≤ v
  · rw [if_pos p, if_neg (show ¬ v < a by omega)]
    by_cases q : v ≤ b
    · rw [if_pos q, if_neg (show ¬ b < v by omega)]
    · rw [if_neg q, if_pos (show b < v by omega)]
  · rw [if_neg p, if_pos (show v < a by omega)]
theorem within_ok {sc : dS} {d : Nat} {h : dH} {v a b : Int} : vc sc (d + 1) 115 [(0, v), (0, a), (0, b)] h = some ([(0, bnd v a b)], h) := by
  rw [vc_s (md := m_X7_within) (L := [(0, v), (0, a), (0, b)]) rfl (Nat.le_of_ble_eq_true rfl) rfl]
  show vr sc d c_X7_within (0, [(0, v), (0, a), (0, b)], [], (h.1, h.2)) = _
  rw [e_X7_within_0]
  unfold bnd
  by_cases p : a ≤ v
  · rw [if_pos p, if_neg (show ¬ v < a by omega)]
    by_cases q : v ≤ b
    · rw [if_pos q, if_neg (show ¬ b < v by omega)]
    · rw [if_neg q, if_pos (show b < v by omega)]
  · rw [if_neg p, if_pos (show v < a by omega)]
theorem i_cmp_lt (x y : Int) : (i_cmp x y < 0) ↔ x < y := by
  unfold i_cmp
  split
  · omega
  · split <;> omega
theorem i_cmp_gt (x y : Int) : (0 < i_cmp x y) ↔ y < x := by
  unfold i_cmp
  split
  · omega
  · split <;> omega
theorem in_ok {sc : dS} {d : Nat} {h : dH} {v a b : Int} : vc sc (d + 1) 114 [(1, v), (1, a), (1, b)] h = some ([(0, bi (a ≤ v ∧ v ≤ b))], h) := by
  rw [vc_s (md := m_X7_in) (L := [(1, v), (3, 0), (1, a), (3, 0), (1, b), (3, 0)]) rfl (Nat.le_of_ble_eq_true rfl) rfl]
  show vr sc d c_X7_in (0, [(1, v), (3, 0), (1, a), (3, 0), (1, b), (3, 0)], [], (h.1, h.2)) = _
  have h1 := i_cmp_lt v a
  have h2 := i_cmp_gt v b
  rw [e_X7_in_0]
  by_cases p : v < a
  · rw [if_pos (h1.mpr p), bi_f (by omega)]
  · rw [if_neg (fun z => p (h1.mp z))]
    by_cases q : b < v
    · rw [if_pos (h2.mpr q), bi_f (by omega)]
    · rw [if_neg (fun z => q (h2.mp z)), bi_t (by omega)]
theorem isFoot7_ok {sc : dS} {d : Nat} {h : dH} {v : Int} : vc sc (d + 2) 119 [(0, v)] h = some ([(0, bi (0 ≤ v ∧ v < 6))], h) := by
  rw [vc_s (md := m_X7_isFoot) (L := [(0, v)]) rfl (Nat.le_of_ble_eq_true rfl) rfl]
  show vr sc (d + 1) c_X7_isFoot (0, [(0, v)], [], (h.1, h.2)) = _
  rw [e_X7_isFoot_0, in_ok, Option.bind_some]
  show vr sc (d + 1) c_X7_isFoot (9, [(0, v)], [(0, _)], (h.1, h.2)) = _
  rw [e_X7_isFoot_9, bi_ret, bi_iff (show (0 ≤ v ∧ v ≤ 5) ↔ (0 ≤ v ∧ v < 6) by omega)]
theorem isSheet7_ok {sc : dS} {d : Nat} {h : dH} {v : Int} : vc sc (d + 2) 196 [(0, v)] h = some ([(0, bi (0 ≤ v ∧ v < 4))], h) := by
  rw [vc_s (md := m_X7_isSheet) (L := [(0, v)]) rfl (Nat.le_of_ble_eq_true rfl) rfl]
  show vr sc (d + 1) c_X7_isSheet (0, [(0, v)], [], (h.1, h.2)) = _
  rw [e_X7_isSheet_0, in_ok, Option.bind_some]
  show vr sc (d + 1) c_X7_isSheet (9, [(0, v)], [(0, _)], (h.1, h.2)) = _
  rw [e_X7_isSheet_9, bi_ret, bi_iff (show (0 ≤ v ∧ v ≤ 3) ↔ (0 ≤ v ∧ v < 4) by omega)]
theorem isLad_ok {sc : dS} {d : Nat} {M : dM} {v : Int} {n : Nat} (hn : n ≤ 5) (hM : M 107 12 = n) : vc sc (d + 2) 118 [(2, 107), (0, v)] (K0, M) = some ([(0, bi (0 ≤ v ∧ v < (n : Int)))], (K0, M)) := by
  rw [vc_s (md := m_X7_isLad) (L := [(2, 107), (0, v)]) rfl (Nat.le_of_ble_eq_true rfl) rfl]
  show vr sc (d + 1) c_X7_isLad (0, [(2, 107), (0, v)], [], (K0, M)) = _
  have w : w32 ((n : Int) - 1) = (n : Int) - 1 := w32_e rfl (by omega) (by omega)
  rw [e_X7_isLad_0, if_pos (show og K0 7 107 12 = true from rfl), in_ok, Option.bind_some, hM, w]
  clear w
  show vr sc (d + 1) c_X7_isLad (13, [(2, 107), (0, v)], [(0, _)], (K0, M)) = _
  rw [e_X7_isLad_13, bi_ret, bi_iff (show (0 ≤ v ∧ v ≤ (n : Int) - 1) ↔ (0 ≤ v ∧ v < (n : Int)) by omega)]
def TNL : List Int := [1, 20, 39]
def isT (T : Int) : Prop := T ∈ TNL
theorem isT_kc {T : Int} (h : isT T) : kc K0 T = some (5, 10) ∧ kc K0 (T + 1) = some (8, 5) ∧ kc K0 (T + 2) = some (8, 5) ∧ kc K0 (T + 3) = some (8, 5) ∧ kc K0 (T + 4) = some (8, 6) ∧ kc K0 (T + 5) = some (8, 6) ∧ kc K0 (T + 6) = some (10, 6) := by
  have key : ∀ T ∈ TNL, kc K0 T = some (5, 10) ∧ kc K0 (T + 1) = some (8, 5) ∧ kc K0 (T + 2) = some (8, 5) ∧ kc K0 (T + 3) = some (8, 5) ∧ kc K0 (T + 4) = some (8, 6) ∧ kc K0 (T + 5) = some (8, 6) ∧ kc K0 (T + 6) = some (10, 6) := by decide +kernel
  exact key T h
theorem isT_kn {T : Int} (h : isT T) {f : Nat} (hf : f < 6) : isK (T + 7 + 2 * (f : Int)) := by
  have key : ∀ T ∈ TNL, ∀ f ∈ List.range 6, T + 7 + 2 * ((f : Nat) : Int) ∈ KNL := by decide +kernel
  exact key T h f (List.mem_range.mpr hf)
theorem og_tn {T : Int} (h : isT T) {b : Nat} (hb : b < 10) : og K0 5 T b = true := by
  unfold og
  rw [(isT_kc h).1]
  exact decide_eq_true ⟨rfl, by decide, hb⟩
theorem rg_tn {T : Int} (h : isT T) : rg K0 5 T = true := by
  unfold rg
  rw [(isT_kc h).1]
  rfl
theorem ag_t1 {T i : Int} (h : isT T) (h0 : 0 ≤ i) (h1 : i < 5) : ag K0 8 (T + 1) i = true := by
  unfold ag
  rw [(isT_kc h).2.1]
  exact decide_eq_true ⟨rfl, h0, h1⟩
theorem ag_t2 {T i : Int} (h : isT T) (h0 : 0 ≤ i) (h1 : i < 5) : ag K0 8 (T + 2) i = true := by
  unfold ag
  rw [(isT_kc h).2.2.1]
  exact decide_eq_true ⟨rfl, h0, h1⟩
theorem ag_t3 {T i : Int} (h : isT T) (h0 : 0 ≤ i) (h1 : i < 5) : ag K0 8 (T + 3) i = true := by
  unfold ag
  rw [(isT_kc h).2.2.2.1]
  exact decide_eq_true ⟨rfl, h0, h1⟩
theorem ag_t4 {T i : Int} (h : isT T) (h0 : 0 ≤ i) (h1 : i < 6) : ag K0 8 (T + 4) i = true := by
  unfold ag
  rw [(isT_kc h).2.2.2.2.1]
  exact decide_eq_true ⟨rfl, h0, h1⟩
theorem ag_t5 {T i : Int} (h : isT T) (h0 : 0 ≤ i) (h1 : i < 6) : ag K0 8 (T + 5) i = true := by
  unfold ag
  rw [(isT_kc h).2.2.2.2.2.1]
  exact decide_eq_true ⟨rfl, h0, h1⟩
theorem ag_t6 {T i : Int} (h : isT T) (h0 : 0 ≤ i) (h1 : i < 6) : ag K0 10 (T + 6) i = true := by
  unfold ag
  rw [(isT_kc h).2.2.2.2.2.2]
  exact decide_eq_true ⟨rfl, h0, h1⟩
theorem Sk_T {M : dM} (hs : Sk M) {T : Int} (h : isT T) : M T 4 = T + 1 ∧ M T 5 = T + 2 ∧ M T 6 = T + 3 ∧ M T 7 = T + 4 ∧ M T 8 = T + 5 ∧ M T 9 = T + 6 := by
  have key : ∀ T ∈ TNL, (T, 4, T + 1) ∈ SKL ∧ (T, 5, T + 2) ∈ SKL ∧ (T, 6, T + 3) ∈ SKL ∧ (T, 7, T + 4) ∈ SKL ∧ (T, 8, T + 5) ∈ SKL ∧ (T, 9, T + 6) ∈ SKL := by decide +kernel
  have k := key T h
  exact ⟨hs _ k.1, hs _ k.2.1, hs _ k.2.2.1, hs _ k.2.2.2.1, hs _ k.2.2.2.2.1, hs _ k.2.2.2.2.2⟩
theorem Sk_Tk {M : dM} (hs : Sk M) {T : Int} (h : isT T) {f : Nat} (hf : f < 6) : M (T + 6) f = T + 7 + 2 * (f : Int) := by
  have key : ∀ T ∈ TNL, ∀ f ∈ List.range 6, (T + 6, ((f : Nat) : Int), T + 7 + 2 * ((f : Nat) : Int)) ∈ SKL := by decide +kernel
  exact hs _ (key T h f (List.mem_range.mpr hf))
theorem hasLad_ok {sc : dS} {d : Nat} {M : dM} {T v : Int} (hT : isT T) : vc sc (d + 1) 53 [(2, T), (0, v)] (K0, M) = some ([(0, bi (0 ≤ v ∧ v < M T 3))], (K0, M)) := by
  rw [vc_s (md := m_X5_hasLad) (L := [(2, T), (0, v)]) rfl (Nat.le_of_ble_eq_true rfl) rfl]
  show vr sc d c_X5_hasLad (0, [(2, T), (0, v)], [], (K0, M)) = _
  rw [e_X5_hasLad_0]
  by_cases a : v < 0
  · rw [if_pos a, bi_f (by omega)]
  · rw [if_neg a, if_pos (og_tn hT (by decide))]
    by_cases b : M T 3 ≤ v
    · rw [if_pos b, bi_f (by omega)]
    · rw [if_neg b, bi_t (by omega)]
theorem isTied_ok {sc : dS} {d : Nat} {M : dM} (hs : Sk M) {T : Int} (hT : isT T) {f : Nat} (hf : f < 6) : vc sc (d + 2) 55 [(2, T), (0, (f : Int))] (K0, M) = some ([(0, bi (0 ≤ M (T + 5) f ∧ M (T + 5) f < M T 3))], (K0, M)) := by
  rw [vc_s (md := m_X5_isTied) (L := [(2, T), (0, (f : Int))]) rfl (Nat.le_of_ble_eq_true rfl) rfl]
  show vr sc (d + 1) c_X5_isTied (0, [(2, T), (0, (f : Int))], [], (K0, M)) = _
  rw [e_X5_isTied_0, isFoot_ok, Option.bind_some, bi_t (by omega)]
  show vr sc (d + 1) c_X5_isTied (4, [(2, T), (0, (f : Int))], [(0, 1)], (K0, M)) = _
  rw [e_X5_isTied_4, if_neg (by decide), if_pos (og_tn hT (by decide)), (Sk_T hs hT).2.2.2.2.1, if_pos (ag_t5 hT (by omega) (by omega)), if_pos (rg_tn hT), hasLad_ok hT, Option.bind_some]
  show vr sc (d + 1) c_X5_isTied (17, [(2, T), (0, (f : Int))], [(0, _)], (K0, M)) = _
  rw [e_X5_isTied_17]
  by_cases p : 0 ≤ M (T + 5) f ∧ M (T + 5) f < M T 3
  · rw [bi_t p, if_neg (by decide)]
  · rw [bi_f p, if_pos rfl]
