/-! the class's reading of signs, words and numbers -/
def RF (o : Int) (M M' : dM) : Prop := ∀ x k : Int, (x = 88 → k < 2 ∨ 6 < k) → (x = o → k ≠ 3) → x ≠ o + 1 → x ≠ o + 2 → M' x k = M x k
theorem RF.rf (o : Int) (M : dM) : RF o M M := fun _ _ _ _ _ _ => rfl
theorem RF.tr {o : Int} {M M1 M2 : dM} (h1 : RF o M M1) (h2 : RF o M1 M2) : RF o M M2 := fun x k g1 g2 g3 g4 => (h2 x k g1 g2 g3 g4).trans (h1 x k g1 g2 g3 g4)
def LX (M M' : dM) : Prop := ∀ x k : Int, (x = 88 → k < 2 ∨ 6 < k) → M' x k = M x k
theorem LX.rf (M : dM) : LX M M := fun _ _ _ => rfl
theorem LX.tr {M M1 M2 : dM} (h1 : LX M M1) (h2 : LX M1 M2) : LX M M2 := fun x k g => (h2 x k g).trans (h1 x k g)
theorem LX.to {M M' : dM} (h : LX M M') (o : Int) : RF o M M' := fun x k g _ _ _ => h x k g
theorem LX.up {M : dM} {k : Int} (h : 2 ≤ k ∧ k ≤ 6) (v : Int) : LX M (d_up M 88 k v) := fun x j g => by
  unfold d_up
  rw [if_neg]
  rintro ⟨rfl, rfl⟩
  have := g rfl
  omega
theorem rf_88 : ∀ k : Int, 2 ≤ k → k ≤ 6 → isRf 88 k = false := by
  intro k h0 h1
  rcases (show k = 2 ∨ k = 3 ∨ k = 4 ∨ k = 5 ∨ k = 6 by omega) with rfl | rfl | rfl | rfl | rfl <;> decide +kernel
theorem LX.sk {M M' : dM} (h : LX M M') (hs : Sk M) : Sk M' := Sk_of hs fun x k hq => h x k fun z => by
  by_cases p : 2 ≤ k ∧ k ≤ 6
  · rw [z, rf_88 k p.1 p.2] at hq; cases hq
  · omega
theorem LX.tp {M M' : dM} (h : LX M M') {b : List Int} (hk : KV 88 1 89 M b) : KV 88 1 89 M' b := hk.up (h 88 1 (fun _ => by omega)) fun j _ _ => h 89 j (fun z => absurd z (by decide))
theorem endOf_loop {sc : dS} {d : Nat} {M : dM} (hs : Sk M) {b : List Int} (hb : b.length ≤ 160) (hk : KV 88 1 89 M b) {P : Int → Bool} {le mo e f : Int} (hP : ∀ c, P c = true ↔ (le ≤ c ∧ c ≤ mo) ∨ c = e) : ∀ (m i : Nat), b.length - i = m → i ≤ b.length →
    vr sc d c_X1_endOf (3, [(2, 88), (0, f), (0, le), (0, mo), (0, e), (0, (i : Int))], [], (K0, M)) = some ([(0, ((eol P (b.drop i) i : Nat) : Int))], (K0, M)) := by
  intro m
  induction m with
  | zero =>
    intro i hm hi
    have e0 : i = b.length := by omega
    subst e0
    rw [e_X1_endOf_3, if_pos (show og K0 1 88 1 = true from rfl), hk.1, if_pos (Int.le_refl _), if_pos (show og K0 1 88 1 = true from rfl), List.drop_length]
    rfl
  | succ m ih =>
    intro i hm hi
    have hi' : i < b.length := by omega
    have hn : ¬ (b.length : Int) ≤ i := by omega
    have hstep : eol P (b.drop i) i = if P b[i] = true then eol P (b.drop (i + 1)) (i + 1) else i := by
      rw [List.drop_eq_getElem_cons hi']
      rfl
    rw [e_X1_endOf_3, if_pos (show og K0 1 88 1 = true from rfl), hk.1, if_neg hn, if_pos (show og K0 1 88 0 = true from rfl), (Sk_05 hs).2, if_pos (ag_89 (by omega) (by omega)), hk.get hi', hstep]
    have hy := ih (i + 1) (by omega) (by omega)
    have hq : (b[i] < le ∨ mo < b[i]) ∧ b[i] ≠ e → P b[i] ≠ true := fun z y => by
      have := (hP _).mp y
      omega
    by_cases p : b[i] < le
    · rw [if_pos p, if_pos (show og K0 1 88 0 = true from rfl), if_pos (ag_89 (by omega) (by omega))]
      by_cases q : b[i] = e
      · rw [if_pos q, w_s i (by omega), hy, if_pos ((hP _).mpr (Or.inr q))]
      · rw [if_neg q, if_neg (hq ⟨Or.inl p, q⟩)]
    · rw [if_neg p, if_pos (show og K0 1 88 0 = true from rfl), if_pos (ag_89 (by omega) (by omega))]
      by_cases r : b[i] ≤ mo
      · rw [if_pos r, w_s i (by omega), hy, if_pos ((hP _).mpr (Or.inl ⟨by omega, r⟩))]
      · rw [if_neg r, if_pos (show og K0 1 88 0 = true from rfl), if_pos (ag_89 (by omega) (by omega))]
        by_cases q : b[i] = e
        · rw [if_pos q, w_s i (by omega), hy, if_pos ((hP _).mpr (Or.inr q))]
        · rw [if_neg q, if_neg (hq ⟨Or.inr (by omega), q⟩)]
theorem endOf_ok {sc : dS} {d : Nat} {M : dM} (hs : Sk M) {b : List Int} (hb : b.length ≤ 160) (hk : KV 88 1 89 M b) {P : Int → Bool} {le mo e : Int} (hP : ∀ c, P c = true ↔ (le ≤ c ∧ c ≤ mo) ∨ c = e) {i : Nat} (hi : i ≤ b.length) :
    vc sc (d + 1) 27 [(2, 88), (0, (i : Int)), (0, le), (0, mo), (0, e)] (K0, M) = some ([(0, ((eol P (b.drop i) i : Nat) : Int))], (K0, M)) := by
  rw [vc_s (md := m_X1_endOf) (L := [(2, 88), (0, (i : Int)), (0, le), (0, mo), (0, e), (3, 0)]) rfl (Nat.le_of_ble_eq_true rfl) rfl]
  show vr sc d c_X1_endOf _ = _
  rw [e_X1_endOf_0, endOf_loop hs hb hk hP (b.length - i) i rfl hi]
theorem isIn_ok {sc : dS} {d : Nat} {K : List (Nat × Nat)} {M : dM} {c a z : Int} : vc sc (d + 1) 28 [(0, c), (0, a), (0, z)] (K, M) = some ([(0, bi (a ≤ c ∧ c ≤ z))], (K, M)) := by
  rw [vc_s (md := m_X1_isIn) (L := [(0, c), (0, a), (0, z)]) rfl (Nat.le_of_ble_eq_true rfl) rfl]
  show vr sc d c_X1_isIn _ = _
  rw [e_X1_isIn_0]
  by_cases p : c < a
  · rw [if_pos p, bi_f (by omega)]
  · rw [if_neg p]
    by_cases q : z < c
    · rw [if_pos q, bi_f (by omega)]
    · rw [if_neg q, bi_t (by omega)]
theorem isSign_ok {sc : dS} {d : Nat} {K : List (Nat × Nat)} {M : dM} {c : Int} : vc sc (d + 1) 29 [(0, c)] (K, M) = some ([(0, if isSg c = true then 1 else 0)], (K, M)) := by
  rw [vc_s (md := m_X1_isSign) (L := [(0, c)]) rfl (Nat.le_of_ble_eq_true rfl) rfl]
  show vr sc d c_X1_isSign _ = _
  rw [e_X1_isSign_0]
  by_cases p : 40 ≤ c ∧ c ≤ 61
  · obtain ⟨n, rfl⟩ : ∃ n : Nat, c = 40 + n := ⟨(c - 40).toNat, by omega⟩
    have key : ∀ n ∈ List.range 22, (if (40 + ((n : Nat) : Int)) = 40 then some ([((0 : Nat), (1 : Int))], (K, M)) else if (40 + ((n : Nat) : Int)) = 41 then some ([(0, 1)], (K, M)) else if (40 + ((n : Nat) : Int)) = 42 then some ([(0, 1)], (K, M)) else if (40 + ((n : Nat) : Int)) = 43 then some ([(0, 1)], (K, M)) else if (40 + ((n : Nat) : Int)) = 44 then some ([(0, 0)], (K, M)) else if (40 + ((n : Nat) : Int)) = 45 then some ([(0, 1)], (K, M)) else if (40 + ((n : Nat) : Int)) = 46 then some ([(0, 0)], (K, M)) else if (40 + ((n : Nat) : Int)) = 47 then some ([(0, 0)], (K, M)) else if (40 + ((n : Nat) : Int)) = 48 then some ([(0, 0)], (K, M)) else if (40 + ((n : Nat) : Int)) = 49 then some ([(0, 0)], (K, M)) else if (40 + ((n : Nat) : Int)) = 50 then some ([(0, 0)], (K, M)) else if (40 + ((n : Nat) : Int)) = 51 then some ([(0, 0)], (K, M)) else if (40 + ((n : Nat) : Int)) = 52 then some ([(0, 0)], (K, M)) else if (40 + ((n : Nat) : Int)) = 53 then some ([(0, 0)], (K, M)) else if (40 + ((n : Nat) : Int)) = 54 then some ([(0, 0)], (K, M)) else if (40 + ((n : Nat) : Int)) = 55 then some ([(0, 0)], (K, M)) else if (40 + ((n : Nat) : Int)) = 56 then some ([(0, 0)], (K, M)) else if (40 + ((n : Nat) : Int)) = 57 then some ([(0, 0)], (K, M)) else if (40 + ((n : Nat) : Int)) = 58 then some ([(0, 0)], (K, M)) else if (40 + ((n : Nat) : Int)) = 59 then some ([(0, 1)], (K, M)) else if (40 + ((n : Nat) : Int)) = 60 then some ([(0, 1)], (K, M)) else if (40 + ((n : Nat) : Int)) = 61 then some ([(0, 1)], (K, M)) else some ([(0, 0)], (K, M))) = some ([(0, if isSg (40 + ((n : Nat) : Int)) = true then 1 else 0)], (K, M)) := by
      intro n hn
      have hn := List.mem_range.mp hn
      rcases (show n = 0 ∨ n = 1 ∨ n = 2 ∨ n = 3 ∨ n = 4 ∨ n = 5 ∨ n = 6 ∨ n = 7 ∨ n = 8 ∨ n = 9 ∨ n = 10 ∨ n = 11 ∨ n = 12 ∨ n = 13 ∨ n = 14 ∨ n = 15 ∨ n = 16 ∨ n = 17 ∨ n = 18 ∨ n = 19 ∨ n = 20 ∨ n = 21 by omega) with rfl | rfl | rfl | rfl | rfl | rfl | rfl | rfl | rfl | rfl | rfl | rfl | rfl | rfl | rfl | rfl | rfl | rfl | rfl | rfl | rfl | rfl <;> rfl
    exact key n (List.mem_range.mpr (by omega))
  · have e : isSg c = false := decide_eq_false (by omega)
    rw [e, if_neg (by omega), if_neg (by omega), if_neg (by omega), if_neg (by omega), if_neg (by omega), if_neg (by omega), if_neg (by omega), if_neg (by omega), if_neg (by omega), if_neg (by omega), if_neg (by omega), if_neg (by omega), if_neg (by omega), if_neg (by omega), if_neg (by omega), if_neg (by omega), if_neg (by omega), if_neg (by omega), if_neg (by omega), if_neg (by omega), if_neg (by omega), if_neg (by omega)]
    rfl
theorem readNumber_loop {sc : dS} {d : Nat} {b : List Int} (hb : b.length ≤ 160) {s p : Nat} (hsp : s ≤ p) (hpb : p ≤ b.length) (hp4 : p - s ≤ 4) (hd : ∀ c ∈ slc2 b s p, isDig c = true) : ∀ (m i : Nat) (M : dM), p - i = m → s ≤ i → i ≤ p → Sk M → KV 88 1 89 M b → M 88 2 = p → M 88 4 = 2 → M 88 5 = dval (slc2 b s i) →
    ∃ M' : dM, vr sc d c_X1_readNumber (32, [(2, 88), (0, (i : Int))], [], (K0, M)) = some ([], (K0, M')) ∧ LX M M' ∧ M' 88 2 = M 88 2 ∧ M' 88 3 = M 88 3 ∧ M' 88 4 = 2 ∧ M' 88 6 = M 88 6 ∧ M' 88 5 = dval (slc2 b s p) := by
  intro m
  induction m with
  | zero =>
    intro i M hm h0 h1 hs hk h2 h4 h5
    have e0 : i = p := by omega
    subst e0
    rw [e_X1_readNumber_32, if_pos (show og K0 1 88 2 = true from rfl), h2, if_pos (Int.le_refl _)]
    exact ⟨M, rfl, LX.rf _, h2, rfl, h4, rfl, h5⟩
  | succ m ih =>
    intro i M hm h0 h1 hs hk h2 h4 h5
    have c1 : ¬ (p : Int) ≤ i := by omega
    have hi : i < b.length := by omega
    have es := slc2_s h0 hi
    have hsub : ∀ c ∈ slc2 b s (i + 1), isDig c = true := fun c hc => hd c (by
      unfold slc2 at hc ⊢
      exact (List.take_subset_take_left _ (by omega)) hc)
    have hd1 := dval_lt hsub (by unfold slc2; rw [List.length_take]; omega)
    have hd0 := dval_lt (l := slc2 b s i) (fun c hc => hsub c (by rw [es]; exact List.mem_append_left _ hc)) (by unfold slc2; rw [List.length_take]; omega)
    have hc := of_decide_eq_true (hsub b[i] (by rw [es]; simp))
    rw [es, dval_s] at hd1
    have e1 : w32 (10 * dval (slc2 b s i)) = 10 * dval (slc2 b s i) := w32_i (by omega) (by omega)
    have e2 : w32 (10 * dval (slc2 b s i) + b[i]) = 10 * dval (slc2 b s i) + b[i] := w32_i (by omega) (by omega)
    have e3 : w32 (10 * dval (slc2 b s i) + b[i] - 48) = 10 * dval (slc2 b s i) + b[i] - 48 := w32_i (by omega) (by omega)
    rw [e_X1_readNumber_32, if_pos (show og K0 1 88 2 = true from rfl), h2, if_neg c1, if_pos (show og K0 1 88 4 = true from rfl), h4, if_neg (fun z => z rfl), if_pos (show og K0 1 88 5 = true from rfl), if_pos (show og K0 1 88 0 = true from rfl), (Sk_05 hs).2, if_pos (ag_89 (by omega) (by omega)), if_pos (show og K0 1 88 5 = true from rfl), h5, hk.get hi, e1, e2, e3, if_pos ⟨by omega, by omega⟩, w_s i (by omega)]
    clear e1 e2 e3
    have lx : LX M (d_up M 88 5 (10 * dval (slc2 b s i) + b[i] - 48)) := LX.up (by decide) _
    obtain ⟨M', g1, g2, g3, g4, g5, g6, g7⟩ := ih (i + 1) (d_up M 88 5 (10 * dval (slc2 b s i) + b[i] - 48)) (by omega) (by omega) (by omega) (lx.sk hs) (lx.tp hk) (by rw [d_up_n2 _ (by decide)]; exact h2) (by rw [d_up_n2 _ (by decide)]; exact h4) (by rw [d_up_at, es, dval_s])
    refine ⟨M', g1, lx.tr g2, ?_, ?_, g5, ?_, g7⟩
    · rw [g3, d_up_n2 _ (by decide)]; exact h2
    · rw [g4, d_up_n2 _ (by decide)]
    · rw [g6, d_up_n2 _ (by decide)]
theorem readNumber_ok {sc : dS} {d : Nat} {M : dM} (hs : Sk M) {b : List Int} (hb : b.length ≤ 160) (hk : KV 88 1 89 M b) {s p : Nat} (hsp : s ≤ p) (hpb : p ≤ b.length) (hd : ∀ c ∈ slc2 b s p, isDig c = true) (h2 : M 88 2 = p) (h3 : M 88 3 = s) :
    ∃ M' : dM, vc sc (d + 1) 30 [(2, 88)] (K0, M) = some ([], (K0, M')) ∧ LX M M' ∧ M' 88 2 = p ∧ M' 88 3 = s ∧ M' 88 4 = (if 4 < p - s then 1 else 2) ∧ M' 88 6 = M 88 6 ∧ M' 88 5 = (if 4 < p - s then 0 else dval (slc2 b s p)) := by
  rw [vc_s (md := m_X1_readNumber) (L := [(2, 88), (3, 0)]) rfl (Nat.le_of_ble_eq_true rfl) rfl]
  show ∃ M', vr sc d c_X1_readNumber (0, [(2, 88), (3, 0)], [], (K0, M)) = _ ∧ _
  have e : w32 ((p : Int) - (s : Int)) = (p : Int) - s := w32_i (by omega) (by omega)
  rw [e_X1_readNumber_0, if_pos (show og K0 1 88 2 = true from rfl), if_pos (show og K0 1 88 3 = true from rfl), h2, h3, e]
  clear e
  by_cases q : p - s ≤ 4
  · rw [if_pos (by omega), if_pos (show og K0 1 88 4 = true from rfl), if_pos (by decide), if_pos (show og K0 1 88 5 = true from rfl), if_pos (by decide), if_pos (show og K0 1 88 3 = true from rfl), d_up_n2 _ (by decide), d_up_n2 _ (by decide), h3, if_neg (by omega), if_neg (by omega)]
    have lx : LX M (d_up (d_up M 88 4 2) 88 5 0) := (LX.up (by decide) _).tr (LX.up (by decide) _)
    obtain ⟨M', g1, g2, g3, g4, g5, g6, g7⟩ := readNumber_loop (sc := sc) (d := d) hb hsp hpb q hd (p - s) s (d_up (d_up M 88 4 2) 88 5 0) rfl (Nat.le_refl _) hsp (lx.sk hs) (lx.tp hk) (by rw [d_up_n2 _ (by decide), d_up_n2 _ (by decide)]; exact h2) (by rw [d_up_n2 _ (by decide), d_up_at]) (by rw [d_up_at, slc2_0]; rfl)
    refine ⟨M', g1, lx.tr g2, ?_, ?_, g5, ?_, g7⟩
    · rw [g3, d_up_n2 _ (by decide), d_up_n2 _ (by decide)]; exact h2
    · rw [g4, d_up_n2 _ (by decide), d_up_n2 _ (by decide)]; exact h3
    · rw [g6, d_up_n2 _ (by decide), d_up_n2 _ (by decide)]
  · rw [if_neg (by omega), if_pos (show og K0 1 88 4 = true from rfl), if_pos (by decide), if_pos (show og K0 1 88 5 = true from rfl), if_pos (by decide), if_pos (show og K0 1 88 3 = true from rfl), d_up_n2 _ (by decide), d_up_n2 _ (by decide), h3, if_pos (by omega), if_pos (by omega)]
    have lx : LX M (d_up (d_up M 88 4 1) 88 5 0) := (LX.up (by decide) _).tr (LX.up (by decide) _)
    rw [e_X1_readNumber_32, if_pos (show og K0 1 88 2 = true from rfl), d_up_n2 _ (by decide), d_up_n2 _ (by decide), h2, if_neg (by omega), if_pos (show og K0 1 88 4 = true from rfl), d_up_n2 _ (by decide), d_up_at, if_pos (by decide)]
    refine ⟨_, rfl, lx, ?_, ?_, ?_, ?_, ?_⟩
    · rw [d_up_n2 _ (by decide), d_up_n2 _ (by decide)]; exact h2
    · rw [d_up_n2 _ (by decide), d_up_n2 _ (by decide)]; exact h3
    · rw [d_up_n2 _ (by decide), d_up_at]
    · rw [d_up_n2 _ (by decide), d_up_n2 _ (by decide)]
    · rw [d_up_at]
