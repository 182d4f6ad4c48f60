/-! the reference's reading of signs, words and numbers -/
def okB (b : List Int) : Prop := b.length ≤ 160 ∧ ∀ c ∈ b, 0 ≤ c ∧ c ≤ 255
def LN (M M' : dM) : Prop := ∀ x k : Int, (x = 107 → k < 21 ∨ 24 < k) → M' x k = M x k
theorem LN.rf (M : dM) : LN M M := fun _ _ _ => rfl
theorem LN.tr {M M1 M2 : dM} (h1 : LN M M1) (h2 : LN M1 M2) : LN M M2 := fun x k g => (h2 x k g).trans (h1 x k g)
theorem LN.up {M : dM} {k : Int} (h : 21 ≤ k ∧ k ≤ 24) (v : Int) : LN M (d_up M 107 k v) := fun x j g => by
  unfold d_up
  rw [if_neg]
  rintro ⟨rfl, rfl⟩
  have := g rfl
  omega
def RN (M M' : dM) : Prop := ∀ x k : Int, (x = 107 → k < 21 ∨ 27 < k) → M' x k = M x k
theorem RN.rf (M : dM) : RN M M := fun _ _ _ => rfl
theorem RN.tr {M M1 M2 : dM} (h1 : RN M M1) (h2 : RN M1 M2) : RN M M2 := fun x k g => (h2 x k g).trans (h1 x k g)
theorem LN.rn {M M' : dM} (h : LN M M') : RN M M' := fun x k g => h x k (fun z => by have := g z; omega)
theorem RN.up {M : dM} {k : Int} (h : 21 ≤ k ∧ k ≤ 27) (v : Int) : RN M (d_up M 107 k v) := fun x j g => by
  unfold d_up
  rw [if_neg]
  rintro ⟨rfl, rfl⟩
  have := g rfl
  omega
theorem rf_107 : ∀ k : Int, 13 ≤ k → k ≤ 27 → isRf 107 k = false := by
  intro k h0 h1
  rcases (show k = 13 ∨ k = 14 ∨ k = 15 ∨ k = 16 ∨ k = 17 ∨ k = 18 ∨ k = 19 ∨ k = 20 ∨ k = 21 ∨ k = 22 ∨ k = 23 ∨ k = 24 ∨ k = 25 ∨ k = 26 ∨ k = 27 by omega) with rfl | rfl | rfl | rfl | rfl | rfl | rfl | rfl | rfl | rfl | rfl | rfl | rfl | rfl | rfl <;> decide +kernel
theorem RN.sk {M M' : dM} (h : RN M M') (hs : Sk M) : Sk M' := Sk_of hs fun x k hq => h x k fun z => by
  by_cases p : 21 ≤ k ∧ k ≤ 27
  · rw [z, rf_107 k (by omega) p.2] at hq; cases hq
  · omega
theorem Sk_m1 {M : dM} (h : Sk M) : M 107 1 = 108 ∧ M 107 2 = 109 := by
  have key : ((107, 1, 108) : Int × Int × Int) ∈ SKL ∧ (107, 2, 109) ∈ SKL := by decide +kernel
  exact ⟨h _ key.1, h _ key.2⟩
theorem ag_108 {i : Int} (h0 : 0 ≤ i) (h1 : i < 960) : ag K0 8 108 i = true := ag_of (n := 960) rfl h0 h1
def rB (t : Nat) (b : List Int) (M : dM) : Prop := Sk M ∧ M 107 19 = ((160 * t : Nat) : Int) ∧ M 107 20 = b.length ∧ ∀ (i : Nat) (h : i < b.length), M 108 ((160 * t + i : Nat) : Int) = b[i]
theorem rB.rn {t : Nat} {b : List Int} {M M' : dM} (h : rB t b M) (hn : RN M M') : rB t b M' := ⟨hn.sk h.1, (hn 107 19 (fun _ => by omega)).trans h.2.1, (hn 107 20 (fun _ => by omega)).trans h.2.2.1, fun i hi => (hn 108 _ (fun z => absurd z (by decide))).trans (h.2.2.2 i hi)⟩
theorem byteAt_ok {sc : dS} {d : Nat} {t : Nat} {b : List Int} {M : dM} (ht : t < 6) (hb : b.length ≤ 160) (h : rB t b M) (i : Nat) : vc sc (d + 1) 127 [(2, 107), (0, (i : Int))] (K0, M) = some ([(0, b.getD i (-1))], (K0, M)) := by
  rw [vc_s (md := m_X7_byteAt) (L := [(2, 107), (0, (i : Int))]) rfl (Nat.le_of_ble_eq_true rfl) rfl]
  show vr sc d c_X7_byteAt _ = _
  rw [e_X7_byteAt_0, if_pos (show og K0 7 107 20 = true from rfl), h.2.2.1, List.getD_eq_getElem?_getD]
  by_cases p : i < b.length
  · rw [if_neg (by omega), if_pos (show og K0 7 107 1 = true from rfl), if_pos (show og K0 7 107 19 = true from rfl), (Sk_m1 h.1).1, h.2.1, w_ad _ _ (by omega) (by omega), if_pos (ag_108 (by omega) (by omega)), h.2.2.2 i p, List.getElem?_eq_getElem p]
    rfl
  · rw [if_pos (by omega), List.getElem?_eq_none (by omega)]
    rfl
theorem gdx_in {b : List Int} {i : Nat} (h : i < b.length) : b.getD i (-1) = b[i] := by rw [List.getD_eq_getElem?_getD, List.getElem?_eq_getElem h]; rfl
theorem gdx_0 {b : List Int} {i : Nat} (h : i < b.length) : b.getD i 0 = b[i] := by rw [List.getD_eq_getElem?_getD, List.getElem?_eq_getElem h]; rfl
theorem gdx_out {b : List Int} {i : Nat} (h : b.length ≤ i) : b.getD i (-1) = -1 := by rw [List.getD_eq_getElem?_getD, List.getElem?_eq_none h]; rfl
theorem eol_c {P : Int → Bool} {b : List Int} {i : Nat} (h : i < b.length) : eol P (b.drop i) i = if P b[i] = true then eol P (b.drop (i + 1)) (i + 1) else i := by
  rw [List.drop_eq_getElem_cons h]
  rfl
theorem eol_end {P : Int → Bool} {b : List Int} {i : Nat} (h : b.length ≤ i) : eol P (b.drop i) i = i := by
  rw [List.drop_eq_nil_iff.mpr h]
  rfl
theorem next_sp {sc : dS} {d : Nat} {t : Nat} {b : List Int} (ht : t < 6) (hb : b.length ≤ 160) {q1 q2 : dV} : ∀ (m i : Nat) (M : dM), b.length - i = m → i ≤ b.length → rB t b M → M 107 21 = i →
    ∃ M' : dM, vr sc (d + 1) c_X7_next (0, [(2, 107), q1, q2], [], (K0, M)) = vr sc (d + 1) c_X7_next (55, [(2, 107), q1, q2], [(0, b.getD (eol isSp (b.drop i) i) (-1))], (K0, M')) ∧ LN M M' ∧ M' 107 21 = ((eol isSp (b.drop i) i : Nat) : Int) ∧ M' 107 23 = ((eol isSp (b.drop i) i : Nat) : Int) := by
  intro m
  induction m with
  | zero =>
    intro i M hm hi h h21
    rw [e_X7_next_0, if_pos (show og K0 7 107 21 = true from rfl), if_pos (show rg K0 7 107 = true from rfl), h21, byteAt_ok ht hb h, Option.bind_some]
    show ∃ M', vr sc (d + 1) c_X7_next (8, [(2, 107), q1, q2], [(0, b.getD i (-1))], (K0, M)) = _ ∧ _
    rw [e_X7_next_8, eol_end (by omega), gdx_out (by omega), if_neg (by decide), if_pos (show og K0 7 107 21 = true from rfl), if_pos (show rg K0 7 107 = true from rfl), h21, byteAt_ok ht hb h, Option.bind_some, gdx_out (by omega)]
    show ∃ M', vr sc (d + 1) c_X7_next (21, [(2, 107), q1, q2], [(0, -1)], (K0, M)) = _ ∧ _
    have lx : LN M (d_up M 107 23 (i : Int)) := LN.up (by decide) _
    rw [e_X7_next_21, if_pos (by decide), if_pos (show og K0 7 107 21 = true from rfl), if_pos (show og K0 7 107 23 = true from rfl), h21, if_pos ⟨by omega, by omega⟩, if_pos (show og K0 7 107 21 = true from rfl), if_pos (show rg K0 7 107 = true from rfl), d_up_n2 _ (show (21 : Int) ≠ 23 by decide), h21, byteAt_ok ht hb (h.rn lx.rn), Option.bind_some, gdx_out (by omega)]
    exact ⟨_, rfl, lx, by rw [d_up_n2 _ (by decide)]; exact h21, d_up_at _ _ _ _⟩
  | succ m ih =>
    intro i M hm hi h h21
    have hi' : i < b.length := by omega
    rw [e_X7_next_0, if_pos (show og K0 7 107 21 = true from rfl), if_pos (show rg K0 7 107 = true from rfl), h21, byteAt_ok ht hb h, Option.bind_some]
    show ∃ M', vr sc (d + 1) c_X7_next (8, [(2, 107), q1, q2], [(0, b.getD i (-1))], (K0, M)) = _ ∧ _
    rw [e_X7_next_8, gdx_in hi']
    have lx1 : LN M (d_up M 107 21 ((i + 1 : Nat) : Int)) := LN.up (by decide) _
    have hgo := ih (i + 1) (d_up M 107 21 ((i + 1 : Nat) : Int)) (by omega) (by omega) (h.rn lx1.rn) (d_up_at _ _ _ _)
    by_cases p : b[i] = 32
    · rw [if_pos p, if_pos (show og K0 7 107 21 = true from rfl), if_pos (show og K0 7 107 21 = true from rfl), h21, w_s i (by omega), if_pos ⟨by omega, by omega⟩, eol_c hi', if_pos (show isSp b[i] = true from decide_eq_true (Or.inl p))]
      obtain ⟨M', g1, g2, g3, g4⟩ := hgo
      exact ⟨M', g1, lx1.tr g2, g3, g4⟩
    rw [if_neg p, if_pos (show og K0 7 107 21 = true from rfl), if_pos (show rg K0 7 107 = true from rfl), h21, byteAt_ok ht hb h, Option.bind_some, gdx_in hi']
    show ∃ M', vr sc (d + 1) c_X7_next (21, [(2, 107), q1, q2], [(0, b[i])], (K0, M)) = _ ∧ _
    rw [e_X7_next_21]
    by_cases q : b[i] = 10
    · rw [if_neg (fun z => z q), if_pos (show og K0 7 107 21 = true from rfl), if_pos (show og K0 7 107 21 = true from rfl), h21, w_s i (by omega), if_pos ⟨by omega, by omega⟩, eol_c hi', if_pos (show isSp b[i] = true from decide_eq_true (Or.inr q))]
      obtain ⟨M', g1, g2, g3, g4⟩ := hgo
      exact ⟨M', g1, lx1.tr g2, g3, g4⟩
    have lx : LN M (d_up M 107 23 (i : Int)) := LN.up (by decide) _
    have hsp : ¬ isSp b[i] = true := by
      rw [show isSp b[i] = false from decide_eq_false (fun z => z.elim p q)]
      decide
    rw [if_pos q, if_pos (show og K0 7 107 21 = true from rfl), if_pos (show og K0 7 107 23 = true from rfl), h21, if_pos ⟨by omega, by omega⟩, if_pos (show og K0 7 107 21 = true from rfl), if_pos (show rg K0 7 107 = true from rfl), d_up_n2 _ (show (21 : Int) ≠ 23 by decide), h21, byteAt_ok ht hb (h.rn lx.rn), Option.bind_some, eol_c hi', if_neg hsp]
    exact ⟨_, rfl, lx, by rw [d_up_n2 _ (by decide)]; exact h21, d_up_at _ _ _ _⟩
theorem low_loop {sc : dS} {d : Nat} {t : Nat} {b : List Int} (ht : t < 6) (hb : b.length ≤ 160) {v1 : Int} {q2 : dV} : ∀ (m i : Nat) (M : dM), b.length - i = m → i ≤ b.length → rB t b M → M 107 21 = i →
    ∃ M' : dM, vr sc (d + 1) c_X7_next (100, [(2, 107), (0, v1), q2], [], (K0, M)) = some ([], (K0, M')) ∧ LN M M' ∧ M' 107 21 = ((eol isLow (b.drop i) i : Nat) : Int) ∧ M' 107 23 = M 107 23 ∧ M' 107 22 = M 107 22 := by
  intro m
  induction m with
  | zero =>
    intro i M hm hi h h21
    rw [e_X7_next_100, if_pos (show og K0 7 107 21 = true from rfl), if_pos (show rg K0 7 107 = true from rfl), h21, byteAt_ok ht hb h, Option.bind_some]
    show ∃ M', vr sc (d + 1) c_X7_next (108, [(2, 107), (0, v1), q2], [(0, b.getD i (-1))], (K0, M)) = _ ∧ _
    rw [e_X7_next_108, in_ok, Option.bind_some, gdx_out (by omega)]
    show ∃ M', vr sc (d + 1) c_X7_next (118, [(2, 107), (0, v1), q2], [(0, bi _)], (K0, M)) = _ ∧ _
    rw [e_X7_next_118, bi_f (by omega), if_pos rfl, eol_end (by omega)]
    exact ⟨M, rfl, LN.rf _, h21, rfl, rfl⟩
  | succ m ih =>
    intro i M hm hi h h21
    have hi' : i < b.length := by omega
    rw [e_X7_next_100, if_pos (show og K0 7 107 21 = true from rfl), if_pos (show rg K0 7 107 = true from rfl), h21, byteAt_ok ht hb h, Option.bind_some]
    show ∃ M', vr sc (d + 1) c_X7_next (108, [(2, 107), (0, v1), q2], [(0, b.getD i (-1))], (K0, M)) = _ ∧ _
    rw [e_X7_next_108, in_ok, Option.bind_some, gdx_in hi']
    show ∃ M', vr sc (d + 1) c_X7_next (118, [(2, 107), (0, v1), q2], [(0, bi _)], (K0, M)) = _ ∧ _
    rw [e_X7_next_118, eol_c hi']
    by_cases p : 97 ≤ b[i] ∧ b[i] ≤ 122
    · have lx1 : LN M (d_up M 107 21 ((i + 1 : Nat) : Int)) := LN.up (by decide) _
      rw [bi_t p, if_neg (by decide), if_pos (show og K0 7 107 21 = true from rfl), if_pos (show og K0 7 107 21 = true from rfl), h21, w_s i (by omega), if_pos ⟨by omega, by omega⟩, if_pos (show isLow b[i] = true from decide_eq_true p)]
      obtain ⟨M', g1, g2, g3, g4, g5⟩ := ih (i + 1) (d_up M 107 21 ((i + 1 : Nat) : Int)) (by omega) (by omega) (h.rn lx1.rn) (d_up_at _ _ _ _)
      exact ⟨M', g1, lx1.tr g2, g3, by rw [g4, d_up_n2 _ (by decide)], by rw [g5, d_up_n2 _ (by decide)]⟩
    · rw [bi_f p, if_pos rfl, show isLow b[i] = false from decide_eq_false p, if_neg (by decide)]
      exact ⟨M, rfl, LN.rf _, h21, rfl, rfl⟩
theorem dig_loop {sc : dS} {d : Nat} {t : Nat} {b : List Int} (ht : t < 6) (hb : b.length ≤ 160) {v1 : Int} {s : Nat} : ∀ (m i : Nat) (M : dM), b.length - i = m → s ≤ i → i ≤ b.length → rB t b M → M 107 21 = i → (∀ c ∈ slc2 b s i, isDig c = true) → M 107 24 = dval ((slc2 b s i).take 4) →
    ∃ M' : dM, vr sc (d + 1) c_X7_next (160, [(2, 107), (0, v1), (0, ((i - s : Nat) : Int))], [], (K0, M)) = some ([], (K0, M')) ∧ LN M M' ∧ M' 107 21 = ((eol isDig (b.drop i) i : Nat) : Int) ∧ M' 107 23 = M 107 23 ∧ M' 107 22 = (if 4 < eol isDig (b.drop i) i - s then 4 else 2) ∧ M' 107 24 = dval ((slc2 b s (eol isDig (b.drop i) i)).take 4) := by
  have hend : ∀ (i : Nat) (M : dM), s ≤ i → i ≤ b.length → M 107 21 = i → M 107 24 = dval ((slc2 b s i).take 4) → ∃ M' : dM, vr sc (d + 1) c_X7_next (178, [(2, 107), (0, v1), (0, ((i - s : Nat) : Int))], [(0, 0)], (K0, M)) = some ([], (K0, M')) ∧ LN M M' ∧ M' 107 21 = ((i : Nat) : Int) ∧ M' 107 23 = M 107 23 ∧ M' 107 22 = (if 4 < i - s then 4 else 2) ∧ M' 107 24 = dval ((slc2 b s i).take 4) := by
    intro i M h0 h1 h21 h24
    rw [e_X7_next_178, if_pos rfl]
    by_cases p : 4 < i - s
    · rw [if_neg (by omega), if_pos (show og K0 7 107 22 = true from rfl), if_pos (by decide), if_pos p]
      exact ⟨_, rfl, LN.up (by decide) _, by rw [d_up_n2 _ (by decide)]; exact h21, d_up_n2 _ (by decide), d_up_at _ _ _ _, by rw [d_up_n2 _ (by decide)]; exact h24⟩
    · rw [if_pos (by omega), if_pos (show og K0 7 107 22 = true from rfl), if_pos (by decide), if_neg p]
      exact ⟨_, rfl, LN.up (by decide) _, by rw [d_up_n2 _ (by decide)]; exact h21, d_up_n2 _ (by decide), d_up_at _ _ _ _, by rw [d_up_n2 _ (by decide)]; exact h24⟩
  intro m
  induction m with
  | zero =>
    intro i M hm h0 hi h h21 hd h24
    rw [e_X7_next_160, if_pos (show og K0 7 107 21 = true from rfl), if_pos (show rg K0 7 107 = true from rfl), h21, byteAt_ok ht hb h, Option.bind_some]
    show ∃ M', vr sc (d + 1) c_X7_next (168, [(2, 107), (0, v1), (0, ((i - s : Nat) : Int))], [(0, b.getD i (-1))], (K0, M)) = _ ∧ _
    rw [e_X7_next_168, in_ok, Option.bind_some, gdx_out (by omega), bi_f (by omega), eol_end (by omega)]
    exact hend i M h0 hi h21 h24
  | succ m ih =>
    intro i M hm h0 hi h h21 hd h24
    have hi' : i < b.length := by omega
    rw [e_X7_next_160, if_pos (show og K0 7 107 21 = true from rfl), if_pos (show rg K0 7 107 = true from rfl), h21, byteAt_ok ht hb h, Option.bind_some]
    show ∃ M', vr sc (d + 1) c_X7_next (168, [(2, 107), (0, v1), (0, ((i - s : Nat) : Int))], [(0, b.getD i (-1))], (K0, M)) = _ ∧ _
    rw [e_X7_next_168, in_ok, Option.bind_some, gdx_in hi', eol_c hi']
    by_cases p : 48 ≤ b[i] ∧ b[i] ≤ 57
    · have es := slc2_s h0 hi'
      have hsub : ∀ c ∈ slc2 b s (i + 1), isDig c = true := fun c hc => by
        rw [es] at hc
        rcases List.mem_append.mp hc with z | z
        · exact hd c z
        · rw [List.mem_singleton.mp z]; exact decide_eq_true p
      have hlen : (slc2 b s i).length = i - s := by unfold slc2; rw [List.length_take, List.length_drop]; omega
      rw [bi_t p, if_pos (show isDig b[i] = true from decide_eq_true p)]
      show ∃ M', vr sc (d + 1) c_X7_next (178, [(2, 107), (0, v1), (0, ((i - s : Nat) : Int))], [(0, 1)], (K0, M)) = _ ∧ _
      have ei : i - s + 1 = i + 1 - s := by omega
      rw [e_X7_next_178, if_neg (by decide)]
      by_cases q : 4 ≤ i - s
      · have hb4 := dval_lt (l := (slc2 b s i).take 4) (fun c hc => hd c (List.mem_of_mem_take hc)) (by rw [List.length_take]; omega)
        have lx : LN M (d_up (d_up M 107 24 (dval ((slc2 b s i).take 4))) 107 21 ((i + 1 : Nat) : Int)) := (LN.up (by decide) _).tr (LN.up (by decide) _)
        rw [if_pos (by omega), if_pos (show og K0 7 107 24 = true from rfl), if_pos (show og K0 7 107 24 = true from rfl), h24, if_pos ⟨by omega, by omega⟩, if_pos (show og K0 7 107 21 = true from rfl), if_pos (show og K0 7 107 21 = true from rfl), d_up_n2 _ (show (21 : Int) ≠ 24 by decide), h21, w_s i (by omega), if_pos ⟨by omega, by omega⟩, w_s (i - s) (by omega), ei]
        have e4 : (slc2 b s (i + 1)).take 4 = (slc2 b s i).take 4 := by rw [es, List.take_append_of_le_length (by omega)]
        obtain ⟨M', g1, g2, g3, g4, g5, g6⟩ := ih (i + 1) _ (by omega) (by omega) (by omega) (h.rn lx.rn) (d_up_at _ _ _ _) hsub (by rw [d_up_n2 _ (by decide), d_up_at, e4])
        exact ⟨M', g1, lx.tr g2, g3, by rw [g4, d_up_n2 _ (by decide), d_up_n2 _ (by decide)], g5, g6⟩
      · have e4 : (slc2 b s i).take 4 = slc2 b s i := List.take_of_length_le (by omega)
        have e5 : (slc2 b s (i + 1)).take 4 = slc2 b s i ++ [b[i]] := by rw [es]; exact List.take_of_length_le (by rw [List.length_append]; simp; omega)
        have hd0 := dval_lt (l := slc2 b s i) hd (by omega)
        have hd1 := dval_lt (l := slc2 b s i ++ [b[i]]) (by rw [← es]; exact hsub) (by rw [List.length_append]; simp; omega)
        rw [dval_s] at hd1
        rw [e4] at h24
        have w1 : w64 (10 * dval (slc2 b s i)) = 10 * dval (slc2 b s i) := by unfold w64; omega
        have w2 : w64 (10 * dval (slc2 b s i) + b[i]) = 10 * dval (slc2 b s i) + b[i] := by unfold w64; omega
        have w3 : w64 (10 * dval (slc2 b s i) + b[i] - 48) = 10 * dval (slc2 b s i) + b[i] - 48 := by unfold w64; omega
        rw [if_neg (by omega), if_pos (show og K0 7 107 24 = true from rfl), if_pos (show og K0 7 107 21 = true from rfl), if_pos (show rg K0 7 107 = true from rfl), h21, byteAt_ok ht hb h, Option.bind_some, gdx_in hi', h24, w1]
        show ∃ M', vr sc (d + 1) c_X7_next (203, [(2, 107), (0, v1), (0, ((i - s : Nat) : Int))], [(0, b[i]), (1, 10 * dval (slc2 b s i)), (2, 107)], (K0, M)) = _ ∧ _
        have lx : LN M (d_up (d_up M 107 24 (10 * dval (slc2 b s i) + b[i] - 48)) 107 21 ((i + 1 : Nat) : Int)) := (LN.up (by decide) _).tr (LN.up (by decide) _)
        rw [e_X7_next_203, w2, w3]
        clear w1 w2 w3
        rw [if_pos (show og K0 7 107 24 = true from rfl), if_pos ⟨by omega, by omega⟩, if_pos (show og K0 7 107 21 = true from rfl), if_pos (show og K0 7 107 21 = true from rfl), d_up_n2 _ (show (21 : Int) ≠ 24 by decide), h21, w_s i (by omega), if_pos ⟨by omega, by omega⟩, w_s (i - s) (by omega), ei]
        obtain ⟨M', g1, g2, g3, g4, g5, g6⟩ := ih (i + 1) _ (by omega) (by omega) (by omega) (h.rn lx.rn) (d_up_at _ _ _ _) hsub (by rw [d_up_n2 _ (by decide), d_up_at, e5, dval_s])
        exact ⟨M', g1, lx.tr g2, g3, by rw [g4, d_up_n2 _ (by decide), d_up_n2 _ (by decide)], g5, g6⟩
    · rw [bi_f p, show isDig b[i] = false from decide_eq_false p, if_neg (by decide)]
      exact hend i M h0 hi h21 h24
