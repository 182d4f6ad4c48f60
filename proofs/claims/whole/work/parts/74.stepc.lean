/-! the class's reading of words; its step -/
theorem len_str {sc : dS} {d : Nat} {K : List (Nat × Nat)} {M : dM} : vc sc (d + 2) 204 [(2, 1000003)] (K, M) = some ([(0, 62)], (K, M)) := by
  rw [vc_s (md := m_J0_length_8abf5) (L := [(2, 1000003)]) rfl (Nat.le_of_ble_eq_true rfl) rfl]
  show vr sc (d + 1) c_J0_length_8abf5 _ = _
  rw [e_J0_length_8abf5_0, if_pos (Or.inr rfl), if_pos (Or.inr (by decide)), if_pos (Or.inr rfl), vc_s (md := m_J0_coder_7d493) (L := [(2, 1000003)]) rfl (Nat.le_of_ble_eq_true rfl) rfl]
  show (vr sc d c_J0_coder_7d493 _).bind _ = _
  rw [e_J0_coder_7d493_0, if_pos (Or.inr rfl)]
  show vr sc (d + 1) c_J0_length_8abf5 (9, [(2, 1000003)], [(0, 0), (0, _)], (K, M)) = _
  rw [e_J0_length_8abf5_9]
  rfl
theorem check_str {sc : dS} {d : Nat} {K : List (Nat × Nat)} {M : dM} {i n : Int} (h0 : 0 ≤ i) (h1 : i < n) : vc sc (d + 2) 208 [(0, i), (0, n)] (K, M) = some ([], (K, M)) := by
  rw [vc_s (md := m_J0_checkIndex_df160) (L := [(0, i), (0, n)]) rfl (Nat.le_of_ble_eq_true rfl) rfl]
  show vr sc (d + 1) c_J0_checkIndex_df160 _ = _
  rw [e_J0_checkIndex_df160_0, vc_s (md := m_J3_checkIndex_8e157) (L := [(0, i), (0, n), (2, 1000006)]) rfl (Nat.le_of_ble_eq_true rfl) rfl]
  show (vr sc d c_J3_checkIndex_8e157 _).bind _ = _
  rw [e_J3_checkIndex_8e157_0, if_neg (by omega), if_pos h1, Option.bind_some]
  show vr sc (d + 1) c_J0_checkIndex_df160 (8, [(0, i), (0, n)], [(0, i)], (K, M)) = _
  rw [e_J0_checkIndex_df160_8]
theorem char_key : ∀ i ∈ List.range 62, i_c (i_and ((d_str1).getD i 0) 255) = d_str1.getD i 0 ∧ 0 ≤ d_str1.getD i 0 ∧ d_str1.getD i 0 < 65536 := by decide +kernel
theorem char_str {sc : dS} {d : Nat} {K : List (Nat × Nat)} {M : dM} {i : Nat} (h : i < 62) : vc sc (d + 4) 205 [(2, 1000003), (0, (i : Int))] (K, M) = some ([(0, d_str1.getD i 0)], (K, M)) := by
  rw [vc_s (md := m_J0_charAt_5068e) (L := [(2, 1000003), (0, (i : Int))]) rfl (Nat.le_of_ble_eq_true rfl) rfl]
  show vr sc (d + 3) c_J0_charAt_5068e _ = _
  rw [e_J0_charAt_5068e_0, if_pos (Or.inr rfl), vc_s (md := m_J0_isLatin1_aae02) (L := [(2, 1000003)]) rfl (Nat.le_of_ble_eq_true rfl) rfl]
  show (vr sc (d + 2) c_J0_isLatin1_aae02 _).bind _ = _
  rw [e_J0_isLatin1_aae02_0, if_pos (Or.inr rfl), Option.bind_some]
  show vr sc (d + 3) c_J0_charAt_5068e (4, [(2, 1000003), (0, (i : Int))], [(0, 1)], (K, M)) = _
  rw [e_J0_charAt_5068e_4, if_neg (by decide), if_pos (Or.inr rfl), show (1000003 : Int) + 2 = 1000005 by decide, vc_s (md := m_J1_charAt_3b067) (L := [(2, 1000005), (0, (i : Int))]) rfl (Nat.le_of_ble_eq_true rfl) rfl]
  show (vr sc (d + 2) c_J1_charAt_3b067 _).bind _ = _
  have hl : (((d_str ((1000005 : Int) - 1000004).toNat).length : Nat) : Int) = 62 := by decide +kernel
  rw [e_J1_charAt_3b067_0, if_pos (Or.inr rfl), hl, check_str (by omega) (by omega), Option.bind_some]
  show (vr sc (d + 2) c_J1_charAt_3b067 (6, [(2, 1000005), (0, (i : Int))], [], (K, M))).bind _ = _
  have k := char_key i (List.mem_range.mpr h)
  have e : d_str ((1000005 : Int) - 1000004).toNat = d_str1 := rfl
  rw [e_J1_charAt_3b067_6, hl, e, if_pos ⟨Or.inr rfl, by omega, by omega⟩, Int.toNat_natCast, k.1]
  have hr : d_ret 6 [(0, d_str1.getD i 0)] (K, M) = some ([(0, d_str1.getD i 0)], (K, M)) := by
    show (if _ then _ else _) = _
    rw [if_pos]
    exact Or.inr (Or.inr (Or.inr (Or.inr ⟨rfl, rfl, k.2.1, k.2.2⟩)))
  rw [hr, Option.bind_some]
  show vr sc (d + 3) c_J0_charAt_5068e (15, [(2, 1000003), (0, (i : Int))], [(0, d_str1.getD i 0)], (K, M)) = _
  rw [e_J0_charAt_5068e_15, hr]
theorem readWord_out {sc : dS} {d : Nat} {M : dM} {w a i : Int} (h4 : ¬ M 88 4 = 1) : vr sc (d + 2) c_X1_readWord (14, [(2, 88), (0, w), (0, a), (0, i)], [], (K0, M)) = some ([], (K0, M)) := by
  rw [e_X1_readWord_14, len_str, Option.bind_some]
  show vr sc (d + 2) c_X1_readWord (20, [(2, 88), (0, w), (0, a), (0, i)], [(0, 62), (0, i)], (K0, M)) = _
  rw [e_X1_readWord_20]
  by_cases p : (62 : Int) ≤ i
  · rw [if_pos p]
  · rw [if_neg p, if_pos (show og K0 1 88 4 = true from rfl), if_pos h4]
theorem rwk_c {b : List Int} {s p : Nat} {i : Nat} (h : i < 62) (w a : Nat) : rwk b s p (d_str1.drop i) w a = if d_str1.getD i 0 = 32 then (if a = p then some w else rwk b s p (d_str1.drop (i + 1)) (w + 1) s) else rwk b s p (d_str1.drop (i + 1)) w (if a < p ∧ b.getD a 0 = d_str1.getD i 0 then a + 1 else 161) := by
  have hl : d_str1.length = 62 := by decide +kernel
  rw [List.drop_eq_getElem_cons (show i < d_str1.length by omega), List.getD_eq_getElem?_getD, List.getElem?_eq_getElem (show i < d_str1.length by omega)]
  rfl
theorem w_k4 (w : Nat) (h : w < 62) : w32 (w32 (10 + (w : Int)) - 6) = (w : Int) + 4 := by
  have e1 : w32 (10 + (w : Int)) = 10 + (w : Int) := w32_i (by omega) (by omega)
  rw [e1]
  clear e1
  exact w32_e (by omega) (by omega) (by omega)
theorem readWord_loop {sc : dS} {d : Nat} {M : dM} (hs : Sk M) {b : List Int} (hb : b.length ≤ 160) (hk : KV 88 1 89 M b) {s p : Nat} (hsp : s ≤ p) (hpb : p ≤ b.length) (h2 : M 88 2 = p) (h3 : M 88 3 = s) (h4 : M 88 4 = 1) : ∀ (m i w a : Nat), 62 - i = m → i ≤ 62 → w ≤ i → (a ≤ p ∨ a = 161) →
    ∃ M' : dM, vr sc (d + 4) c_X1_readWord (14, [(2, 88), (0, (w : Int)), (0, (a : Int)), (0, (i : Int))], [], (K0, M)) = some ([], (K0, M')) ∧ match rwk b s p (d_str1.drop i) w a with
      | none => M' = M
      | some q => M' = d_up (d_up M 88 4 (if q < 6 then 3 else (q : Int) + 4)) 88 5 (q : Int) := by
  intro m
  induction m with
  | zero =>
    intro i w a hm hi hw ha
    have hl : d_str1.length = 62 := by decide +kernel
    rw [e_X1_readWord_14, len_str, Option.bind_some]
    show ∃ M', vr sc (d + 4) c_X1_readWord (20, [(2, 88), (0, (w : Int)), (0, (a : Int)), (0, (i : Int))], [(0, 62), (0, (i : Int))], (K0, M)) = _ ∧ _
    rw [e_X1_readWord_20, if_pos (by omega), show i = d_str1.length by omega, List.drop_length]
    exact ⟨M, rfl, rfl⟩
  | succ m ih =>
    intro i w a hm hi hw ha
    have hi' : i < 62 := by omega
    rw [e_X1_readWord_14, len_str, Option.bind_some]
    show ∃ M', vr sc (d + 4) c_X1_readWord (20, [(2, 88), (0, (w : Int)), (0, (a : Int)), (0, (i : Int))], [(0, 62), (0, (i : Int))], (K0, M)) = _ ∧ _
    rw [e_X1_readWord_20, if_neg (by omega), if_pos (show og K0 1 88 4 = true from rfl), h4, if_neg (fun z => z rfl), char_str hi', Option.bind_some]
    show ∃ M', vr sc (d + 4) c_X1_readWord (37, [(2, 88), (0, (w : Int)), (0, (a : Int)), (0, (i : Int))], [(0, d_str1.getD i 0)], (K0, M)) = _ ∧ _
    rw [e_X1_readWord_37, rwk_c hi']
    by_cases c32 : d_str1.getD i 0 = 32
    · rw [if_pos c32, if_pos c32, if_pos (show og K0 1 88 2 = true from rfl), h2]
      by_cases e : a = p
      · have e' : ¬ ¬ (a : Int) = p := by omega
        rw [if_neg e', if_pos e, w_s i (by omega)]
        by_cases w6 : w < 6
        · rw [if_neg (by omega), if_pos (show og K0 1 88 4 = true from rfl), if_pos (by decide), if_pos (show og K0 1 88 5 = true from rfl), if_pos ⟨by omega, by omega⟩, readWord_out (by rw [d_up_n2 _ (by decide), d_up_at]; decide)]
          refine ⟨_, rfl, ?_⟩
          show _ = d_up (d_up M 88 4 (if w < 6 then 3 else (w : Int) + 4)) 88 5 (w : Int)
          rw [if_pos w6]
        · rw [if_pos (by omega), if_pos (show og K0 1 88 4 = true from rfl), w_k4 w (by omega)]
          rw [if_pos ⟨by omega, by omega⟩, if_pos (show og K0 1 88 5 = true from rfl), if_pos ⟨by omega, by omega⟩, readWord_out (by rw [d_up_n2 _ (by decide), d_up_at]; omega)]
          refine ⟨_, rfl, ?_⟩
          show _ = d_up (d_up M 88 4 (if w < 6 then 3 else (w : Int) + 4)) 88 5 (w : Int)
          rw [if_neg w6]
      · have e' : ¬ (a : Int) = p := by omega
        rw [if_pos e', if_neg e, if_pos (show og K0 1 88 3 = true from rfl), h3, w_s i (by omega), w_s w (by omega)]
        exact ih (i + 1) (w + 1) s (by omega) (by omega) (by omega) (Or.inl hsp)
    · rw [if_neg c32, if_neg c32, if_pos (show og K0 1 88 2 = true from rfl), h2]
      by_cases l : a < p
      · rw [if_neg (by omega), if_pos (show og K0 1 88 0 = true from rfl), (Sk_05 hs).2, if_pos (ag_89 (by omega) (by omega)), char_str hi', Option.bind_some, hk.get (show a < b.length by omega)]
        show ∃ M', vr sc (d + 4) c_X1_readWord (62, [(2, 88), (0, (w : Int)), (0, (a : Int)), (0, (i : Int))], [(0, d_str1.getD i 0), (0, b[a])], (K0, M)) = _ ∧ _
        have eb : b.getD a 0 = b[a] := by rw [List.getD_eq_getElem?_getD, List.getElem?_eq_getElem (show a < b.length by omega)]; rfl
        rw [e_X1_readWord_62, eb]
        by_cases q : b[a] = d_str1.getD i 0
        · rw [if_neg (fun z => z q), if_pos ⟨l, q⟩, w_s a (by omega), w_s i (by omega)]
          exact ih (i + 1) w (a + 1) (by omega) (by omega) (by omega) (by omega)
        · rw [if_pos q, if_neg (fun z => q z.2), w_s i (by omega)]
          exact ih (i + 1) w 161 (by omega) (by omega) (by omega) (Or.inr rfl)
      · rw [if_pos (by omega), if_neg (fun z => l z.1), w_s i (by omega)]
        exact ih (i + 1) w 161 (by omega) (by omega) (by omega) (Or.inr rfl)
theorem readWord_ok {sc : dS} {d : Nat} {M : dM} (hs : Sk M) {b : List Int} (hb : b.length ≤ 160) (hk : KV 88 1 89 M b) {s p : Nat} (hsp : s ≤ p) (hpb : p ≤ b.length) (h2 : M 88 2 = p) (h3 : M 88 3 = s) :
    ∃ M' : dM, vc sc (d + 5) 31 [(2, 88)] (K0, M) = some ([], (K0, M')) ∧ LX M M' ∧ M' 88 2 = p ∧ M' 88 3 = s ∧ M' 88 4 = (wk (slc2 b s p)).1 ∧ M' 88 6 = M 88 6 ∧ ((wk (slc2 b s p)).1 = 3 → M' 88 5 = (wk (slc2 b s p)).2) := by
  rw [vc_s (md := m_X1_readWord) (L := [(2, 88), (3, 0), (3, 0), (3, 0)]) rfl (Nat.le_of_ble_eq_true rfl) rfl]
  show ∃ M', vr sc (d + 4) c_X1_readWord (0, [(2, 88), (3, 0), (3, 0), (3, 0)], [], (K0, M)) = _ ∧ _
  have lx : LX M (d_up M 88 4 1) := LX.up (by decide) _
  rw [e_X1_readWord_0, if_pos (show og K0 1 88 4 = true from rfl), if_pos (by decide), if_pos (show og K0 1 88 3 = true from rfl), d_up_n2 _ (by decide), h3]
  obtain ⟨M', g1, g2⟩ := readWord_loop (sc := sc) (d := d) (lx.sk hs) hb (lx.tp hk) hsp hpb (by rw [d_up_n2 _ (by decide)]; exact h2) (by rw [d_up_n2 _ (by decide)]; exact h3) (d_up_at _ _ _ _) 62 0 0 s rfl (by omega) (by omega) (Or.inl hsp)
  refine ⟨M', g1, ?_⟩
  have key := rwk_str (b := b) (s := s) (p := p) (by omega) hpb hsp
  rw [List.drop_zero, key] at g2
  unfold wk
  cases hf : wfind (slc2 b s p) WT 0 with
  | none =>
    rw [hf] at g2
    subst g2
    refine ⟨lx, ?_, ?_, d_up_at _ _ _ _, d_up_n2 _ (by decide), fun z => absurd z (by decide)⟩
    · rw [d_up_n2 _ (by decide)]; exact h2
    · rw [d_up_n2 _ (by decide)]; exact h3
  | some q =>
    rw [hf] at g2
    subst g2
    refine ⟨lx.tr ((LX.up (by decide) _).tr (LX.up (by decide) _)), ?_, ?_, ?_, ?_, fun _ => d_up_at _ _ _ _⟩
    · rw [d_up_n2 _ (by decide), d_up_n2 _ (by decide), d_up_n2 _ (by decide)]; exact h2
    · rw [d_up_n2 _ (by decide), d_up_n2 _ (by decide), d_up_n2 _ (by decide)]; exact h3
    · rw [d_up_n2 _ (by decide), d_up_at]
    · rw [d_up_n2 _ (by decide), d_up_n2 _ (by decide), d_up_n2 _ (by decide)]
theorem scn_le {b : List Int} {p : Nat} (h : p ≤ b.length) : (scn b p).2.2.1 ≤ (scn b p).2.2.2 ∧ (scn b p).2.2.2 ≤ b.length ∧ p ≤ (scn b p).2.2.1 := by
  have g1 := eol_ge isSp (b.drop p) p
  have g2 := eol_le isSp (b.drop p) p
  rw [List.length_drop] at g2
  unfold scn
  dsimp only
  generalize eol isSp (b.drop p) p = s at *
  by_cases c : b.length ≤ s
  · rw [if_pos c]; dsimp only; omega
  · rw [if_neg c]
    have l1 := eol_ge isLow (b.drop s) s
    have l2 := eol_le isLow (b.drop s) s
    have d1 := eol_ge isDig (b.drop s) s
    have d2 := eol_le isDig (b.drop s) s
    rw [List.length_drop] at l2 d2
    split
    · dsimp only; omega
    · split
      · dsimp only; omega
      · dsimp only; omega
theorem step_ok {sc : dS} {d : Nat} {M : dM} (hs : Sk M) {b : List Int} (hb : b.length ≤ 160) (hk : KV 88 1 89 M b) {p : Nat} (hp : p ≤ b.length) (h2 : M 88 2 = p) :
    ∃ M' : dM, vc sc (d + 6) 26 [(2, 88)] (K0, M) = some ([], (K0, M')) ∧ LX M M' ∧ M' 88 4 = (scn b p).1 ∧ ((scn b p).1 = 2 ∨ (scn b p).1 = 3 → M' 88 5 = (scn b p).2.1) ∧ M' 88 3 = (scn b p).2.2.1 ∧ M' 88 2 = (scn b p).2.2.2 ∧ M' 88 6 = M 88 6 := by
  rw [vc_s (md := m_X1_step) (L := [(2, 88)]) rfl (Nat.le_of_ble_eq_true rfl) rfl]
  show ∃ M', vr sc (d + 5) c_X1_step (0, [(2, 88)], [], (K0, M)) = _ ∧ _
  rw [e_X1_step_0, if_pos (show og K0 1 88 2 = true from rfl), if_pos (show rg K0 1 88 = true from rfl), h2, endOf_ok hs hb hk (P := isSp) (fun c => by unfold isSp; rw [decide_eq_true_iff]; omega) hp, Option.bind_some]
  have g1 := eol_ge isSp (b.drop p) p
  have g2 := eol_le isSp (b.drop p) p
  rw [List.length_drop] at g2
  unfold scn
  dsimp only
  generalize eol isSp (b.drop p) p = s at *
  show ∃ M', vr sc (d + 5) c_X1_step (15, [(2, 88)], [(0, (s : Int)), (2, 88)], (K0, M)) = _ ∧ _
  have lx : LX M (d_up (d_up M 88 2 (s : Int)) 88 3 (s : Int)) := (LX.up (by decide) _).tr (LX.up (by decide) _)
  rw [e_X1_step_15, if_pos (show og K0 1 88 2 = true from rfl), if_pos ⟨by omega, by omega⟩, if_pos (show og K0 1 88 2 = true from rfl), if_pos (show og K0 1 88 3 = true from rfl), d_up_at, if_pos ⟨by omega, by omega⟩, if_pos (show og K0 1 88 2 = true from rfl), if_pos (show og K0 1 88 1 = true from rfl), d_up_n2 _ (show (2 : Int) ≠ 3 by decide), d_up_at, d_up_n2 _ (show (1 : Int) ≠ 3 by decide), d_up_n2 _ (show (1 : Int) ≠ 2 by decide), hk.1]
  by_cases c : b.length ≤ s
  · rw [if_neg (by omega), if_pos (show og K0 1 88 4 = true from rfl), if_pos (by decide), if_pos c]
    refine ⟨_, rfl, lx.tr (LX.up (by decide) _), d_up_at _ _ _ _, fun z => absurd (show (0 : Int) = 2 ∨ (0 : Int) = 3 from z) (by decide), ?_, ?_, ?_⟩
    · rw [d_up_n2 _ (by decide), d_up_at]
    · rw [d_up_n2 _ (by decide), d_up_n2 _ (by decide), d_up_at]
    · rw [d_up_n2 _ (by decide), d_up_n2 _ (by decide), d_up_n2 _ (by decide)]
  have hsb : s < b.length := by omega
  have eb : b.getD s 0 = b[s] := by rw [List.getD_eq_getElem?_getD, List.getElem?_eq_getElem hsb]; rfl
  have l1 := eol_gt (P := isLow) (c := b[s]) (l := b.drop (s + 1)) (i := s)
  have d1 := eol_gt (P := isDig) (c := b[s]) (l := b.drop (s + 1)) (i := s)
  rw [← List.drop_eq_getElem_cons hsb] at l1 d1
  have l2 := eol_le isLow (b.drop s) s
  have d2 := eol_le isDig (b.drop s) s
  have d3 := eol_all isDig (b.drop s) s
  rw [List.length_drop] at l2 d2
  have k1 := lx.tp hk
  have hs1 := lx.sk hs
  have ft : (d_up (d_up M 88 2 (s : Int)) 88 3 (s : Int)) 88 2 = (s : Int) := by rw [d_up_n2 _ (by decide), d_up_at]
  have fs : (d_up (d_up M 88 2 (s : Int)) 88 3 (s : Int)) 88 3 = (s : Int) := d_up_at _ _ _ _
  have f6 : (d_up (d_up M 88 2 (s : Int)) 88 3 (s : Int)) 88 6 = M 88 6 := by rw [d_up_n2 _ (by decide), d_up_n2 _ (by decide)]
  rw [if_neg c, if_pos (by omega), if_pos (show og K0 1 88 0 = true from rfl), if_pos (show og K0 1 88 2 = true from rfl), (Sk_05 hs1).2, if_pos (ag_89 (by omega) (by omega)), isIn_ok, Option.bind_some, k1.get hsb, eb]
  generalize d_up (d_up M 88 2 (s : Int)) 88 3 (s : Int) = M1 at *
  show ∃ M', vr sc (d + 5) c_X1_step (61, [(2, 88)], [(0, bi (97 ≤ b[s] ∧ b[s] ≤ 122))], (K0, M1)) = _ ∧ _
  rw [e_X1_step_61]
  by_cases q : 97 ≤ b[s] ∧ b[s] ≤ 122
  · have ql : isLow b[s] = true := decide_eq_true q
    have l1 := l1 ql
    rw [bi_t q, if_neg (by decide), if_pos (show og K0 1 88 3 = true from rfl), if_pos (show rg K0 1 88 = true from rfl), fs, endOf_ok hs1 hb k1 (P := isLow) (fun c => by unfold isLow; rw [decide_eq_true_iff]; omega) (show s ≤ b.length by omega), Option.bind_some, if_pos ql]
    generalize eol isLow (b.drop s) s = e at *
    show ∃ M', vr sc (d + 5) c_X1_step (79, [(2, 88)], [(0, (e : Int)), (2, 88)], (K0, M1)) = _ ∧ _
    have lx2 : LX M1 (d_up M1 88 2 (e : Int)) := LX.up (by decide) _
    obtain ⟨M', a1, a2, a3, a4, a5, a6, a7⟩ := readWord_ok (sc := sc) (d := d) (lx2.sk hs1) hb (lx2.tp k1) (show s ≤ e by omega) (show e ≤ b.length by omega) (d_up_at _ _ _ _) (by rw [d_up_n2 _ (by decide)]; exact fs)
    rw [e_X1_step_79, if_pos (show og K0 1 88 2 = true from rfl), if_pos ⟨by omega, by omega⟩, if_pos (show rg K0 1 88 = true from rfl), a1, Option.bind_some]
    show ∃ M', vr sc (d + 5) c_X1_step (86, [(2, 88)], [], (K0, _)) = _ ∧ _
    rw [e_X1_step_86]
    refine ⟨M', rfl, lx.tr (lx2.tr a2), a5, fun z => ?_, a4, a3, ?_⟩
    · rcases z with z | z
      · exfalso
        unfold wk at z
        split at z
        · dsimp only at z
          split at z
          · cases z
          · omega
        · cases z
      · exact a7 z
    · rw [a6, d_up_n2 _ (by decide)]; exact f6
  have ql : isLow b[s] = false := decide_eq_false q
  rw [bi_f q, if_pos rfl, if_pos (show og K0 1 88 0 = true from rfl), if_pos (show og K0 1 88 2 = true from rfl), ft, (Sk_05 hs1).2, if_pos (ag_89 (by omega) (by omega)), isIn_ok, Option.bind_some, k1.get hsb, ql, if_neg (by decide)]
  show ∃ M', vr sc (d + 5) c_X1_step (105, [(2, 88)], [(0, bi (48 ≤ b[s] ∧ b[s] ≤ 57))], (K0, M1)) = _ ∧ _
  rw [e_X1_step_105]
  by_cases r : 48 ≤ b[s] ∧ b[s] ≤ 57
  · have rl : isDig b[s] = true := decide_eq_true r
    have d1 := d1 rl
    rw [bi_t r, if_neg (by decide), if_pos (show og K0 1 88 3 = true from rfl), if_pos (show rg K0 1 88 = true from rfl), fs, endOf_ok hs1 hb k1 (P := isDig) (fun c => by unfold isDig; rw [decide_eq_true_iff]; omega) (show s ≤ b.length by omega), Option.bind_some, if_pos rl]
    generalize eol isDig (b.drop s) s = e at *
    show ∃ M', vr sc (d + 5) c_X1_step (123, [(2, 88)], [(0, (e : Int)), (2, 88)], (K0, M1)) = _ ∧ _
    have lx2 : LX M1 (d_up M1 88 2 (e : Int)) := LX.up (by decide) _
    obtain ⟨M', a1, a2, a3, a4, a5, a6, a7⟩ := readNumber_ok (sc := sc) (d := d + 4) (lx2.sk hs1) hb (lx2.tp k1) (show s ≤ e by omega) (show e ≤ b.length by omega) d3 (d_up_at _ _ _ _) (by rw [d_up_n2 _ (by decide)]; exact fs)
    rw [e_X1_step_123, if_pos (show og K0 1 88 2 = true from rfl), if_pos ⟨by omega, by omega⟩, if_pos (show rg K0 1 88 = true from rfl), a1, Option.bind_some]
    show ∃ M', vr sc (d + 5) c_X1_step (130, [(2, 88)], [], (K0, _)) = _ ∧ _
    rw [e_X1_step_130]
    exact ⟨M', rfl, lx.tr (lx2.tr a2), a5, fun _ => a7, a4, a3, by rw [a6, d_up_n2 _ (by decide)]; exact f6⟩
  have rl : isDig b[s] = false := decide_eq_false r
  rw [bi_f r, if_pos rfl, if_pos (show og K0 1 88 0 = true from rfl), if_pos (show og K0 1 88 2 = true from rfl), ft, (Sk_05 hs1).2, if_pos (ag_89 (by omega) (by omega)), isSign_ok, Option.bind_some, k1.get hsb, rl, if_neg (show ¬ false = true by decide)]
  show ∃ M', vr sc (d + 5) c_X1_step (146, [(2, 88)], [(0, if isSg b[s] = true then 1 else 0), (2, 88)], (K0, M1)) = _ ∧ _
  rw [e_X1_step_146]
  have r1 : (-2147483648 : Int) ≤ ((s + 1 : Nat) : Int) ∧ ((s + 1 : Nat) : Int) < 2147483648 := ⟨by omega, by omega⟩
  have r2 : s < 1000000 := by omega
  by_cases g : isSg b[s] = true
  · have gg := of_decide_eq_true g
    rw [if_pos g, if_neg (by decide), if_pos (show og K0 1 88 0 = true from rfl), if_pos (show og K0 1 88 2 = true from rfl), ft, (Sk_05 hs1).2, if_pos (ag_89 (by omega) (by omega)), k1.get hsb, if_pos (show og K0 1 88 4 = true from rfl), if_pos ⟨by omega, by omega⟩, if_pos (show og K0 1 88 2 = true from rfl), if_pos (show og K0 1 88 2 = true from rfl), d_up_n2 _ (show (2 : Int) ≠ 4 by decide), ft, w_s s r2]
    rw [if_pos r1, if_pos g]
    refine ⟨_, rfl, lx.tr ((LX.up (by decide) _).tr (LX.up (by decide) _)), ?_, fun z => ?_, ?_, d_up_at _ _ _ _, ?_⟩
    · rw [d_up_n2 _ (by decide), d_up_at]
    · dsimp only at z; omega
    · rw [d_up_n2 _ (by decide), d_up_n2 _ (by decide)]; exact fs
    · rw [d_up_n2 _ (by decide), d_up_n2 _ (by decide)]; exact f6
  · have e1 : w32 ((s : Int) + 1) = ((s + 1 : Nat) : Int) := w_s s (by omega)
    rw [if_neg g, if_pos rfl, if_pos (show og K0 1 88 4 = true from rfl), if_pos (by decide), if_pos (show og K0 1 88 2 = true from rfl), if_pos (show og K0 1 88 2 = true from rfl), d_up_n2 _ (show (2 : Int) ≠ 4 by decide), ft, w_s s r2]
    rw [if_pos r1, if_neg g]
    refine ⟨_, rfl, lx.tr ((LX.up (by decide) _).tr (LX.up (by decide) _)), ?_, fun z => absurd (show (1 : Int) = 2 ∨ (1 : Int) = 3 from z) (by decide), ?_, d_up_at _ _ _ _, ?_⟩
    · rw [d_up_n2 _ (by decide), d_up_at]
    · rw [d_up_n2 _ (by decide), d_up_n2 _ (by decide)]; exact fs
    · rw [d_up_n2 _ (by decide), d_up_n2 _ (by decide)]; exact f6
