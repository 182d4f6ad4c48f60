/-! the class's knots -/
theorem w32_e {x c : Int} (h : x = c) (h1 : -2147483648 ≤ c) (h2 : c < 2147483648) : w32 x = c := by rw [h]; exact w32_id ⟨h1, h2⟩
theorem w_s (n : Nat) (h : n < 1000000) : w32 ((n : Int) + 1) = ((n + 1 : Nat) : Int) := w32_e (by omega) (by omega) (by omega)
theorem w_p (n : Nat) (h : n < 1000000) : w32 (((n + 1 : Nat) : Int) - 1) = (n : Int) := w32_e (by omega) (by omega) (by omega)
theorem w_m (n : Nat) (h : n < 1000000) : w32 (((n + 1 : Nat) : Int) + (-1)) = (n : Int) := w32_e (by omega) (by omega) (by omega)
theorem undo_v {sc : dS} {d : Nat} {K : List (Nat × Nat)} {M : dM} {a b : Int} : vc sc (d + 1) 10 [(0, a), (0, b)] (K, M) = some ([(0, if i_xor a b = 2 then 1 else 0)], (K, M)) := by
  rw [vc_s (md := m_X0_undo) (L := [(0, a), (0, b)]) rfl (Nat.le_of_ble_eq_true rfl) rfl]
  show vr sc d c_X0_undo _ = _
  rw [e_X0_undo_0]
  by_cases h : i_xor a b = 2
  · rw [if_neg (fun z => z h), if_pos h]
  · rw [if_pos h, if_neg h]
def rpush (acc : List Int) (x : Int) : List Int := match acc.getLast? with
  | some y => if i_xor y x = 2 then acc.dropLast else acc ++ [x]
  | none => acc ++ [x]
def redl (l : List Int) : List Int := l.foldl rpush []
/-- all but a knot stays -/
def KF (r : Int) (M M' : dM) : Prop := ∀ a k : Int, ¬ (a = r ∧ k = 1) → a ≠ r + 1 → M' a k = M a k
theorem KF.rfl_ {r : Int} {M : dM} : KF r M M := fun _ _ _ _ => rfl
theorem KF.tr {r : Int} {M M1 M2 : dM} (h1 : KF r M M1) (h2 : KF r M1 M2) : KF r M M2 := fun a k g1 g2 => (h2 a k g1 g2).trans (h1 a k g1 g2)
theorem KF.row {r j v : Int} {M : dM} : KF r M (d_up M (r + 1) j v) := fun a k _ g2 => d_up_n1 M g2
theorem KF.sz {r v : Int} {M : dM} : KF r M (d_up M r 1 v) := fun a k g1 _ => by
  unfold d_up
  rw [if_neg g1]
theorem KF.sk {r : Int} {M M' : dM} (h : KF r M M') (hr : isK r) (hs : Sk M) : Sk M' := Sk_of hs fun a k hq => h a k
  (fun z => by rw [z.1, z.2, (isRf_kn hr).1] at hq; cases hq) (fun z => by rw [z, (isRf_kn hr).2] at hq; cases hq)
theorem lst_last (f : Int → Int) (n : Nat) : (lst f (n + 1)).getLast? = some (f n) := by rw [lst_s]; simp
theorem lst_drop (f : Int → Int) (n : Nat) : (lst f (n + 1)).dropLast = lst f n := by rw [lst_s]; simp
set_option maxHeartbeats 2000000 in
theorem reduce_loop {sc : dS} {d : Nat} {r : Int} (hr : isK r) {n : Nat} (hn : n ≤ 12) (f0 : Int → Int) : ∀ (m i l : Nat) (M : dM), n - i = m → i ≤ n → l ≤ i → Sk M → M r 1 = n → (∀ j : Int, i ≤ j → j < 12 → M (r + 1) j = f0 j) → lst (M (r + 1)) l = (lst f0 i).foldl rpush [] →
    ∃ M' : dM, vr sc (d + 1) c_X0_reduce (4, [(2, r), (0, (l : Int)), (0, (i : Int))], [], (K0, M)) = some ([], (K0, M')) ∧ KF r M M' ∧ M' r 1 = (redl (lst f0 n)).length ∧ lst (M' (r + 1)) (redl (lst f0 n)).length = redl (lst f0 n) := by
  intro m
  induction m with
  | zero =>
    intro i l M hm hi hl hs hM hf hacc
    have e : i = n := by omega
    subst e
    have c1 : (i : Int) ≤ i := by omega
    rw [e_X0_reduce_4, if_pos (og_kn hr (by decide)), hM, if_pos c1, if_pos (og_kn hr (by decide)), if_pos ⟨by omega, by omega⟩]
    have e2 : (redl (lst f0 i)).length = l := by unfold redl; rw [← hacc, lst_len]
    have hrr : r ≠ r + 1 := by omega
    refine ⟨_, rfl, KF.sz, ?_, ?_⟩
    · rw [d_up_at, e2]
    · rw [e2]
      unfold redl
      rw [← hacc]
      exact lst_cg fun j _ _ => d_up_n1 M (by omega)
  | succ m ih =>
    intro i l M hm hi hl hs hM hf hacc
    have c1 : ¬ (n : Int) ≤ i := by omega
    have hrow := isK_row hs hr
    have hfi : M (r + 1) i = f0 i := hf i (by omega) (by omega)
    -- the crossing is kept
    have keep : (lst f0 (i + 1)).foldl rpush [] = lst (M (r + 1)) l ++ [f0 i] → ∃ M' : dM, vr sc (d + 1) c_X0_reduce (4, [(2, r), (0, ((l + 1 : Nat) : Int)), (0, ((i + 1 : Nat) : Int))], [], (K0, d_up M (r + 1) l (f0 i))) = some ([], (K0, M')) ∧ KF r M M' ∧ M' r 1 = (redl (lst f0 n)).length ∧ lst (M' (r + 1)) (redl (lst f0 n)).length = redl (lst f0 n) := by
      intro hk
      obtain ⟨M', g1, g2, g3, g4⟩ := ih (i + 1) (l + 1) (d_up M (r + 1) l (f0 i)) (by omega) (by omega) (by omega) (KF.row.sk hr hs) (by rw [d_up_n1 _ (by omega)]; exact hM) (fun j h1 h2 => by rw [d_up_n2 _ (by omega)]; exact hf j (by omega) h2) (by
        have e : lst (d_up M (r + 1) l (f0 i) (r + 1)) l = lst (M (r + 1)) l := lst_cg fun j _ h => d_up_n2 _ (by omega)
        rw [hk, lst_s, d_up_at, e])
      exact ⟨M', g1, KF.row.tr g2, g3, g4⟩
    rw [e_X0_reduce_4, if_pos (og_kn hr (by decide)), hM, if_neg c1, hrow]
    by_cases hl0 : (l : Int) ≤ 0
    · have hl0' : l = 0 := by omega
      subst hl0'
      rw [if_pos hl0, if_pos (og_kn hr (by decide)), if_pos (og_kn hr (by decide)), if_pos (ag_kn hr (by omega) (by omega)), if_pos (ag_kn hr (by omega) (by omega)), w_s 0 (by omega), w_s i (by omega), hfi]
      refine keep ?_
      rw [lst_s, List.foldl_append, ← hacc]
      rfl
    · obtain ⟨l', rfl⟩ : ∃ l', l = l' + 1 := ⟨l - 1, by omega⟩
      rw [if_neg hl0, if_pos (og_kn hr (by decide)), w_p l' (by omega), if_pos (ag_kn hr (by omega) (by omega)), if_pos (og_kn hr (by decide)), if_pos (ag_kn hr (by omega) (by omega)), undo_v, Option.bind_some]
      show ∃ M', vr sc (d + 1) c_X0_reduce (33, [(2, r), (0, ((l' + 1 : Nat) : Int)), (0, (i : Int))], [(0, _)], (K0, M)) = _ ∧ _
      rw [e_X0_reduce_33, hrow, hfi]
      have hstep : (lst f0 (i + 1)).foldl rpush [] = rpush (lst (M (r + 1)) (l' + 1)) (f0 i) := by rw [lst_s, List.foldl_append, ← hacc]; rfl
      by_cases hx : i_xor (M (r + 1) l') (f0 i) = 2
      · rw [if_pos hx, if_neg (by decide), w_m l' (by omega), w_s i (by omega)]
        refine ih (i + 1) l' M (by omega) (by omega) (by omega) hs hM (fun j h1 h2 => hf j (by omega) h2) ?_
        rw [hstep]
        unfold rpush
        rw [lst_last]
        dsimp only
        rw [if_pos hx, lst_drop]
      · rw [if_neg hx, if_pos rfl, if_pos (og_kn hr (by decide)), if_pos (og_kn hr (by decide)), if_pos (ag_kn hr (by omega) (by omega)), if_pos (ag_kn hr (by omega) (by omega)), w_s (l' + 1) (by omega), w_s i (by omega)]
        refine keep ?_
        rw [hstep]
        unfold rpush
        rw [lst_last]
        dsimp only
        rw [if_neg hx]
