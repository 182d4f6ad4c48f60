/-! rows of crossings: what is done with them, as lists -/
theorem w32_e {x c : Int} (h : x = c) (h1 : -2147483648 ≤ c) (h2 : c < 2147483648) : w32 x = c := by rw [h]; exact w32_id ⟨h1, h2⟩
theorem w_s (n : Nat) (h : n < 1000000) : w32 ((n : Int) + 1) = ((n + 1 : Nat) : Int) := w32_e (by omega) (by omega) (by omega)
theorem w_p (n : Nat) (h : n < 1000000) : w32 (((n + 1 : Nat) : Int) - 1) = (n : Int) := w32_e (by omega) (by omega) (by omega)
theorem w_m (n : Nat) (h : n < 1000000) : w32 (((n + 1 : Nat) : Int) + (-1)) = (n : Int) := w32_e (by omega) (by omega) (by omega)
def rpush (acc : List Int) (x : Int) : List Int := match acc.getLast? with
  | some y => if i_xor y x = 2 then acc.dropLast else acc ++ [x]
  | none => acc ++ [x]
def redl (l : List Int) : List Int := l.foldl rpush []
theorem rpush_len (acc : List Int) (x : Int) : (rpush acc x).length ≤ acc.length + 1 := by
  unfold rpush
  split
  · split <;> simp
    omega
  · simp
theorem redl_len (l : List Int) : (redl l).length ≤ l.length := by
  have key : ∀ (l acc : List Int), (l.foldl rpush acc).length ≤ acc.length + l.length := by
    intro l
    induction l with
    | nil => intro acc; simp
    | cons x l ih =>
      intro acc
      have h1 := ih (rpush acc x)
      have h2 := rpush_len acc x
      simp only [List.foldl_cons, List.length_cons]
      omega
  have := key l []
  simpa [redl] using this
theorem rpush_mem {acc : List Int} {x : Int} {P : Int → Prop} (ha : ∀ y ∈ acc, P y) (hx : P x) : ∀ y ∈ rpush acc x, P y := by
  have happ : ∀ y ∈ acc ++ [x], P y := fun y hy => by
    rcases List.mem_append.mp hy with q | q
    · exact ha y q
    · rw [List.mem_singleton.mp q]; exact hx
  unfold rpush
  split
  · split
    · intro y hy
      exact ha y ((List.dropLast_sublist _).subset hy)
    · exact happ
  · exact happ
theorem redl_mem {l : List Int} {P : Int → Prop} (h : ∀ y ∈ l, P y) : ∀ y ∈ redl l, P y := by
  have key : ∀ (l acc : List Int), (∀ y ∈ l, P y) → (∀ y ∈ acc, P y) → ∀ y ∈ l.foldl rpush acc, P y := by
    intro l
    induction l with
    | nil => intro acc _ h; exact h
    | cons x l ih =>
      intro acc h1 h2
      exact ih (rpush acc x) (fun y hy => h1 y (List.mem_cons_of_mem _ hy)) (rpush_mem h2 (h1 x List.mem_cons_self))
  exact key l [] h (fun y hy => by cases hy)
/-- a row with its size: (o, s) holds the size, a the row -/
def WF (o s a : Int) (M M' : dM) : Prop := ∀ x k : Int, ¬ (x = o ∧ k = s) → x ≠ a → M' x k = M x k
theorem WF.rf (o s a : Int) (M : dM) : WF o s a M M := fun _ _ _ _ => rfl
theorem WF.tr {o s a : Int} {M M1 M2 : dM} (h1 : WF o s a M M1) (h2 : WF o s a M1 M2) : WF o s a M M2 := fun x k g1 g2 => (h2 x k g1 g2).trans (h1 x k g1 g2)
theorem WF.row (o s a j v : Int) (M : dM) : WF o s a M (d_up M a j v) := fun x k _ g2 => d_up_n1 M g2
theorem WF.sz (o s a v : Int) (M : dM) : WF o s a M (d_up M o s v) := fun x k g1 _ => by
  unfold d_up
  rw [if_neg g1]
/-- such a place holds no reference -/
def Wok (o s a : Int) : Prop := isRf o s = false ∧ (∀ k : Int, isRf a k = false) ∧ o ≠ a
theorem WF.sk {o s a : Int} {M M' : dM} (h : WF o s a M M') (hw : Wok o s a) (hs : Sk M) : Sk M' := Sk_of hs fun x k hq => h x k
  (fun z => by rw [z.1, z.2, hw.1] at hq; cases hq) (fun z => by rw [z, hw.2.1] at hq; cases hq)
def KV (o s a : Int) (M : dM) (l : List Int) : Prop := M o s = l.length ∧ lst (M a) l.length = l
theorem KV.of {o s a : Int} {M : dM} {n : Nat} (h : M o s = n) : KV o s a M (lst (M a) n) := ⟨by rw [lst_len]; exact h, by rw [lst_len]⟩
theorem KV.get {o s a : Int} {M : dM} {l : List Int} (h : KV o s a M l) {i : Nat} (hi : i < l.length) : M a i = l[i] := by
  have h1 := lst_get (M a) hi
  rw [h.2] at h1
  rw [List.getElem?_eq_getElem hi] at h1
  exact (Option.some.inj h1).symm
theorem KV.up {o s a : Int} {M M' : dM} {l : List Int} (h : KV o s a M l) (h1 : M' o s = M o s) (h2 : ∀ j : Int, 0 ≤ j → j < l.length → M' a j = M a j) : KV o s a M' l := ⟨h1.trans h.1, by
  have e : lst (M' a) l.length = lst (M a) l.length := lst_cg h2
  rw [e]; exact h.2⟩
theorem lst_last (f : Int → Int) (n : Nat) : (lst f (n + 1)).getLast? = some (f n) := by rw [lst_s]; simp
theorem lst_drop (f : Int → Int) (n : Nat) : (lst f (n + 1)).dropLast = lst f n := by rw [lst_s]; simp
theorem Wok_kn {r : Int} (h : isK r) : Wok r 1 (r + 1) := ⟨(isRf_kn h).1, (isRf_kn h).2, by omega⟩
theorem isRf_cell {a : Int} (h : SKL.all (fun q => !(q.1 == a)) = true) (k : Int) : isRf a k = false := by
  unfold isRf
  rw [List.any_eq_false]
  intro q hq
  have := List.all_eq_true.mp h q hq
  simp at this ⊢
  intro z
  exact absurd z this
theorem Wok_wd : Wok 107 29 114 := ⟨by decide +kernel, isRf_cell (by decide +kernel), by decide⟩
theorem Sk_m28 {M : dM} (h : Sk M) : M 107 28 = 114 := h (107, 28, 114) (by decide +kernel)
theorem undo_v {sc : dS} {d : Nat} {K : List (Nat × Nat)} {M : dM} {a b : Int} : vc sc (d + 1) 10 [(0, a), (0, b)] (K, M) = some ([(0, if i_xor a b = 2 then 1 else 0)], (K, M)) := by
  rw [vc_s (md := m_X0_undo) (L := [(0, a), (0, b)]) rfl (Nat.le_of_ble_eq_true rfl) rfl]
  show vr sc d c_X0_undo _ = _
  rw [e_X0_undo_0]
  by_cases h : i_xor a b = 2
  · rw [if_neg (fun z => z h), if_pos h]
  · rw [if_pos h, if_neg h]
theorem undo_w {sc : dS} {d : Nat} {K : List (Nat × Nat)} {M : dM} {a b : Int} : vc sc (d + 1) 150 [(0, a), (0, b)] (K, M) = some ([(0, if i_xor a b = 2 then 1 else 0)], (K, M)) := by
  rw [vc_s (md := m_X7_undo) (L := [(0, a), (0, b)]) rfl (Nat.le_of_ble_eq_true rfl) rfl]
  show vr sc d c_X7_undo _ = _
  rw [e_X7_undo_0]
  by_cases h : i_xor a b = 2
  · rw [if_neg (fun z => z h), if_pos h]
  · rw [if_pos h, if_neg h]
theorem ag_wd {i : Int} (h0 : 0 ≤ i) (h1 : i < 24) : ag K0 8 114 i = true := by
  unfold ag
  rw [show kc K0 114 = some (8, 24) from rfl]
  exact decide_eq_true ⟨rfl, h0, h1⟩

set_option maxHeartbeats 2000000 in
theorem reduce_loop {sc : dS} {d : Nat} {r : Int} (hr : isK r) {n : Nat} (hn : n ≤ 12) (f0 : Int → Int) : ∀ (m i l : Nat) (M : dM), n - i = m → i ≤ n → l ≤ i → Sk M → M r 1 = n → (∀ j : Int, i ≤ j → j < 12 → M (r + 1) j = f0 j) → lst (M (r + 1)) l = (lst f0 i).foldl rpush [] →
    ∃ M' : dM, vr sc (d + 1) c_X0_reduce (4, [(2, r), (0, (l : Int)), (0, (i : Int))], [], (K0, M)) = some ([], (K0, M')) ∧ WF r 1 (r + 1) M M' ∧ KV r 1 (r + 1) M' (redl (lst f0 n)) := by
  intro m
  induction m with
  | zero =>
    intro i l M hm hi hl hs hM hf hacc
    have e : i = n := by omega
    subst e
    have c1 : (i : Int) ≤ i := by omega
    rw [e_X0_reduce_4, if_pos (og_kn hr (by decide)), hM, if_pos c1, if_pos (og_kn hr (by decide)), if_pos ⟨by omega, by omega⟩]
    have e2 : (redl (lst f0 i)).length = l := by unfold redl; rw [← hacc, lst_len]
    refine ⟨_, rfl, WF.sz r 1 (r + 1) _ _, ?_, ?_⟩
    · rw [d_up_at, e2]
    · rw [e2]
      unfold redl
      rw [← hacc]
      exact lst_cg fun j _ _ => d_up_n1 M (by omega)
  | succ m ih =>
    intro i l M hm hi hl hs hM hf hacc
    have c1 : ¬ (n : Int) ≤ i := by omega
    have hrow := isK_row hs hr
    have hfi : M (r + 1) i = f0 i := hf i (by omega) (by omega)
    have keep : (lst f0 (i + 1)).foldl rpush [] = lst (M (r + 1)) l ++ [f0 i] → ∃ M' : dM, vr sc (d + 1) c_X0_reduce (4, [(2, r), (0, ((l + 1 : Nat) : Int)), (0, ((i + 1 : Nat) : Int))], [], (K0, d_up M (r + 1) l (f0 i))) = some ([], (K0, M')) ∧ WF r 1 (r + 1) M M' ∧ KV r 1 (r + 1) M' (redl (lst f0 n)) := by
      intro hk
      obtain ⟨M', g1, g2, g3⟩ := ih (i + 1) (l + 1) (d_up M (r + 1) l (f0 i)) (by omega) (by omega) (by omega) ((WF.row r 1 (r + 1) _ _ _).sk (Wok_kn hr) hs) (by rw [d_up_n1 _ (by omega)]; exact hM) (fun j h1 h2 => by rw [d_up_n2 _ (by omega)]; exact hf j (by omega) h2) (by
        have e : lst (d_up M (r + 1) l (f0 i) (r + 1)) l = lst (M (r + 1)) l := lst_cg fun j _ h => d_up_n2 _ (by omega)
        rw [hk, lst_s, d_up_at, e])
      exact ⟨M', g1, (WF.row r 1 (r + 1) _ _ _).tr g2, g3⟩
    rw [e_X0_reduce_4, if_pos (og_kn hr (by decide)), hM, if_neg c1, hrow]
    by_cases hl0 : (l : Int) ≤ 0
    · have hl0' : l = 0 := by omega
      subst hl0'
      rw [if_pos hl0, if_pos (og_kn hr (by decide)), if_pos (og_kn hr (by decide)), if_pos (ag_kn hr (by omega) (by omega)), if_pos (ag_kn hr (by omega) (by omega)), w_s 0 (by omega), w_s i (by omega), hfi]
      refine keep ?_
      rw [lst_s, List.foldl_append, ← hacc]
      rfl
    · obtain ⟨l', rfl⟩ : ∃ l', l = l' + 1 := ⟨l - 1, by omega⟩
      rw [if_neg hl0, if_pos (og_kn hr (by decide)), w_p l' (by omega), if_pos (ag_kn hr (by omega) (by omega)), if_pos (og_kn hr (by decide)), if_pos (ag_kn hr (by omega) (by omega)), undo_v, Option.bind_some]
      show ∃ M', vr sc (d + 1) c_X0_reduce (33, [(2, r), (0, ((l' + 1 : Nat) : Int)), (0, (i : Int))], [(0, _)], (K0, M)) = _ ∧ _
      rw [e_X0_reduce_33, hrow, hfi]
      have hstep : (lst f0 (i + 1)).foldl rpush [] = rpush (lst (M (r + 1)) (l' + 1)) (f0 i) := by rw [lst_s, List.foldl_append, ← hacc]; rfl
      by_cases hx : i_xor (M (r + 1) l') (f0 i) = 2
      · rw [if_pos hx, if_neg (by decide), w_m l' (by omega), w_s i (by omega)]
        refine ih (i + 1) l' M (by omega) (by omega) (by omega) hs hM (fun j h1 h2 => hf j (by omega) h2) ?_
        rw [hstep]
        unfold rpush
        rw [lst_last]
        dsimp only
        rw [if_pos hx, lst_drop]
      · rw [if_neg hx, if_pos rfl, if_pos (og_kn hr (by decide)), if_pos (og_kn hr (by decide)), if_pos (ag_kn hr (by omega) (by omega)), if_pos (ag_kn hr (by omega) (by omega)), w_s (l' + 1) (by omega), w_s i (by omega)]
        refine keep ?_
        rw [hstep]
        unfold rpush
        rw [lst_last]
        dsimp only
        rw [if_neg hx]
theorem reduce_ok {sc : dS} {d : Nat} {r : Int} (hr : isK r) {M : dM} (hs : Sk M) {l : List Int} (hl : l.length ≤ 12) (hk : KV r 1 (r + 1) M l) : ∃ M' : dM, vc sc (d + 2) 11 [(2, r)] (K0, M) = some ([], (K0, M')) ∧ WF r 1 (r + 1) M M' ∧ KV r 1 (r + 1) M' (redl l) := by
  rw [vc_s (md := m_X0_reduce) (L := [(2, r), (3, 0), (3, 0)]) rfl (Nat.le_of_ble_eq_true rfl) rfl]
  show ∃ M', vr sc (d + 1) c_X0_reduce _ = _ ∧ _
  rw [e_X0_reduce_0]
  have := reduce_loop (sc := sc) (d := d) hr hl (M (r + 1)) l.length 0 0 M rfl (by omega) (by omega) hs hk.1 (fun _ _ _ => rfl) rfl
  rw [hk.2] at this
  exact this

set_option maxHeartbeats 2000000 in
theorem reduces_loop {sc : dS} {d : Nat}  {n : Nat} (hn : n ≤ 12) (f0 : Int → Int) : ∀ (m i l : Nat) (M : dM), n - i = m → i ≤ n → l ≤ i → Sk M → M 107 29 = n → (∀ j : Int, i ≤ j → j < 12 → M 114 j = f0 j) → lst (M 114) l = (lst f0 i).foldl rpush [] →
    ∃ M' : dM, vr sc (d + 1) c_X7_reduces (4, [(2, 107), (0, (l : Int)), (0, (i : Int))], [], (K0, M)) = some ([], (K0, M')) ∧ WF 107 29 114 M M' ∧ KV 107 29 114 M' (redl (lst f0 n)) := by
  intro m
  induction m with
  | zero =>
    intro i l M hm hi hl hs hM hf hacc
    have e : i = n := by omega
    subst e
    have c1 : (i : Int) ≤ i := by omega
    rw [e_X7_reduces_4, if_pos (show og K0 7 107 29 = true from rfl), hM, if_pos c1, if_pos (show og K0 7 107 29 = true from rfl), if_pos ⟨by omega, by omega⟩]
    have e2 : (redl (lst f0 i)).length = l := by unfold redl; rw [← hacc, lst_len]
    refine ⟨_, rfl, WF.sz 107 29 114 _ _, ?_, ?_⟩
    · rw [d_up_at, e2]
    · rw [e2]
      unfold redl
      rw [← hacc]
      exact lst_cg fun j _ _ => d_up_n1 M (by omega)
  | succ m ih =>
    intro i l M hm hi hl hs hM hf hacc
    have c1 : ¬ (n : Int) ≤ i := by omega
    have hrow := Sk_m28 hs
    have hfi : M 114 i = f0 i := hf i (by omega) (by omega)
    have keep : (lst f0 (i + 1)).foldl rpush [] = lst (M 114) l ++ [f0 i] → ∃ M' : dM, vr sc (d + 1) c_X7_reduces (4, [(2, 107), (0, ((l + 1 : Nat) : Int)), (0, ((i + 1 : Nat) : Int))], [], (K0, d_up M 114 l (f0 i))) = some ([], (K0, M')) ∧ WF 107 29 114 M M' ∧ KV 107 29 114 M' (redl (lst f0 n)) := by
      intro hk
      obtain ⟨M', g1, g2, g3⟩ := ih (i + 1) (l + 1) (d_up M 114 l (f0 i)) (by omega) (by omega) (by omega) ((WF.row 107 29 114 _ _ _).sk Wok_wd hs) (by rw [d_up_n1 _ (by omega)]; exact hM) (fun j h1 h2 => by rw [d_up_n2 _ (by omega)]; exact hf j (by omega) h2) (by
        have e : lst (d_up M 114 l (f0 i) 114) l = lst (M 114) l := lst_cg fun j _ h => d_up_n2 _ (by omega)
        rw [hk, lst_s, d_up_at, e])
      exact ⟨M', g1, (WF.row 107 29 114 _ _ _).tr g2, g3⟩
    rw [e_X7_reduces_4, if_pos (show og K0 7 107 29 = true from rfl), hM, if_neg c1, hrow]
    by_cases hl0 : (l : Int) ≤ 0
    · have hl0' : l = 0 := by omega
      subst hl0'
      rw [if_pos hl0, if_pos (show og K0 7 107 28 = true from rfl), if_pos (show og K0 7 107 28 = true from rfl), if_pos (ag_wd (by omega) (by omega)), if_pos (ag_wd (by omega) (by omega)), w_s 0 (by omega), w_s i (by omega), hfi]
      refine keep ?_
      rw [lst_s, List.foldl_append, ← hacc]
      rfl
    · obtain ⟨l', rfl⟩ : ∃ l', l = l' + 1 := ⟨l - 1, by omega⟩
      rw [if_neg hl0, if_pos (show og K0 7 107 28 = true from rfl), w_p l' (by omega), if_pos (ag_wd (by omega) (by omega)), if_pos (show og K0 7 107 28 = true from rfl), if_pos (ag_wd (by omega) (by omega)), undo_w, Option.bind_some]
      show ∃ M', vr sc (d + 1) c_X7_reduces (33, [(2, 107), (0, ((l' + 1 : Nat) : Int)), (0, (i : Int))], [(0, _)], (K0, M)) = _ ∧ _
      rw [e_X7_reduces_33, hrow, hfi]
      have hstep : (lst f0 (i + 1)).foldl rpush [] = rpush (lst (M 114) (l' + 1)) (f0 i) := by rw [lst_s, List.foldl_append, ← hacc]; rfl
      by_cases hx : i_xor (M 114 l') (f0 i) = 2
      · rw [if_pos hx, if_neg (by decide), w_m l' (by omega), w_s i (by omega)]
        refine ih (i + 1) l' M (by omega) (by omega) (by omega) hs hM (fun j h1 h2 => hf j (by omega) h2) ?_
        rw [hstep]
        unfold rpush
        rw [lst_last]
        dsimp only
        rw [if_pos hx, lst_drop]
      · rw [if_neg hx, if_pos rfl, if_pos (show og K0 7 107 28 = true from rfl), if_pos (show og K0 7 107 28 = true from rfl), if_pos (ag_wd (by omega) (by omega)), if_pos (ag_wd (by omega) (by omega)), w_s (l' + 1) (by omega), w_s i (by omega)]
        refine keep ?_
        rw [hstep]
        unfold rpush
        rw [lst_last]
        dsimp only
        rw [if_neg hx]
theorem reduces_ok {sc : dS} {d : Nat}  {M : dM} (hs : Sk M) {l : List Int} (hl : l.length ≤ 12) (hk : KV 107 29 114 M l) : ∃ M' : dM, vc sc (d + 2) 151 [(2, 107)] (K0, M) = some ([], (K0, M')) ∧ WF 107 29 114 M M' ∧ KV 107 29 114 M' (redl l) := by
  rw [vc_s (md := m_X7_reduces) (L := [(2, 107), (3, 0), (3, 0)]) rfl (Nat.le_of_ble_eq_true rfl) rfl]
  show ∃ M', vr sc (d + 1) c_X7_reduces _ = _ ∧ _
  rw [e_X7_reduces_0]
  have := reduces_loop (sc := sc) (d := d)  hl (M 114) l.length 0 0 M rfl (by omega) (by omega) hs hk.1 (fun _ _ _ => rfl) rfl
  rw [hk.2] at this
  exact this
