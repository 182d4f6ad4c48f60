/-! what the reference asks of its token; what a row of operations comes to -/
theorem pad_eq {w u : List Int} (hw : ∀ c ∈ w, c ≠ 0) (hu : ∀ c ∈ u, c ≠ 0) (lw : w.length ≤ 8) (lu : u.length ≤ 8) (h : ∀ i : Nat, i < 8 → w.getD i 0 = u.getD i 0) : w = u := by
  have gd : ∀ (l : List Int) (i : Nat), l.getD i 0 = (l[i]?).getD 0 := fun l i => by rw [List.getD_eq_getElem?_getD]
  apply List.ext_getElem?
  intro i
  by_cases q : i < 8
  · have k := h i q
    rw [gd, gd] at k
    by_cases a : i < w.length
    · by_cases b : i < u.length
      · rw [List.getElem?_eq_getElem a, List.getElem?_eq_getElem b] at k ⊢
        exact congrArg some k
      · rw [List.getElem?_eq_getElem a, List.getElem?_eq_none (show u.length ≤ i by omega)] at k
        exact absurd k (hw _ (List.getElem_mem a))
    · by_cases b : i < u.length
      · rw [List.getElem?_eq_none (show w.length ≤ i by omega), List.getElem?_eq_getElem b] at k
        exact absurd k.symm (hu _ (List.getElem_mem b))
      · rw [List.getElem?_eq_none (show w.length ≤ i by omega), List.getElem?_eq_none (show u.length ≤ i by omega)]
  · rw [List.getElem?_eq_none (show w.length ≤ i by omega), List.getElem?_eq_none (show u.length ≤ i by omega)]
theorem wfind_get (x : List Int) : ∀ (us : List (List Int)) (w q : Nat), wfind x us w = some q → w ≤ q ∧ q - w < us.length ∧ us.getD (q - w) [] = x := by
  intro us
  induction us with
  | nil => intro w q h; cases h
  | cons u us ih =>
    intro w q h
    unfold wfind at h
    by_cases e : x = u
    · rw [if_pos e] at h
      cases h
      rw [Nat.sub_self]
      exact ⟨Nat.le_refl _, Nat.zero_lt_succ _, e.symm⟩
    · rw [if_neg e] at h
      have k := ih (w + 1) q h
      refine ⟨by omega, ?_, ?_⟩
      · rw [List.length_cons]; omega
      · rw [show q - w = (q - (w + 1)) + 1 by omega]
        exact k.2.2
theorem wfind_hit : ∀ q ∈ List.range 12, wfind (WT.getD q []) WT 0 = some q := by decide +kernel
theorem wt_ok : ∀ q ∈ List.range 12, (∀ c ∈ WT.getD q [], c ≠ 0) ∧ (WT.getD q []).length ≤ 8 := by decide +kernel
def wcd (q : Nat) (k v : Int) : Prop := if q < 6 then k = 3 ∧ v = (q : Int) else k = (q : Int) + 4
theorem wk_iff {w : List Int} {q : Nat} (hq : q < 12) : w = WT.getD q [] ↔ wcd q (wk w).1 (wk w).2 := by
  constructor
  · intro e
    subst e
    unfold wk wcd
    rw [wfind_hit q (List.mem_range.mpr hq)]
    by_cases z : q < 6
    · rw [if_pos z]; dsimp only; rw [if_pos z]; exact ⟨rfl, rfl⟩
    · rw [if_neg z]; dsimp only; rw [if_neg z]
  · intro h
    unfold wk wcd at h
    cases hf : wfind w WT 0 with
    | none =>
      rw [hf] at h
      dsimp only at h
      split at h
      · omega
      · omega
    | some r =>
      rw [hf] at h
      dsimp only at h
      have k := wfind_get w WT 0 r hf
      have e : r = q := by
        split at h <;> split at h <;> omega
      subst e
      exact k.2.2.symm
def njoin (k x y : Int) : Int := if k = 13 then bi (x ≠ 0 ∨ y ≠ 0) else if k = 14 then bi (x ≠ 0 ∧ y ≠ 0) else if k = 60 then bi (x < y) else if k = 61 then bi (x = y) else if k = 43 then w32 (x + y) else if k = 45 then w32 (x - y) else w32 (x * y)
def evs (ns : Nat → Int) (st : List Int) (q : Int × Int) : List Int :=
  if q.1 = 2 ∨ q.1 = 3 then (if st.length < 40 then (if q.1 = 2 then q.2 else if 0 ≤ q.2 ∧ q.2 < 6 then ns q.2.toNat else 0) :: st else st)
  else if q.1 = 15 ∨ q.1 = 4 then (match st with
    | [] => []
    | a :: r => (if q.1 = 15 then bi (a = 0) else w32 (-a)) :: r)
  else match st with
    | y :: x :: r => njoin q.1 x y :: r
    | st => st
def ev (ns : Nat → Int) (c : List (Int × Int)) (st : List Int) : List Int := c.foldl (evs ns) st
theorem ev_app (ns : Nat → Int) (c e : List (Int × Int)) (st : List Int) : ev ns (c ++ e) st = ev ns e (ev ns c st) := by unfold ev; rw [List.foldl_append]
def RQ (ns : Nat → Int) (t : Nat) (b : List Int) (M : dM) (x : Ps) (op : Nat) : Prop := rB t b M ∧ (∀ i : Nat, i < 6 → M 107 (13 + (i : Int)) = ns i) ∧ M 107 25 = op ∧ (pS x ≤ pP x ∧ pP x ≤ b.length) ∧ ((pF x = -1 ∧ M 107 26 = 0 ∧ rK b M (pK x) (pV x) (pS x) (pP x)) ∨ (pF x ≠ -1 ∧ M 107 26 = 1 ∧ M 107 27 = pF x))
theorem RQ.good {ns : Nat → Int} {t : Nat} {b : List Int} {M : dM} {x : Ps} {op : Nat} (h : RQ ns t b M x op) (g : pF x = -1) : M 107 26 = 0 ∧ rK b M (pK x) (pV x) (pS x) (pP x) := by
  rcases h.2.2.2.2 with z | z
  · exact z.2
  · exact absurd g z.1
theorem RQ.bad {ns : Nat → Int} {t : Nat} {b : List Int} {M : dM} {x : Ps} {op : Nat} (h : RQ ns t b M x op) (g : pF x ≠ -1) : M 107 26 = 1 ∧ M 107 27 = pF x := by
  rcases h.2.2.2.2 with z | z
  · exact absurd z.1 g
  · exact z.2
theorem wk_rng (w : List Int) : (wk w).1 = 1 ∨ (wk w).1 = 3 ∨ (10 ≤ (wk w).1 ∧ (wk w).1 ≤ 15) := by
  unfold wk
  cases hf : wfind w WT 0 with
  | none => exact Or.inl rfl
  | some q =>
    have k := wfind_get w WT 0 q hf
    have hl : WT.length = 12 := rfl
    dsimp only
    split <;> omega
theorem rK_tok {b : List Int} {M : dM} {k v : Int} {s p : Nat} (h : rK b M k v s p) : (M 107 22 = 0 ∧ k = 0) ∨ (M 107 22 = 1 ∧ (k = 1 ∨ k = 3 ∨ (10 ≤ k ∧ k ≤ 15)) ∧ M 107 21 = p ∧ s < p ∧ p ≤ b.length ∧ k = (wk (slc2 b s p)).1 ∧ v = (wk (slc2 b s p)).2 ∧ ∀ c ∈ slc2 b s p, isLow c = true) ∨ (M 107 22 = 2 ∧ k = 2 ∧ M 107 24 = v ∧ M 107 21 = p ∧ 0 ≤ v ∧ v < 10000) ∨ (M 107 22 = 3 ∧ 40 ≤ k ∧ k ≤ 61 ∧ M 107 24 = k ∧ M 107 21 = p) ∨ (M 107 22 = 4 ∧ k = 1) := by
  rcases h.2 with z | z | z | z | z
  · exact Or.inl ⟨z.2, z.1⟩
  · have := wk_rng (slc2 b s p)
    rw [← z.2.2.2.2.1] at this
    exact Or.inr (Or.inl ⟨z.1, this, z.2⟩)
  · exact Or.inr (Or.inr (Or.inl ⟨z.2.1, z.1, z.2.2⟩))
  · have := of_decide_eq_true z.1
    exact Or.inr (Or.inr (Or.inr (Or.inl ⟨z.2.1, by omega, by omega, z.2.2⟩)))
  · exact Or.inr (Or.inr (Or.inr (Or.inr ⟨z.2, z.1⟩)))
