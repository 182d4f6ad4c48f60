/-! tells, the class's side -/
def foI (xs : List (List Int)) (t : Tn) (l : Nat) (L : List Int) : Nat → Nat → Int
  | 0, _ => -1
  | m + 1, i => if L.getD i 0 = strF xs t l 0 i then foI xs t l L m (i + 1) else (i : Int)
def fo (xs : List (List Int)) (t : Tn) (l : Nat) (L : List Int) : Int := foI xs t l L L.length 0
def fv (xs : List (List Int)) (t : Tn) (w of : Int) (l : Nat) (L : List Int) (v : Nat) : Bool := decide (fo xs (tLay t w of ((v : Nat) : Int)) l L = -1)
def cnt (b : Nat → Bool) : Nat → Nat
  | 0 => 0
  | n + 1 => if b n = true then cnt b n + 1 else cnt b n
def lea (b : Nat → Bool) : Nat → Int
  | 0 => -1
  | n + 1 => if lea b n = -1 then (if b n = true then (n : Int) else -1) else lea b n
theorem cnt_le (b : Nat → Bool) : ∀ n : Nat, cnt b n ≤ n := by
  intro n
  induction n with
  | zero => exact Nat.le_refl _
  | succ n ih =>
    unfold cnt
    split <;> omega
theorem lea_up {b : Nat → Bool} {i : Nat} (h : lea b i = -1) (hb : b i = true) : ∀ m : Nat, lea b (i + 1 + m) = (i : Int) := by
  intro m
  induction m with
  | zero =>
    show (if lea b i = -1 then (if b i = true then (i : Int) else -1) else lea b i) = (i : Int)
    rw [if_pos h, if_pos hb]
  | succ m ih =>
    show (if lea b (i + 1 + m) = -1 then (if b (i + 1 + m) = true then ((i + 1 + m : Nat) : Int) else -1) else lea b (i + 1 + m)) = (i : Int)
    rw [ih, if_neg (by omega)]
def vOk (xs : List (List Int)) (w : Int) (v : Nat) : Prop := (w = 5 ∧ v < 6) ∨ (w = 2 ∧ v ≤ 9) ∨ ((w = 3 ∨ w = 4) ∧ v ≤ 99) ∨ (w = 6 ∧ v < xs.length)
theorem okT_lay {t : Tn} (h : okT t) {xs : List (List Int)} (hl : xs.length ≤ 6) {w of : Int} {v : Nat} (hv : vOk xs w v) : okT (tLay t w of (v : Int)) := by
  unfold tLay
  unfold vOk at hv
  rw [if_neg (show ¬ w = 0 by omega), if_neg (show ¬ w = 1 by omega)]
  by_cases k2 : w = 2
  · rw [if_pos k2]
    refine ⟨h.1, fun j hj => ?_, h.2.2⟩
    have k := h.2.1 j hj
    refine ⟨k.1, k.2.1, ?_, ?_, k.2.2.2.2⟩
    · show 0 ≤ (if j = of.toNat then (v : Int) else tNum t j)
      split <;> omega
    · show (if j = of.toNat then (v : Int) else tNum t j) ≤ 9
      split <;> omega
  rw [if_neg k2]
  by_cases k3 : w = 3
  · rw [if_pos k3]; exact okT_tSk h _ (by omega)
  rw [if_neg k3]
  by_cases k4 : w = 4
  · rw [if_pos k4]
    refine ⟨h.1, h.2.1, fun j hj => ?_⟩
    have k := h.2.2 j hj
    refine ⟨?_, ?_, k.2.2⟩
    · show 0 ≤ (if j = of.toNat then (v : Int) else tWlk t j)
      split <;> omega
    · show (if j = of.toNat then (v : Int) else tWlk t j) ≤ 99
      split <;> omega
  rw [if_neg k4]
  by_cases k5 : w = 5
  · rw [if_pos k5]
    refine ⟨h.1, fun j hj => ?_, h.2.2⟩
    have k := h.2.1 j hj
    refine ⟨?_, ?_, k.2.2⟩
    · show 0 ≤ (if j = of.toNat then (v : Int) else tKind t j)
      split <;> omega
    · show (if j = of.toNat then (v : Int) else tKind t j) < 6
      split <;> omega
  rw [if_neg k5]
  exact ⟨⟨h.1.1, h.1.2.1, h.1.2.2.1, show (0 : Int) ≤ (v : Int) by omega, show (v : Int) < 6 by omega, h.1.2.2.2.2.2⟩, h.2.1, h.2.2⟩
theorem rule_lay {t : Tn} {xs : List (List Int)} (hr : (tRule t).toNat < xs.length) {w of : Int} {v : Nat} (hv : vOk xs w v) : (tRule (tLay t w of (v : Int))).toNat < xs.length := by
  unfold tLay
  unfold vOk at hv
  rw [if_neg (show ¬ w = 0 by omega), if_neg (show ¬ w = 1 by omega)]
  by_cases k2 : w = 2
  · rw [if_pos k2]; exact hr
  rw [if_neg k2]
  by_cases k3 : w = 3
  · rw [if_pos k3]; exact hr
  rw [if_neg k3]
  by_cases k4 : w = 4
  · rw [if_pos k4]; exact hr
  rw [if_neg k4]
  by_cases k5 : w = 5
  · rw [if_pos k5]; exact hr
  rw [if_neg k5]
  show ((v : Int)).toNat < xs.length
  rw [Int.toNat_natCast]
  omega
theorem many_lay (t : Tn) (w of v : Int) : tMany (tLay t w of v) = tMany t := by
  unfold tLay
  repeat' split
  all_goals rfl
theorem fun_if {α : Type} {l : Nat} {u v : α} {f : Nat → α} : (fun i => if i = l then v else (fun i => if i = l then u else f i) i) = (fun i => if i = l then v else f i) := by
  funext i
  show (if i = l then v else (if i = l then u else f i)) = (if i = l then v else f i)
  by_cases q : i = l
  · rw [if_pos q, if_pos q]
  · rw [if_neg q, if_neg q, if_neg q]
theorem lay_lay (t : Tn) {w : Int} (h : 2 ≤ w) (of u v : Int) : tLay (tLay t w of u) w of v = tLay t w of v := by
  unfold tLay
  by_cases k2 : w = 2
  · subst k2
    show tNm (tNm t of.toNat u) of.toNat v = tNm t of.toNat v
    unfold tNm
    exact congrArg (fun f => (t.1, tKind t, f, tSkl t, tWlk t, tBy t, tKn t)) fun_if
  by_cases k3 : w = 3
  · subst k3
    show tSk (tSk t of.toNat u) of.toNat v = tSk t of.toNat v
    exact congrArg (fun f => (t.1, tKind t, tNum t, f, tWlk t, tBy t, tKn t)) fun_if
  by_cases k4 : w = 4
  · subst k4
    show tWk (tWk t of.toNat u) of.toNat v = tWk t of.toNat v
    exact congrArg (fun f => (t.1, tKind t, tNum t, tSkl t, f, tBy t, tKn t)) fun_if
  by_cases k5 : w = 5
  · subst k5
    show tKd (tKd t of.toNat u) of.toNat v = tKd t of.toNat v
    exact congrArg (fun f => (t.1, f, tNum t, tSkl t, tWlk t, tBy t, tKn t)) fun_if
  · have k0 : ¬ w = 0 := by omega
    have k1 : ¬ w = 1 := by omega
    simp only [k0, k1, k2, k3, k4, k5, if_false]
    rfl
