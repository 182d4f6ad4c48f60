/-! the signs, words and numbers of a text -/
def isSp (c : Int) : Bool := decide (c = 32 ∨ c = 10)
def isLow (c : Int) : Bool := decide (97 ≤ c ∧ c ≤ 122)
def isDig (c : Int) : Bool := decide (48 ≤ c ∧ c ≤ 57)
def isSg (c : Int) : Bool := decide (c = 40 ∨ c = 41 ∨ c = 42 ∨ c = 43 ∨ c = 45 ∨ c = 59 ∨ c = 60 ∨ c = 61)
def eol (P : Int → Bool) : List Int → Nat → Nat
  | [], i => i
  | c :: l, i => if P c = true then eol P l (i + 1) else i
theorem eol_ge (P : Int → Bool) : ∀ (l : List Int) (i : Nat), i ≤ eol P l i := by
  intro l
  induction l with
  | nil => intro i; exact Nat.le_refl _
  | cons c l ih =>
    intro i
    unfold eol
    split
    · exact Nat.le_trans (Nat.le_succ i) (ih (i + 1))
    · exact Nat.le_refl _
theorem eol_le (P : Int → Bool) : ∀ (l : List Int) (i : Nat), eol P l i ≤ i + l.length := by
  intro l
  induction l with
  | nil => intro i; exact Nat.le_refl _
  | cons c l ih =>
    intro i
    unfold eol
    split
    · have := ih (i + 1)
      simp only [List.length_cons]
      omega
    · simp only [List.length_cons]; omega
theorem eol_all (P : Int → Bool) : ∀ (l : List Int) (i : Nat), ∀ c ∈ l.take (eol P l i - i), P c = true := by
  intro l
  induction l with
  | nil => intro i c h; simp at h
  | cons a l ih =>
    intro i c h
    unfold eol at h
    by_cases p : P a = true
    · rw [if_pos p] at h
      have g := eol_ge P l (i + 1)
      rw [show eol P l (i + 1) - i = (eol P l (i + 1) - (i + 1)) + 1 by omega, List.take_succ_cons] at h
      rcases List.mem_cons.mp h with rfl | h
      · exact p
      · exact ih (i + 1) c h
    · rw [if_neg p] at h
      simp at h
theorem eol_gt {P : Int → Bool} {c : Int} {l : List Int} {i : Nat} (h : P c = true) : i < eol P (c :: l) i := by
  unfold eol
  rw [if_pos h]
  exact eol_ge P l (i + 1)
def WT : List (List Int) := [[116, 117, 114, 110, 115], [115, 107, 105, 108, 108], [119, 97, 108, 107], [119, 101, 116], [110, 117, 109, 98, 101, 114], [100, 97, 121], [104, 111, 108, 100, 115], [108, 101, 97, 114, 110, 115], [114, 101, 97, 100, 115], [111, 114], [97, 110, 100], [110, 111, 116]]
def wfind (x : List Int) : List (List Int) → Nat → Option Nat
  | [], _ => none
  | u :: us, w => if x = u then some w else wfind x us (w + 1)
def wk (w : List Int) : Int × Int := match wfind w WT 0 with
  | some i => (if i < 6 then 3 else (i : Int) + 4, (i : Int))
  | none => (1, 0)
def dval (l : List Int) : Int := l.foldl (fun a c => 10 * a + c - 48) 0
def slc2 (b : List Int) (s p : Nat) : List Int := (b.drop s).take (p - s)
def scn (b : List Int) (p : Nat) : Int × Int × Nat × Nat :=
  let s := eol isSp (b.drop p) p
  if b.length ≤ s then (0, 0, s, s) else
  let c := b.getD s 0
  if isLow c = true then
    let e := eol isLow (b.drop s) s
    ((wk (slc2 b s e)).1, (wk (slc2 b s e)).2, s, e)
  else if isDig c = true then
    let e := eol isDig (b.drop s) s
    (if 4 < e - s then 1 else 2, if 4 < e - s then 0 else dval (slc2 b s e), s, e)
  else (if isSg c = true then c else 1, 0, s, s + 1)
theorem slc2_s {b : List Int} {s i : Nat} (h : s ≤ i) (hi : i < b.length) : slc2 b s (i + 1) = slc2 b s i ++ [b[i]] := by
  unfold slc2
  rw [show i + 1 - s = (i - s) + 1 by omega, List.take_succ, List.getElem?_drop, show s + (i - s) = i by omega, List.getElem?_eq_getElem hi]
  rfl
theorem slc2_0 (b : List Int) (s : Nat) : slc2 b s s = [] := by unfold slc2; rw [Nat.sub_self]; rfl
theorem dval_s (l : List Int) (c : Int) : dval (l ++ [c]) = 10 * dval l + c - 48 := by unfold dval; rw [List.foldl_append]; rfl
theorem dval_b : ∀ (l : List Int) (a : Int) (n : Nat), 0 ≤ a → a < (10 : Int) ^ n → (∀ c ∈ l, isDig c = true) → 0 ≤ l.foldl (fun a c => 10 * a + c - 48) a ∧ l.foldl (fun a c => 10 * a + c - 48) a < (10 : Int) ^ (n + l.length) := by
  intro l
  induction l with
  | nil => intro a n h0 h1 _; exact ⟨h0, h1⟩
  | cons c l ih =>
    intro a n h0 h1 hd
    have hc := of_decide_eq_true (hd c List.mem_cons_self)
    have h2 : 10 * a + c - 48 < (10 : Int) ^ (n + 1) := by
      rw [Int.pow_succ]
      omega
    have := ih (10 * a + c - 48) (n + 1) (by omega) h2 (fun y hy => hd y (List.mem_cons_of_mem _ hy))
    rw [List.length_cons, show n + (l.length + 1) = n + 1 + l.length by omega]
    exact this
theorem dval_lt {l : List Int} (h : ∀ c ∈ l, isDig c = true) (hl : l.length ≤ 4) : 0 ≤ dval l ∧ dval l < 10000 := by
  have k := dval_b l 0 0 (by decide) (by decide) h
  have e : ∀ n : Nat, n ≤ 4 → (10 : Int) ^ n ≤ 10000 := by
    intro n hn
    rcases (show n = 0 ∨ n = 1 ∨ n = 2 ∨ n = 3 ∨ n = 4 by omega) with rfl | rfl | rfl | rfl | rfl <;> decide
  have e1 := e (0 + l.length) (by omega)
  exact ⟨k.1, Int.lt_of_lt_of_le k.2 e1⟩
/-! the words -/
def rwk (b : List Int) (s p : Nat) : List Int → Nat → Nat → Option Nat
  | [], _, _ => none
  | c :: cs, w, a => if c = 32 then (if a = p then some w else rwk b s p cs (w + 1) s) else rwk b s p cs w (if a < p ∧ b.getD a 0 = c then a + 1 else 161)
theorem rwk_dead {b : List Int} {s p : Nat} (hp : p ≤ 160) : ∀ (u : List Int) (w a : Nat) (r : List Int), (∀ c ∈ u, c ≠ 32) → p < a → rwk b s p (u ++ 32 :: r) w a = rwk b s p r (w + 1) s := by
  intro u
  induction u with
  | nil =>
    intro w a r _ h
    show rwk b s p (32 :: r) w a = _
    unfold rwk
    rw [if_pos rfl, if_neg (by omega)]
    cases r <;> rfl
  | cons c u ih =>
    intro w a r hu h
    show rwk b s p (c :: (u ++ 32 :: r)) w a = _
    conv => lhs; unfold rwk
    rw [if_neg (hu c List.mem_cons_self), if_neg (fun z => absurd z.1 (by omega))]
    exact ih w 161 r (fun y hy => hu y (List.mem_cons_of_mem _ hy)) (by omega)
theorem slc2_c {b : List Int} {a p : Nat} (h : a < p) (hp : p ≤ b.length) : slc2 b a p = b.getD a 0 :: slc2 b (a + 1) p := by
  unfold slc2
  rw [List.drop_eq_getElem_cons (by omega), show p - a = (p - (a + 1)) + 1 by omega, List.take_succ_cons, List.getD_eq_getElem?_getD, List.getElem?_eq_getElem (by omega)]
  rfl
theorem rwk_word {b : List Int} {s p : Nat} (hp : p ≤ 160) (hpb : p ≤ b.length) : ∀ (u : List Int) (w a : Nat) (r : List Int), (∀ c ∈ u, c ≠ 32) → a ≤ p → rwk b s p (u ++ 32 :: r) w a = if slc2 b a p = u then some w else rwk b s p r (w + 1) s := by
  intro u
  induction u with
  | nil =>
    intro w a r _ h
    show rwk b s p (32 :: r) w a = _
    conv => lhs; unfold rwk
    rw [if_pos rfl]
    by_cases q : a = p
    · rw [if_pos q, q, slc2_0, if_pos rfl]
    · rw [if_neg q, slc2_c (by omega) hpb, if_neg (by simp)]
  | cons c u ih =>
    intro w a r hu h
    show rwk b s p (c :: (u ++ 32 :: r)) w a = _
    conv => lhs; unfold rwk
    rw [if_neg (hu c List.mem_cons_self)]
    have hu' := fun y hy => hu y (List.mem_cons_of_mem c hy)
    by_cases q : a < p
    · rw [slc2_c q hpb]
      by_cases e : b.getD a 0 = c
      · rw [if_pos ⟨q, e⟩, ih w (a + 1) r hu' (by omega), e]
        by_cases z : slc2 b (a + 1) p = u
        · rw [if_pos z, if_pos (by rw [z])]
        · rw [if_neg z, if_neg (fun y => z (List.cons.inj y).2)]
      · rw [if_neg (fun z => e z.2), rwk_dead hp u w 161 r hu' (by omega), if_neg (fun y => e (List.cons.inj y).1)]
    · rw [if_neg (fun z => q z.1), rwk_dead hp u w 161 r hu' (by omega), show a = p by omega, slc2_0, if_neg (by simp)]
theorem rwk_all {b : List Int} {s p : Nat} (hp : p ≤ 160) (hpb : p ≤ b.length) (hs : s ≤ p) : ∀ (us : List (List Int)) (w : Nat), (∀ u ∈ us, ∀ c ∈ u, c ≠ 32) → rwk b s p (us.map (fun u => u ++ [32])).flatten w s = wfind (slc2 b s p) us w := by
  intro us
  induction us with
  | nil => intro w _; rfl
  | cons u us ih =>
    intro w hu
    have e : ((u :: us).map (fun u => u ++ [32])).flatten = u ++ 32 :: (us.map (fun u => u ++ [32])).flatten := by simp
    rw [e, rwk_word hp hpb u w s _ (hu u List.mem_cons_self) hs, ih (w + 1) (fun v hv => hu v (List.mem_cons_of_mem _ hv))]
    rfl
theorem wt_str : (WT.map (fun u => u ++ [32])).flatten = d_str1 := by decide +kernel
theorem wt_32 : ∀ u ∈ WT, ∀ c ∈ u, c ≠ 32 := by decide +kernel
theorem rwk_str {b : List Int} {s p : Nat} (hp : p ≤ 160) (hpb : p ≤ b.length) (hs : s ≤ p) : rwk b s p d_str1 0 s = wfind (slc2 b s p) WT 0 := by
  rw [← wt_str]
  exact rwk_all hp hpb hs WT 0 wt_32
