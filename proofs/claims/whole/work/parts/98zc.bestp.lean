/-! best: what is meant, and that both ways of finding it are one -/
def frB (u f : Nat) : Bool := decide (u / 2 ^ f % 2 = 0)
def bf (W : Nat → Nat) (u : Nat) : Nat → Nat
  | 0 => 6
  | i + 1 => if frB u i = true ∧ (bf W u i = 6 ∨ W (bf W u i) < W i) then i else bf W u i
def wv (g : Nat → Nat → Nat) (m : Nat) : Nat → Nat → Nat
  | 0, _ => 0
  | k + 1, u => (fun W : Nat → Nat => W (bf W u 6)) fun f => g (m - (k + 1)) f + wv g m k (u + 2 ^ f)
def Wf (g : Nat → Nat → Nat) (m k u f : Nat) : Nat := g (m - (k + 1)) f + wv g m k (u + 2 ^ f)
theorem wv_s (g : Nat → Nat → Nat) (m k u : Nat) : wv g m (k + 1) u = Wf g m k u (bf (Wf g m k u) u 6) := rfl
def dgt (g : Nat → Nat → Nat) (m : Nat) : Nat → Nat → Nat → Nat
  | 0, _, a => a
  | k + 1, u, a => dgt g m k (u + 2 ^ bf (Wf g m k u) u 6) (10 * a + bf (Wf g m k u) u 6 + 1)
/-- the reference's way: all ways of giving feet, in order -/
def gfd (F : Nat → Nat → (Nat × Int) → (Nat × Int)) (u : Nat) : Nat → (Nat × Int) → (Nat × Int)
  | 0, b => b
  | i + 1, b => if frB u i = true then F u i (gfd F u i b) else gfd F u i b
def gv (g : Nat → Nat → Nat) (m : Nat) : Nat → Nat → Nat → Nat → (Nat × Int) → (Nat × Int)
  | 0, _, a, p, b => if b.2 < (p : Int) then (a, (p : Int)) else b
  | k + 1, u, a, p, b => gfd (fun u f b => gv g m k (u + 2 ^ f) (10 * a + f + 1) (p + g (m - (k + 1)) f) b) u 6 b
theorem bf_le (W : Nat → Nat) (u : Nat) : ∀ i : Nat, i ≤ 6 → bf W u i = 6 ∨ (bf W u i < i ∧ frB u (bf W u i) = true) := by
  intro i
  induction i with
  | zero => intro _; exact Or.inl rfl
  | succ i ih =>
    intro h
    show (if frB u i = true ∧ (bf W u i = 6 ∨ W (bf W u i) < W i) then i else bf W u i) = 6 ∨ ((if frB u i = true ∧ (bf W u i = 6 ∨ W (bf W u i) < W i) then i else bf W u i) < i + 1 ∧ frB u (if frB u i = true ∧ (bf W u i = 6 ∨ W (bf W u i) < W i) then i else bf W u i) = true)
    by_cases p : frB u i = true ∧ (bf W u i = 6 ∨ W (bf W u i) < W i)
    · rw [if_pos p]; exact Or.inr ⟨by omega, p.1⟩
    · rw [if_neg p]
      rcases ih (by omega) with q | q
      · exact Or.inl q
      · exact Or.inr ⟨by omega, q.2⟩
theorem bf_6 (W : Nat → Nat) (u : Nat) : ∀ i : Nat, i ≤ 6 → bf W u i = 6 → ∀ j : Nat, j < i → ¬ frB u j = true := by
  intro i
  induction i with
  | zero => intro _ _ j hj; exact absurd hj (Nat.not_lt_zero j)
  | succ i ih =>
    intro h he j hj
    have he : (if frB u i = true ∧ (bf W u i = 6 ∨ W (bf W u i) < W i) then i else bf W u i) = 6 := he
    by_cases p : frB u i = true ∧ (bf W u i = 6 ∨ W (bf W u i) < W i)
    · rw [if_pos p] at he; omega
    · rw [if_neg p] at he
      by_cases q : j = i
      · subst q
        exact fun z => p ⟨z, Or.inl he⟩
      · exact ih (by omega) he j (by omega)
theorem fr_tab : ∀ u ∈ List.range 64, (popc u < 6 → ∃ f ∈ List.range 6, frB u f = true) ∧ ∀ f ∈ List.range 6, frB u f = true → u + 2 ^ f < 64 ∧ popc (u + 2 ^ f) = popc u + 1 := by decide +kernel
theorem fr_ex {u : Nat} (h : u < 64) (hp : popc u < 6) (W : Nat → Nat) : bf W u 6 < 6 ∧ frB u (bf W u 6) = true := by
  rcases bf_le W u 6 (Nat.le_refl _) with q | q
  · obtain ⟨f, hf, h2⟩ := (fr_tab u (List.mem_range.mpr h)).1 hp
    exact absurd h2 (bf_6 W u 6 (Nat.le_refl _) q f (List.mem_range.mp hf))
  · exact q
theorem fr_nx {u f : Nat} (h : u < 64) (hf : f < 6) (hb : frB u f = true) : u + 2 ^ f < 64 ∧ popc (u + 2 ^ f) = popc u + 1 := (fr_tab u (List.mem_range.mpr h)).2 f (List.mem_range.mpr hf) hb
theorem gv_ok (g : Nat → Nat → Nat) (m : Nat) : ∀ (k u a p : Nat) (b : Nat × Int), u < 64 → popc u + k ≤ 5 → gv g m k u a p b = if b.2 < ((p + wv g m k u : Nat) : Int) then (dgt g m k u a, ((p + wv g m k u : Nat) : Int)) else b := by
  intro k
  induction k with
  | zero => intro u a p b _ _; rfl
  | succ k ih =>
    intro u a p b hu hp
    have key : ∀ i : Nat, i ≤ 6 → gfd (fun u f b => gv g m k (u + 2 ^ f) (10 * a + f + 1) (p + g (m - (k + 1)) f) b) u i b = if bf (Wf g m k u) u i = 6 then b else if b.2 < ((p + Wf g m k u (bf (Wf g m k u) u i) : Nat) : Int) then (dgt g m k (u + 2 ^ bf (Wf g m k u) u i) (10 * a + bf (Wf g m k u) u i + 1), ((p + Wf g m k u (bf (Wf g m k u) u i) : Nat) : Int)) else b := by
      intro i
      induction i with
      | zero => intro _; rfl
      | succ i ihi =>
        intro hi
        have g1 := ihi (by omega)
        unfold gfd bf
        by_cases z : frB u i = true
        · have nx := fr_nx hu (show i < 6 by omega) z
          rw [if_pos z, ih _ _ _ _ nx.1 (by omega), show p + g (m - (k + 1)) i + wv g m k (u + 2 ^ i) = p + Wf g m k u i from Nat.add_assoc _ _ _, g1]
          generalize bf (Wf g m k u) u i = e at *
          by_cases q : e = 6
          · rw [if_pos q, if_pos (show frB u i = true ∧ (e = 6 ∨ Wf g m k u e < Wf g m k u i) from ⟨z, Or.inl q⟩), if_neg (show ¬ i = 6 by omega)]
          by_cases r : Wf g m k u e < Wf g m k u i
          · rw [if_neg q, if_pos (show frB u i = true ∧ (e = 6 ∨ Wf g m k u e < Wf g m k u i) from ⟨z, Or.inr r⟩), if_neg (show ¬ i = 6 by omega)]
            by_cases y : b.2 < ((p + Wf g m k u e : Nat) : Int)
            · rw [if_pos y, if_pos (show ((p + Wf g m k u e : Nat) : Int) < ((p + Wf g m k u i : Nat) : Int) by omega), if_pos (by omega)]
            · rw [if_neg y]
          · rw [if_neg q, if_neg (show ¬ (frB u i = true ∧ (e = 6 ∨ Wf g m k u e < Wf g m k u i)) from fun x => x.2.elim q r), if_neg q]
            by_cases y : b.2 < ((p + Wf g m k u e : Nat) : Int)
            · rw [if_pos y, if_neg (show ¬ ((p + Wf g m k u e : Nat) : Int) < ((p + Wf g m k u i : Nat) : Int) by omega)]
            · rw [if_neg y, if_neg (by omega)]
        · rw [if_neg z, if_neg (show ¬ (frB u i = true ∧ (bf (Wf g m k u) u i = 6 ∨ Wf g m k u (bf (Wf g m k u) u i) < Wf g m k u i)) from fun x => z x.1), g1]
    have k6 := key 6 (Nat.le_refl _)
    have ex := fr_ex hu (by omega) (Wf g m k u)
    rw [if_neg (by omega)] at k6
    exact k6
theorem wv_le (g : Nat → Nat → Nat) (m : Nat) (hg : ∀ l f, g l f ≤ 1) : ∀ (k u : Nat), wv g m k u ≤ k := by
  intro k
  induction k with
  | zero => intro u; exact Nat.le_refl _
  | succ k ih =>
    intro u
    rw [wv_s]
    have h1 := hg (m - (k + 1)) (bf (Wf g m k u) u 6)
    have h2 := ih (u + 2 ^ bf (Wf g m k u) u 6)
    show g _ _ + wv g m k _ ≤ _
    omega
