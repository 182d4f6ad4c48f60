/-! tie, the reference's side -/
def FrM (M M' : dM) : Prop := ∀ x k : Int, scr x k = false → ¬ (111 ≤ x ∧ x ≤ 113) → M' x k = M x k
theorem Fr.m {M M' : dM} (h : Fr M M') : FrM M M' := fun x k g _ => h x k g
theorem FrM.tr {M M1 M2 : dM} (h1 : FrM M M1) (h2 : FrM M1 M2) : FrM M M2 := fun x k g q => (h2 x k g q).trans (h1 x k g q)
theorem FrM.up {M : dM} {a j v : Int} (h : 111 ≤ a ∧ a ≤ 113) : FrM M (d_up M a j v) := fun x k _ q => d_up_n1 M (fun z => q (by rw [z]; exact h))
theorem Sk_m {M : dM} (hs : Sk M) {a j v : Int} (h : a = 111 ∨ a = 112 ∨ a = 113) : Sk (d_up M a j v) := Sk_of hs fun x k hq => d_up_n1 M (fun z => by
  have e : isRf a k = false := by
    rcases h with rfl | rfl | rfl
    · exact isRf_cell (by decide +kernel) k
    · exact isRf_cell (by decide +kernel) k
    · exact isRf_cell (by decide +kernel) k
  rw [z, e] at hq
  cases hq)
theorem lay_loop {sc : dS} {d : Nat} {v1 v2 v4 : Int} {f : Nat} (hf : f < 6) {l : List Int} (hl : l.length ≤ 12) : ∀ (m i : Nat) (M : dM), l.length - i = m → i ≤ l.length → Sk M → KV 107 29 114 M l → (∀ (j : Nat) (h : j < l.length), j < i → M 113 ((12 * f + j : Nat) : Int) = l[j]) →
    ∃ M' : dM, vr sc d c_X7_tie (78, [(2, 107), (0, v1), (0, v2), (0, (f : Int)), (0, v4), (0, (i : Int))], [], (K0, M)) = vr sc d c_X7_tie (78, [(2, 107), (0, v1), (0, v2), (0, (f : Int)), (0, v4), (0, (l.length : Int))], [], (K0, M')) ∧ Sk M' ∧ (∀ a k : Int, a ≠ 113 → M' a k = M a k) ∧ (∀ j : Int, ¬ (12 * (f : Int) ≤ j ∧ j < 12 * (f : Int) + 12) → M' 113 j = M 113 j) ∧ ∀ (j : Nat) (h : j < l.length), M' 113 ((12 * f + j : Nat) : Int) = l[j] := by
  intro m
  induction m with
  | zero =>
    intro i M hm hi hs hk h1
    have e : i = l.length := by omega
    subst e
    exact ⟨M, rfl, hs, fun _ _ _ => rfl, fun _ _ => rfl, fun j hj => h1 j hj hj⟩
  | succ m ih =>
    intro i M hm hi hs hk h1
    have c1 : ¬ (l.length : Int) ≤ i := by omega
    have hi' : i < l.length := by omega
    rw [e_X7_tie_78, if_pos (show og K0 7 107 29 = true from rfl), hk.1, if_neg c1, if_pos (show og K0 7 107 11 = true from rfl), if_pos (show og K0 7 107 28 = true from rfl), Sk_m28 hs, (Sk_m10 hs).2, if_pos (ag_wd (by omega) (by omega)), w_t12 f i (by omega) (by omega), if_pos (ag_113 (by omega) (by omega)), hk.get hi', w_s i (by omega)]
    obtain ⟨M', g1, g2, g3, g4, g5⟩ := ih (i + 1) (d_up M 113 ((12 * f + i : Nat) : Int) l[i]) (by omega) (by omega) (Sk_m hs (Or.inr (Or.inr rfl))) (hk.up (d_up_n1 _ (by decide)) (fun j _ _ => d_up_n1 _ (by decide))) (fun j hj hji => by
      by_cases q : j = i
      · subst q; rw [d_up_at]
      · rw [d_up_n2 _ (by omega)]; exact h1 j hj (by omega))
    exact ⟨M', g1, g2, fun a k h => (g3 a k h).trans (d_up_n1 _ h), fun j h => (g4 j h).trans (d_up_n2 _ (by omega)), g5⟩
theorem rT_tie {M M2 : dM} {t : Tn} (ht : rT M t) {f : Nat} (hf : f < 6) {w : List Int} {l : Int} (h1 : ∀ a k : Int, a ≠ 113 → M2 a k = d_up (d_up M 112 ((3 * f + 1 : Nat) : Int) l) 112 ((3 * f + 2 : Nat) : Int) (w.length : Int) a k) (h2 : ∀ j : Int, ¬ (12 * (f : Int) ≤ j ∧ j < 12 * (f : Int) + 12) → M2 113 j = M 113 j) (h3 : ∀ (j : Nat) (h : j < w.length), M2 113 ((12 * f + j : Nat) : Int) = w[j]) (hok : okT t) : rT M2 (tTie t f l w) := by
  have g : ∀ a k : Int, a ≠ 112 → a ≠ 113 → M2 a k = M a k := fun a k q1 q2 => by rw [h1 a k q2, d_up_n1 _ q1, d_up_n1 _ q1]
  refine ⟨⟨?_, ?_, ?_, ?_⟩, fun j hj => ?_, fun j hj => ?_⟩
  · rw [g _ _ (by decide) (by decide)]; exact ht.1.1
  · rw [g _ _ (by decide) (by decide)]; exact ht.1.2.1
  · rw [g _ _ (by decide) (by decide)]; exact ht.1.2.2.1
  · rw [g _ _ (by decide) (by decide)]; exact ht.1.2.2.2
  · have k := ht.2.1 j hj
    refine ⟨?_, ?_, ?_⟩
    · rw [g _ _ (by decide) (by decide)]; exact k.1
    · rw [g _ _ (by decide) (by decide)]; exact k.2.1
    · rw [g _ _ (by decide) (by decide)]; exact k.2.2
  · have k := ht.2.2 j hj
    have kl := (hok.2.2 j hj).2.2.2.2.1
    refine ⟨?_, ?_, ?_⟩
    · rw [h1 _ _ (by decide), d_up_n2 _ (by omega), d_up_n2 _ (by omega)]; exact k.1
    · show _ = if j = f then l else tBy t j
      rw [h1 _ _ (by decide), d_up_n2 _ (by omega)]
      by_cases q : j = f
      · rw [if_pos q, q, d_up_at]
      · rw [if_neg q, d_up_n2 _ (by omega)]; exact k.2.1
    · show _ = (((if j = f then w else tKn t j).length : Nat) : Int) ∧ ∀ (k : Nat) (h : k < (if j = f then w else tKn t j).length), M2 113 ((12 * j + k : Nat) : Int) = (if j = f then w else tKn t j)[k]
      rw [h1 _ _ (by decide)]
      by_cases q : j = f
      · subst q
        rw [d_up_at]
        simp only [if_true]
        exact ⟨trivial, h3⟩
      · rw [d_up_n2 _ (by omega), d_up_n2 _ (by omega)]
        simp only [q, if_false]
        exact ⟨k.2.2.1, fun i hi => (h2 _ (by omega)).trans (k.2.2.2 i hi)⟩
