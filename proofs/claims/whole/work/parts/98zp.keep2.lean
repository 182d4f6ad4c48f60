/-! calls that change the state: both sides -/
theorem okTr_mono {n m : Nat} (h : n ≤ m) {t : Tn} (g : okTr n t) : okTr m t := ⟨g.1, g.2.1, Nat.lt_of_lt_of_le g.2.2 h⟩
theorem okTr_set {n : Nat} {t : Tn} (h : okTr n t) (w of v : Int) : okTr n (setS t w of v) := by
  refine ⟨okT_set h.1 w of v, ?_, ?_⟩
  · unfold setS
    by_cases p : setB t w of v = true
    · rw [if_pos p]
      have q := setB_iff.mp p
      unfold setOk at q
      unfold tSet
      by_cases k0 : w = 0
      · rw [if_pos k0]; show v ≤ 999; omega
      rw [if_neg k0]
      by_cases k1 : w = 1
      · rw [if_pos k1]; exact h.2.1
      rw [if_neg k1]
      by_cases k2 : w = 2
      · rw [if_pos k2]; exact h.2.1
      rw [if_neg k2]
      by_cases k3 : w = 3
      · rw [if_pos k3]; exact h.2.1
      · rw [if_neg k3]; exact h.2.1
    · rw [if_neg p]; exact h.2.1
  · unfold setS
    by_cases p : setB t w of v = true
    · rw [if_pos p]
      unfold tSet
      by_cases k0 : w = 0
      · rw [if_pos k0]; exact h.2.2
      rw [if_neg k0]
      by_cases k1 : w = 1
      · rw [if_pos k1]; exact h.2.2
      rw [if_neg k1]
      by_cases k2 : w = 2
      · rw [if_pos k2]; exact h.2.2
      rw [if_neg k2]
      by_cases k3 : w = 3
      · rw [if_pos k3]; exact h.2.2
      · rw [if_neg k3]; exact h.2.2
    · rw [if_neg p]; exact h.2.2
theorem lad_dr (t : Tn) (k n : Int) : tDay (ladS t k n) = tDay t ∧ tRule (ladS t k n) = tRule t := by
  unfold ladS
  repeat' split
  all_goals exact ⟨rfl, rfl⟩
theorem okTr_lad {m : Nat} {t : Tn} (h : okTr m t) (k n : Int) : okTr m (ladS t k n) := ⟨okT_lad h.1 k n, by rw [(lad_dr t k n).1]; exact h.2.1, by rw [(lad_dr t k n).2]; exact h.2.2⟩
theorem okTr_tie {so : Nat → Int} {sl : Nat → List Int} {m : Nat} {t : Tn} (h : okTr m t) (s x y : Int) : okTr m (tieS so sl t s x y) := by
  have e : tDay (tieS so sl t s x y) = tDay t ∧ tRule (tieS so sl t s x y) = tRule t := by
    unfold tieS
    repeat' split
    all_goals exact ⟨rfl, rfl⟩
  exact ⟨okT_tieS h.1 s x y, by rw [e.1]; exact h.2.1, by rw [e.2]; exact h.2.2⟩
theorem okTr_eve {m : Nat} {xs : List (List Int)} {t : Tn} (h : okTr m t) : okTr m (eveS xs t) := by
  have e := evS_1 xs t
  have d := h.2.1
  unfold eveS
  by_cases p : tDay t < 999
  · rw [if_pos p]
    exact ⟨okT_evS h.1 (by omega), by rw [e.1]; omega, by rw [e.2.2.1]; exact h.2.2⟩
  · rw [if_neg p]; exact h
theorem okTr_force {n : Nat} (h6 : n ≤ 6) {t : Tn} (h : okTr n t) (x : Int) : okTr n (forceS n t x) := by
  unfold forceS
  by_cases p : 0 ≤ x ∧ x < (n : Int)
  · rw [if_pos p]
    refine ⟨⟨⟨h.1.1.1, h.1.1.2.1, h.1.1.2.2.1, p.1, ?_, h.1.1.2.2.2.2.2⟩, h.1.2.1, h.1.2.2⟩, h.2.1, ?_⟩
    · show x < 6
      omega
    · show x.toNat < n
      omega
  · rw [if_neg p]; exact h
theorem okTr_gld {l : List Int} {a : Int} {z : Nat} : ∀ (m i c : Nat) {t : Tn}, okTr z t → okTr z (gldR l a m i c t).2 := by
  intro m
  induction m with
  | zero => intro i c t h; exact h
  | succ m ih =>
    intro i c t h
    unfold gldR
    by_cases p : 0 ≤ a ∧ a + 2 * (i : Int) + 2 ≤ (l.length : Int)
    · rw [if_pos p]
      exact ih _ _ (okTr_lad h _ _)
    · rw [if_neg p]; exact h
theorem okTr_guild {so : Nat → Int} {sl : Nat → List Int} {z : Nat} {t : Tn} (h : okTr z t) (s o a n : Int) : okTr z (guildR so sl t s o a n).2 := by
  unfold guildR
  by_cases p1 : 0 ≤ s ∧ s < 4
  · rw [if_pos p1]
    by_cases p2 : 0 ≤ o ∧ o < 3
    · rw [if_pos p2]
      by_cases p3 : 0 ≤ n ∧ n ≤ 5
      · rw [if_pos p3]
        by_cases p4 : so s.toNat = -1
        · rw [if_pos p4]; exact h
        · rw [if_neg p4]
          by_cases p5 : so s.toNat = o
          · rw [if_pos p5]; exact okTr_gld _ _ _ h
          · rw [if_neg p5]; exact h
      · rw [if_neg p3]; exact h
    · rw [if_neg p2]; exact h
  · rw [if_neg p1]; exact h
theorem okB_feed {b : List Int} (h : okB b) (x : Int) : okB (feedS b x) := by
  unfold feedS
  by_cases p : 0 ≤ x ∧ x ≤ 255
  · rw [if_pos p]
    by_cases q : b.length < 160
    · rw [if_pos q]
      refine ⟨by rw [List.length_append, List.length_singleton]; omega, fun c hc => ?_⟩
      rcases List.mem_append.mp hc with z | z
      · exact h.2 c z
      · rw [List.mem_singleton.mp z]; exact p
    · rw [if_neg q]; exact h
  · rw [if_neg p]; exact h
theorem text_len (xs : List (List Int)) (b : List Int) : xs.length ≤ (textS xs b).1.length := by
  unfold textS
  by_cases p : xs.length < 6
  · rw [if_pos p]
    by_cases q : pF (rd b) = -1
    · rw [if_pos q]
      show xs.length ≤ (xs ++ [b]).length
      rw [List.length_append]; omega
    · rw [if_neg q]; exact Nat.le_refl _
  · rw [if_neg p]; exact Nat.le_refl _
/-- further frames -/
theorem WFa.k {M M' : dM} (h : WF 88 1 89 M M') : aT M M' ∧ aK M M' ∧ aX M M' ∧ aS M M' ∧ KPe M M' := by
  have g : ∀ x k : Int, x ≠ 88 → x ≠ 89 → M' x k = M x k := fun x k h1 h2 => h x k (fun z => h1 z.1) h2
  exact ⟨fun x k _ _ => g _ _ (by omega) (by omega), ⟨g _ _ (by omega) (by omega), fun x k _ _ => g _ _ (by omega) (by omega)⟩, ⟨g _ _ (by omega) (by omega), fun x k _ _ => g _ _ (by omega) (by omega)⟩, fun x k _ _ => g _ _ (by omega) (by omega), KPe.of fun x k _ _ => g _ _ (by omega) (by omega)⟩
theorem WFe.k {M M' : dM} (h : WF 107 6 110 M M') : eT M M' ∧ eK M M' ∧ eX M M' ∧ eS M M' ∧ KPa M M' := by
  have g : ∀ x k : Int, ¬ (x = 107 ∧ k = 6) → x ≠ 110 → M' x k = M x k := fun x k h1 h2 => h x k h1 h2
  exact ⟨⟨⟨g _ _ (by decide) (by decide), g _ _ (by decide) (by decide), g _ _ (by decide) (by decide), g _ _ (by decide) (by decide)⟩, fun x k _ _ => g _ _ (by omega) (by omega)⟩, ⟨⟨g _ _ (by decide) (by decide), g _ _ (by decide) (by decide), g _ _ (by decide) (by decide), g _ _ (by decide) (by decide)⟩, fun x k _ _ => g _ _ (by omega) (by omega)⟩, ⟨g _ _ (by decide) (by decide), fun x k _ _ => g _ _ (by omega) (by omega)⟩, fun x k _ _ => g _ _ (by omega) (by omega), KPa.of fun x k _ _ => g _ _ (by omega) (by omega)⟩
theorem FrX.k {M M' : dM} (h : FrX M M') : aT M M' ∧ aK M M' ∧ aS M M' ∧ KPe M M' := by
  have g : ∀ x k : Int, (x < 58 ∨ 88 < x) → M' x k = M x k := fun x k hx => h x k (by omega)
  exact ⟨fun x k _ _ => g _ _ (by omega), ⟨g _ _ (by omega), fun x k _ _ => g _ _ (by omega)⟩, fun x k _ _ => g _ _ (by omega), KPe.of fun x k _ _ => g _ _ (by omega)⟩
theorem FrXr.k {M M' : dM} (h : FrXr M M') : eT M M' ∧ eK M M' ∧ eS M M' ∧ KPa M M' := by
  have g7 : ∀ k : Int, k ≠ 3 → k ≠ 6 → (k < 19 ∨ 27 < k) → M' 107 k = M 107 k := fun k h1 h2 h3 => h _ _ (Or.inr (Or.inl ⟨rfl, h1, h2, h3⟩))
  have g : ∀ x k : Int, (x < 107 ∨ 109 < x) → M' x k = M x k := fun x k hx => h x k (by omega)
  exact ⟨⟨⟨g7 _ (by decide) (by decide) (by decide), g7 _ (by decide) (by decide) (by decide), g7 _ (by decide) (by decide) (by decide), g7 _ (by decide) (by decide) (by decide)⟩, fun x k _ _ => g _ _ (by omega)⟩, ⟨⟨g7 _ (by decide) (by decide) (by decide), g7 _ (by decide) (by decide) (by decide), g7 _ (by decide) (by decide) (by decide), g7 _ (by decide) (by decide) (by decide)⟩, fun x k _ _ => g _ _ (by omega)⟩, fun x k _ _ => g _ _ (by omega), KPa.of fun x k _ _ => g _ _ (by omega)⟩
theorem FK.k {M M' : dM} (h : FK M M') : aX M M' ∧ aB M M' ∧ aS M M' ∧ KPe M M' := by
  have g : ∀ x k : Int, (x = 58 ∨ 63 < x) → M' x k = M x k := fun x k hx => h x k (by omega) (fun z => by unfold tslot at z; omega) (fun z => by unfold tslot at z; omega) (by omega) (by omega) (by omega) (by omega)
  exact ⟨⟨g _ _ (by omega), fun x k _ _ => g _ _ (by omega)⟩, ⟨g _ _ (by omega), fun k => g _ _ (by omega)⟩, fun x k _ _ => g _ _ (by omega), KPe.of fun x k _ _ => g _ _ (by omega)⟩
theorem FI.k {M M' : dM} (h : FI M M') : eT M M' ∧ eX M M' ∧ eB M M' ∧ eS M M' ∧ KPa M M' := by
  have g7 : ∀ k : Int, (k < 38 ∨ 41 < k) → M' 107 k = M 107 k := fun k hk => h _ _ (by decide) (by decide) (by decide) (fun _ => hk)
  have g : ∀ x k : Int, x ≠ 107 → x ≠ 118 → x ≠ 119 → x ≠ 120 → M' x k = M x k := fun x k h0 h1 h2 h3 => h x k h1 h2 h3 (fun z => absurd z h0)
  exact ⟨⟨⟨g7 _ (by decide), g7 _ (by decide), g7 _ (by decide), g7 _ (by decide)⟩, fun x k _ _ => g _ _ (by omega) (by omega) (by omega) (by omega)⟩, ⟨g7 _ (by decide), fun x k _ _ => g _ _ (by omega) (by omega) (by omega) (by omega)⟩, ⟨g7 _ (by decide), fun k => g _ _ (by omega) (by omega) (by omega) (by omega)⟩, fun x k _ _ => g _ _ (by omega) (by omega) (by omega) (by omega), KPa.of fun x k _ _ => g _ _ (by omega) (by omega) (by omega) (by omega)⟩
theorem FSAs.k {M M' : dM} (h : FSAs M M') : aT M M' ∧ aK M M' ∧ aX M M' ∧ aB M M' ∧ KPe M M' := by
  have g : ∀ x k : Int, (x < 60 ∨ (63 < x ∧ x < 99) ∨ 106 < x) → M' x k = M x k := fun x k hx => h x k (by omega) (by omega) (by omega) (by omega) (by omega)
  exact ⟨fun x k _ _ => g _ _ (by omega), ⟨g _ _ (by omega), fun x k _ _ => g _ _ (by omega)⟩, ⟨g _ _ (by omega), fun x k _ _ => g _ _ (by omega)⟩, ⟨g _ _ (by omega), fun k => g _ _ (by omega)⟩, KPe.of fun x k _ _ => g _ _ (by omega)⟩
theorem FSA.s {M M' : dM} (h : FSA M M') : FSAs M M' := fun x k g _ _ _ _ => h x k g
theorem FSRs.k {M M' : dM} (h : FSRs M M') : eT M M' ∧ eK M M' ∧ eX M M' ∧ eB M M' ∧ KPa M M' := by
  have g7 : ∀ k : Int, (k < 13 ∨ 29 < k) → M' 107 k = M 107 k := fun k hk => h _ _ (by decide) (by decide) (fun _ => by omega)
  have g : ∀ x k : Int, x ≠ 107 → x ≠ 114 → x < 121 → M' x k = M x k := fun x k h0 h1 h2 => h x k (by omega) h1 (fun z => absurd z h0)
  exact ⟨⟨⟨g7 _ (by decide), g7 _ (by decide), g7 _ (by decide), g7 _ (by decide)⟩, fun x k _ _ => g _ _ (by omega) (by omega) (by omega)⟩, ⟨⟨g7 _ (by decide), g7 _ (by decide), g7 _ (by decide), g7 _ (by decide)⟩, fun x k _ _ => g _ _ (by omega) (by omega) (by omega)⟩, ⟨g7 _ (by decide), fun x k _ _ => g _ _ (by omega) (by omega) (by omega)⟩, ⟨g7 _ (by decide), fun k => g _ _ (by omega) (by omega) (by omega)⟩, KPa.of fun x k _ _ => g _ _ (by omega) (by omega) (by omega)⟩
theorem FSR.s {M M' : dM} (h : FSR M M') : FSRs M M' := fun x k g _ _ => h x k g
theorem F74.k {M M' : dM} (h : ∀ a k : Int, ¬ (a = 107 ∧ k = 4) → M' a k = M a k) : eK M M' ∧ eX M M' ∧ eB M M' ∧ eS M M' ∧ KPa M M' :=
  ⟨⟨⟨h _ _ (by decide), h _ _ (by decide), h _ _ (by decide), h _ _ (by decide)⟩, fun x k _ _ => h _ _ (by omega)⟩, ⟨h _ _ (by decide), fun x k _ _ => h _ _ (by omega)⟩, ⟨h _ _ (by decide), fun k => h _ _ (by omega)⟩, fun x k _ _ => h _ _ (by omega), KPa.of fun x k _ _ => h _ _ (by omega)⟩
