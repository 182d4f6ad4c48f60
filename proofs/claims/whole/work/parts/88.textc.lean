/-! text, on both sides -/
def cX (t : Nat) (b : List Int) (M : dM) : Prop := TX (64 + 4 * (t : Int)) M (pC (rd b)) ∧ M (64 + 4 * (t : Int) + 3) 0 = en b 0 ∧ M (64 + 4 * (t : Int) + 3) 1 = en b 1 ∧ M (64 + 4 * (t : Int) + 3) 2 = en b 2
def cXs (M : dM) (xs : List (List Int)) : Prop := M 58 1 = xs.length ∧ ∀ (t : Nat) (h : t < xs.length), cX t xs[t] M
def rXs (M : dM) (xs : List (List Int)) : Prop := M 107 3 = xs.length ∧ ∀ (t : Nat) (h : t < xs.length), rX t xs[t] M
def okXs (xs : List (List Int)) : Prop := xs.length ≤ 6 ∧ ∀ b ∈ xs, okB b ∧ pF (rd b) = -1
def textF (xs : List (List Int)) (b : List Int) : Int := if xs.length < 6 then (if pF (rd b) = -1 then (xs.length : Int) else w32 (-100 - pF (rd b))) else -4
def textS (xs : List (List Int)) (b : List Int) : List (List Int) × List Int := if xs.length < 6 then (if pF (rd b) = -1 then (xs ++ [b], []) else (xs, [])) else (xs, b)
theorem isX_t {t : Nat} (h : t < 6) : isX (64 + 4 * (t : Int)) := by
  have key : ∀ t ∈ List.range 6, isX (64 + 4 * ((t : Nat) : Int)) := by unfold isX; decide +kernel
  exact key t (List.mem_range.mpr h)
theorem Sk_04r {M : dM} (h : Sk M) : M 0 4 = 58 ∧ M 58 0 = 59 := by
  have key : ((0, 4, 58) : Int × Int × Int) ∈ SKL ∧ (58, 0, 59) ∈ SKL := by decide +kernel
  exact ⟨h _ key.1, h _ key.2⟩
theorem Sk_59 {M : dM} (h : Sk M) {t : Nat} (ht : t < 6) : M 59 (t : Int) = 64 + 4 * (t : Int) := by
  have key : ∀ t ∈ List.range 6, (59, ((t : Nat) : Int), 64 + 4 * ((t : Nat) : Int)) ∈ SKL := by decide +kernel
  exact h _ (key t (List.mem_range.mpr ht))
theorem cX.fr {t : Nat} {b : List Int} {M M' : dM} (h : cX t b M) (h0 : ∀ k : Int, M' (64 + 4 * (t : Int)) k = M (64 + 4 * (t : Int)) k) (h1 : ∀ k : Int, M' (64 + 4 * (t : Int) + 1) k = M (64 + 4 * (t : Int) + 1) k) (h2 : ∀ k : Int, M' (64 + 4 * (t : Int) + 2) k = M (64 + 4 * (t : Int) + 2) k) (h3 : ∀ k : Int, M' (64 + 4 * (t : Int) + 3) k = M (64 + 4 * (t : Int) + 3) k) : cX t b M' :=
  ⟨⟨(h0 3).trans h.1.1, fun i hi => ⟨(h1 i).trans (h.1.2 i hi).1, (h2 i).trans (h.1.2 i hi).2⟩⟩, (h3 0).trans h.2.1, (h3 1).trans h.2.2.1, (h3 2).trans h.2.2.2⟩
/-- what text may change in the class -/
def FrX (M M' : dM) : Prop := ∀ x k : Int, (x < 58 ∨ (x = 58 ∧ k ≠ 1) ∨ (58 < x ∧ x < 64) ∨ 88 < x) → M' x k = M x k
theorem text_c {sc : dS} {d : Nat} {M : dM} (hs : Sk M) {xs : List (List Int)} {b : List Int} (hx : cXs M xs) (hok : okXs xs) (hb : okB b) (hk : KV 88 1 89 M b) : ∃ M' : dM, vc sc (d + 82) 66 [(2, 0)] (K0, M) = some ([(0, textF xs b)], (K0, M')) ∧ Sk M' ∧ FrX M M' ∧ cXs M' (textS xs b).1 ∧ KV 88 1 89 M' (textS xs b).2 := by
  have hl := hok.1
  have s4 := Sk_04r hs
  rw [vc_s (md := m_X6_text) (L := [(2, 0), (3, 0), (3, 0)]) rfl (Nat.le_of_ble_eq_true rfl) rfl]
  show ∃ M', vr sc (d + 81) c_X6_text (0, [(2, 0), (3, 0), (3, 0)], [], (K0, M)) = _ ∧ _
  rw [e_X6_text_0, if_pos (show og K0 6 0 4 = true from rfl), s4.1, if_pos (show og K0 2 58 1 = true from rfl), hx.1]
  unfold textF textS
  by_cases p : ¬ xs.length < 6
  · rw [if_neg (by omega), if_neg p, if_neg p]
    exact ⟨M, rfl, hs, fun _ _ _ => rfl, hx, hk⟩
  have p := Classical.not_not.mp p
  rw [if_pos (by omega), if_pos p, if_pos p, if_pos (show og K0 6 0 5 = true from rfl), if_pos (show og K0 6 0 4 = true from rfl), if_pos (show og K0 2 58 0 = true from rfl), s4.2, if_pos (ag_of (n := 6) rfl (by omega) (by omega)), (Sk_05 hs).1, if_pos (show rg K0 1 88 = true from rfl), Sk_59 hs p]
  have ho := isX_t p
  obtain ⟨M1, a1, a2, a3, a4, a5, a6, a7⟩ := readInto_ok (sc := sc) (d := d) ho hb.1 hs hk
  rw [a1, Option.bind_some]
  show ∃ M', vr sc (d + 81) c_X6_text (33, [(2, 0), (0, (xs.length : Int)), (3, 0)], [(0, pF (rd b))], (K0, M1)) = _ ∧ _
  have hs1 := a2.sk ho hs
  have s51 := Sk_05 hs1
  have s41 := Sk_04r hs1
  have eo := (isX_k ho).2
  have hold : ∀ (N : dM), (∀ x k : Int, x < 88 → ¬ (x = 58 ∧ k = 1) → N x k = M1 x k) → ∀ (t : Nat) (h : t < xs.length), cX t xs[t] N := by
    intro N hN t h
    have e : ∀ j : Int, 0 ≤ j → j ≤ 3 → ∀ k : Int, N (64 + 4 * (t : Int) + j) k = M (64 + 4 * (t : Int) + j) k := fun j h0 h1 k => (hN _ _ (by omega) (by omega)).trans (a2 _ _ (by omega) (by omega) (by omega) (by omega) (by omega))
    have e0 := e 0 (by decide) (by decide)
    rw [show 64 + 4 * (t : Int) + 0 = 64 + 4 * (t : Int) by omega] at e0
    exact (hx.2 t h).fr e0 (e 1 (by decide) (by decide)) (e 2 (by decide) (by decide)) (e 3 (by decide) (by decide))
  have hkt : ∀ (N : dM), N 88 1 = 0 → KV 88 1 89 N [] := fun N h => ⟨h, rfl⟩
  rw [e_X6_text_33, if_pos (show og K0 6 0 5 = true from rfl), s51.1, if_pos (show og K0 1 88 1 = true from rfl), if_pos (by decide)]
  have hsk2 : ∀ N : dM, Sk N → Sk (d_up N 88 1 0) := fun N h => Sk_of h fun x k hq => by
    unfold d_up
    rw [if_neg]
    rintro ⟨rfl, rfl⟩
    rw [show isRf 88 1 = false by decide +kernel] at hq
    cases hq
  have hsk3 : ∀ (N : dM) (v : Int), Sk N → Sk (d_up N 58 1 v) := fun N v h => Sk_of h fun x k hq => by
    unfold d_up
    rw [if_neg]
    rintro ⟨rfl, rfl⟩
    rw [show isRf 58 1 = false by decide +kernel] at hq
    cases hq
  by_cases q : pF (rd b) = -1
  · have s41' : (d_up M1 88 1 0) 0 4 = 58 := by rw [d_up_n1 _ (by decide)]; exact s41.1
    rw [if_pos q, if_pos q, if_pos q, if_pos (show og K0 6 0 4 = true from rfl), s41', if_pos (show og K0 2 58 1 = true from rfl), w_s _ (by omega), if_pos ⟨by omega, by omega⟩]
    have eN : ∀ x k : Int, ¬ (x = 58 ∧ k = 1) → ¬ (x = 88 ∧ k = 1) → (d_up (d_up M1 88 1 0) 58 1 ((xs.length + 1 : Nat) : Int)) x k = M1 x k := fun x k h1 h2 => (if_neg h1).trans (if_neg h2)
    refine ⟨_, rfl, hsk3 _ _ (hsk2 _ hs1), fun x k h => ?_, ⟨?_, fun t h => ?_⟩, hkt _ ?_⟩
    · rw [eN x k (by omega) (by omega)]
      exact a2 x k (by omega) (by omega) (by omega) (by omega) (by omega)
    · rw [d_up_at, List.length_append]; rfl
    · rw [List.length_append] at h
      by_cases z : t < xs.length
      · rw [List.getElem_append_left z]
        exact hold _ (fun x k hx hn => eN x k hn (by omega)) t z
      · have et : t = xs.length := by simp at h; omega
        subst et
        rw [List.getElem_append_right (Nat.le_refl _)]
        simp only [Nat.sub_self, List.getElem_cons_zero]
        refine ⟨⟨?_, fun i hi => ⟨?_, ?_⟩⟩, ?_, ?_, ?_⟩
        · rw [eN _ _ (by omega) (by omega)]; exact a3.1
        · rw [eN _ _ (by omega) (by omega)]; exact (a3.2 i hi).1
        · rw [eN _ _ (by omega) (by omega)]; exact (a3.2 i hi).2
        · rw [eN _ _ (by omega) (by omega)]; exact a5
        · rw [eN _ _ (by omega) (by omega)]; exact a6
        · rw [eN _ _ (by omega) (by omega)]; exact a7
    · rw [d_up_n1 _ (by decide), d_up_at]
  · rw [if_neg q, if_neg q, if_neg q]
    have eN : ∀ x k : Int, ¬ (x = 88 ∧ k = 1) → (d_up M1 88 1 0) x k = M1 x k := fun x k h2 => if_neg h2
    refine ⟨_, rfl, hsk2 _ hs1, fun x k h => ?_, ⟨?_, fun t h => ?_⟩, hkt _ ?_⟩
    · rw [eN x k (by omega)]
      exact a2 x k (by omega) (by omega) (by omega) (by omega) (by omega)
    · rw [eN _ _ (by decide), a2 58 1 (fun z => absurd z (by decide)) (by omega) (by omega) (by omega) (by omega)]
      exact hx.1
    · exact hold _ (fun x k hx _ => eN x k (by omega)) t h
    · rw [d_up_at]
