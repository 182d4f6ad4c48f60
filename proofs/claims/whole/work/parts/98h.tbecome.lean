/-! a town becomes another -/
theorem isT_far {A B : Int} (hA : isT A) (hB : isT B) (h : A ≠ B) : A + 19 ≤ B ∨ B + 19 ≤ A := by
  have a := isT_c hA
  have b := isT_c hB
  omega
theorem cT_far {A B : Int} (hA : isT A) (hB : isT B) (h : A ≠ B) {M M' : dM} {t : Tn} (ht : cT M B t) (hf : FT A M M') : cT M' B t := by
  have far := isT_far hA hB h
  have b := isT_c hB
  have e : ∀ x : Int, B ≤ x → x ≤ B + 18 → ∀ k, M' x k = M x k := fun x h0 h1 k => hf x k (fun z => by unfold tslot at z; omega) (by omega) (by omega) (by omega) (by omega)
  refine ⟨⟨(e B (by omega) (by omega) _).trans ht.1.1, (e B (by omega) (by omega) _).trans ht.1.2.1, (e B (by omega) (by omega) _).trans ht.1.2.2.1, (e B (by omega) (by omega) _).trans ht.1.2.2.2⟩, fun l hl => ?_, fun f hq => ?_⟩
  · have g := ht.2.1 l hl
    exact ⟨(e _ (by omega) (by omega) _).trans g.1, (e _ (by omega) (by omega) _).trans g.2.1, (e _ (by omega) (by omega) _).trans g.2.2⟩
  · have g := ht.2.2 f hq
    exact ⟨(e _ (by omega) (by omega) _).trans g.1, (e _ (by omega) (by omega) _).trans g.2.1, g.2.2.up (e _ (by omega) (by omega) _) fun j _ _ => e _ (by omega) (by omega) _⟩
theorem cpy_at {M : dM} {x y n k : Int} (h0 : 0 ≤ k) (h1 : k < n) : d_cpy M x 0 y 0 n y k = M x k := by
  unfold d_cpy
  rw [if_pos ⟨rfl, h0, by omega⟩, Int.zero_add, Int.sub_zero]
theorem cpy_n {M : dM} {x y n p k : Int} (h : p ≠ y) : d_cpy M x 0 y 0 n p k = M p k := by
  unfold d_cpy
  rw [if_neg (fun z => h z.1)]
theorem cg_of {x y : Int} {c cy n : Nat} (hx : kc K0 x = some (8, c)) (hy : kc K0 y = some (8, cy)) (h1 : n ≤ c) (h2 : n ≤ cy) : cg K0 x 0 y 0 (n : Int) = true := by
  unfold cg
  rw [hx, hy]
  exact decide_eq_true ⟨rfl, rfl, by omega, by omega, by omega, by omega, by omega⟩
theorem cg_5 {x y : Int} (hx : kc K0 x = some (8, 5)) (hy : kc K0 y = some (8, 5)) : cg K0 x 0 y 0 5 = true := cg_of (n := 5) hx hy (by decide) (by decide)
theorem cg_6 {x y : Int} (hx : kc K0 x = some (8, 6)) (hy : kc K0 y = some (8, 6)) : cg K0 x 0 y 0 6 = true := cg_of (n := 6) hx hy (by decide) (by decide)
def HA (M : dM) (A : Int) (t : Tn) : Prop := (M A 0 = tDay t ∧ M A 1 = tWet t ∧ M A 2 = tRule t ∧ M A 3 = (tMany t : Int)) ∧ (∀ l : Nat, l < 5 → M (A + 1) l = tKind t l ∧ M (A + 2) l = tNum t l ∧ M (A + 3) l = tSkl t l) ∧ ∀ f : Nat, f < 6 → M (A + 4) f = tWlk t f ∧ M (A + 5) f = tBy t f
theorem tbecome_loop {sc : dS} {d : Nat} {A B : Int} (hA : isT A) (hB : isT B) (hAB : A ≠ B) {t : Tn} (hok : okT t) : ∀ (m i : Nat) (M : dM), 6 - i = m → i ≤ 6 → Sk M → cT M B t → HA M A t → (∀ f : Nat, f < i → KV (A + 7 + 2 * (f : Int)) 1 (A + 7 + 2 * (f : Int) + 1) M (tKn t f)) →
    ∃ M' : dM, vr sc (d + 1) c_X5_become (106, [(2, A), (2, B), (0, (i : Int))], [], (K0, M)) = some ([], (K0, M')) ∧ FT A M M' ∧ cT M' A t := by
  have a := isT_c hA
  intro m
  induction m with
  | zero =>
    intro i M hm hi hs ht hh hk
    have e : i = 6 := by omega
    subst e
    rw [e_X5_become_106, if_pos (by decide)]
    exact ⟨M, rfl, FT.rf _ _, hh.1, hh.2.1, fun f hf => ⟨(hh.2.2 f hf).1, (hh.2.2 f hf).2, hk f hf⟩⟩
  | succ m ih =>
    intro i M hm hi hs ht hh hk
    have hi' : i < 6 := by omega
    have ka := isT_kn hA hi'
    have kb := isT_kn hB hi'
    obtain ⟨M1, a1, a2, a3⟩ := become_ok (sc := sc) (d := d) ka kb hs (hok.2.2 i hi').2.2.2.2.1 (ht.2.2 i hi').2.2
    have f1 : FT A M M1 := fun x k g _ _ _ _ => a2 x k (fun z => g (Or.inr (Or.inr (by omega)))) (fun z => g (Or.inr (Or.inr (by omega))))
    have e1 : ∀ x k : Int, x ≤ A + 6 → M1 x k = M x k := fun x k hx => a2 x k (fun z => by omega) (by omega)
    obtain ⟨M2, b1, b2, b3⟩ := ih (i + 1) M1 (by omega) (by omega) (f1.sk hA hs) (cT_far hA hB hAB ht f1)
      ⟨⟨(e1 _ _ (by omega)).trans hh.1.1, (e1 _ _ (by omega)).trans hh.1.2.1, (e1 _ _ (by omega)).trans hh.1.2.2.1, (e1 _ _ (by omega)).trans hh.1.2.2.2⟩, fun l hl => ⟨(e1 _ _ (by omega)).trans (hh.2.1 l hl).1, (e1 _ _ (by omega)).trans (hh.2.1 l hl).2.1, (e1 _ _ (by omega)).trans (hh.2.1 l hl).2.2⟩, fun f hf => ⟨(e1 _ _ (by omega)).trans (hh.2.2 f hf).1, (e1 _ _ (by omega)).trans (hh.2.2 f hf).2⟩⟩
      (fun f hf => by
        by_cases q : f = i
        · subst q; exact a3
        · exact (hk f (by omega)).up (a2 _ _ (fun z => by omega) (by omega)) fun j _ _ => a2 _ _ (fun z => by omega) (by omega))
    rw [e_X5_become_106, if_neg (by omega), if_pos (og_tn hA (by decide)), (Sk_T hs hA).2.2.2.2.2, if_pos (ag_t6 hA (by omega) (by omega)), if_pos (og_tn hB (by decide)), (Sk_T hs hB).2.2.2.2.2, if_pos (ag_t6 hB (by omega) (by omega)), Sk_Tk hs hA hi', Sk_Tk hs hB hi', if_pos (rg_kn ka), a1, Option.bind_some]
    show ∃ M', vr sc (d + 1) c_X5_become (127, [(2, A), (2, B), (0, (i : Int))], [], (K0, M1)) = _ ∧ _
    rw [e_X5_become_127, w_s i (by omega)]
    exact ⟨M2, b1, f1.tr b2, b3⟩
theorem tbecome_ok {sc : dS} {d : Nat} {A B : Int} (hA : isT A) (hB : isT B) (hAB : A ≠ B) {M : dM} (hs : Sk M) {t : Tn} (ht : cT M B t) (hok : okT t) : ∃ M' : dM, vc sc (d + 2) 52 [(2, A), (2, B)] (K0, M) = some ([], (K0, M')) ∧ FT A M M' ∧ cT M' A t := by
  have a := isT_c hA
  have b := isT_c hB
  have far := isT_far hA hB hAB
  have o1 := hok.1
  have ka := isT_kc hA
  have kb := isT_kc hB
  have ga : ∀ b : Nat, b < 10 → og K0 5 A b = true := fun b hb => og_tn hA hb
  have gb : ∀ b : Nat, b < 10 → og K0 5 B b = true := fun b hb => og_tn hB hb
  rw [vc_s (md := m_X5_become) (L := [(2, A), (2, B), (3, 0)]) rfl (Nat.le_of_ble_eq_true rfl) rfl]
  show ∃ M', vr sc (d + 1) c_X5_become (0, [(2, A), (2, B), (3, 0)], [], (K0, M)) = _ ∧ _
  have up : ∀ (N : dM) (k v : Int), 0 ≤ k ∧ k ≤ 3 → Sk N → cT N B t → FT A M N → Sk (d_up N A k v) ∧ cT (d_up N A k v) B t ∧ FT A M (d_up N A k v) := fun N k v hk h1 h2 h3 => by
    have f : FT A N (d_up N A k v) := FT.up (Or.inl ⟨rfl, hk.1, hk.2⟩) v
    exact ⟨f.sk hA h1, cT_far hA hB hAB h2 f, h3.tr f⟩
  have cp : ∀ (N : dM) (x y n : Int), A + 1 ≤ y ∧ y ≤ A + 5 → Sk N → cT N B t → FT A M N → Sk (d_cpy N x 0 y 0 n) ∧ cT (d_cpy N x 0 y 0 n) B t ∧ FT A M (d_cpy N x 0 y 0 n) := fun N x y n hk h1 h2 h3 => by
    have f : FT A N (d_cpy N x 0 y 0 n) := fun p q g _ _ _ _ => cpy_n (fun z => g (Or.inr (Or.inl (by omega))))
    exact ⟨f.sk hA h1, cT_far hA hB hAB h2 f, h3.tr f⟩
  rw [e_X5_become_0, if_pos (gb 0 (by decide)), if_pos (ga 0 (by decide)), ht.1.1, if_pos ⟨by omega, by omega⟩, if_pos (gb 1 (by decide)), if_pos (ga 1 (by decide))]
  have k1 := up M 0 (tDay t) (by decide) hs ht (FT.rf _ _)
  have n1 : (d_up M A 0 (tDay t)) A 0 = tDay t := d_up_at _ _ _ _
  generalize d_up M A 0 (tDay t) = M1 at *
  rw [k1.2.1.1.2.1, if_pos ⟨by omega, by omega⟩, if_pos (gb 2 (by decide)), if_pos (ga 2 (by decide))]
  have k2 := up M1 1 (tWet t) (by decide) k1.1 k1.2.1 k1.2.2
  have n20 : (d_up M1 A 1 (tWet t)) A 0 = tDay t := (d_up_n2 _ (by decide)).trans n1
  have n21 : (d_up M1 A 1 (tWet t)) A 1 = tWet t := d_up_at _ _ _ _
  generalize d_up M1 A 1 (tWet t) = M2 at *
  rw [k2.2.1.1.2.2.1, if_pos ⟨by omega, by omega⟩, if_pos (gb 3 (by decide)), if_pos (ga 3 (by decide))]
  have k3 := up M2 2 (tRule t) (by decide) k2.1 k2.2.1 k2.2.2
  have n30 : (d_up M2 A 2 (tRule t)) A 0 = tDay t := (d_up_n2 _ (by decide)).trans n20
  have n31 : (d_up M2 A 2 (tRule t)) A 1 = tWet t := (d_up_n2 _ (by decide)).trans n21
  have n32 : (d_up M2 A 2 (tRule t)) A 2 = tRule t := d_up_at _ _ _ _
  generalize d_up M2 A 2 (tRule t) = M3 at *
  rw [k3.2.1.1.2.2.2, if_pos ⟨by omega, by omega⟩, if_pos (gb 4 (by decide)), if_pos (ga 4 (by decide))]
  have k4 := up M3 3 (tMany t : Int) (by decide) k3.1 k3.2.1 k3.2.2
  have n40 : (d_up M3 A 3 (tMany t : Int)) A 0 = tDay t := (d_up_n2 _ (by decide)).trans n30
  have n41 : (d_up M3 A 3 (tMany t : Int)) A 1 = tWet t := (d_up_n2 _ (by decide)).trans n31
  have n42 : (d_up M3 A 3 (tMany t : Int)) A 2 = tRule t := (d_up_n2 _ (by decide)).trans n32
  have n43 : (d_up M3 A 3 (tMany t : Int)) A 3 = (tMany t : Int) := d_up_at _ _ _ _
  generalize d_up M3 A 3 (tMany t : Int) = M4 at *
  rw [(Sk_T k4.1 hA).1, (Sk_T k4.1 hB).1, if_pos (cg_5 kb.2.1 ka.2.1), if_pos (gb 5 (by decide)), if_pos (ga 5 (by decide))]
  have k5 := cp M4 (B + 1) (A + 1) 5 (by omega) k4.1 k4.2.1 k4.2.2
  have e5 : ∀ p q : Int, p ≠ A + 1 → (d_cpy M4 (B + 1) 0 (A + 1) 0 5) p q = M4 p q := fun p q h => cpy_n h
  have n5 : ∀ l : Nat, l < 5 → (d_cpy M4 (B + 1) 0 (A + 1) 0 5) (A + 1) l = tKind t l := fun l hl => (cpy_at (by omega) (by omega)).trans (k4.2.1.2.1 l hl).1
  generalize d_cpy M4 (B + 1) 0 (A + 1) 0 5 = M5 at *
  rw [(Sk_T k5.1 hA).2.1, (Sk_T k5.1 hB).2.1, if_pos (cg_5 kb.2.2.1 ka.2.2.1), if_pos (gb 6 (by decide)), if_pos (ga 6 (by decide))]
  have k6 := cp M5 (B + 2) (A + 2) 5 (by omega) k5.1 k5.2.1 k5.2.2
  have e6 : ∀ p q : Int, p ≠ A + 2 → (d_cpy M5 (B + 2) 0 (A + 2) 0 5) p q = M5 p q := fun p q h => cpy_n h
  have n6 : ∀ l : Nat, l < 5 → (d_cpy M5 (B + 2) 0 (A + 2) 0 5) (A + 2) l = tNum t l := fun l hl => (cpy_at (by omega) (by omega)).trans (k5.2.1.2.1 l hl).2.1
  generalize d_cpy M5 (B + 2) 0 (A + 2) 0 5 = M6 at *
  rw [(Sk_T k6.1 hA).2.2.1, (Sk_T k6.1 hB).2.2.1, if_pos (cg_5 kb.2.2.2.1 ka.2.2.2.1), if_pos (gb 7 (by decide)), if_pos (ga 7 (by decide))]
  have k7 := cp M6 (B + 3) (A + 3) 5 (by omega) k6.1 k6.2.1 k6.2.2
  have e7 : ∀ p q : Int, p ≠ A + 3 → (d_cpy M6 (B + 3) 0 (A + 3) 0 5) p q = M6 p q := fun p q h => cpy_n h
  have n7 : ∀ l : Nat, l < 5 → (d_cpy M6 (B + 3) 0 (A + 3) 0 5) (A + 3) l = tSkl t l := fun l hl => (cpy_at (by omega) (by omega)).trans (k6.2.1.2.1 l hl).2.2
  generalize d_cpy M6 (B + 3) 0 (A + 3) 0 5 = M7 at *
  rw [(Sk_T k7.1 hA).2.2.2.1, (Sk_T k7.1 hB).2.2.2.1, if_pos (cg_6 kb.2.2.2.2.1 ka.2.2.2.2.1), if_pos (gb 8 (by decide)), if_pos (ga 8 (by decide))]
  have k8 := cp M7 (B + 4) (A + 4) 6 (by omega) k7.1 k7.2.1 k7.2.2
  have e8 : ∀ p q : Int, p ≠ A + 4 → (d_cpy M7 (B + 4) 0 (A + 4) 0 6) p q = M7 p q := fun p q h => cpy_n h
  have n8 : ∀ f : Nat, f < 6 → (d_cpy M7 (B + 4) 0 (A + 4) 0 6) (A + 4) f = tWlk t f := fun l hl => (cpy_at (by omega) (by omega)).trans (k7.2.1.2.2 l hl).1
  generalize d_cpy M7 (B + 4) 0 (A + 4) 0 6 = M8 at *
  rw [(Sk_T k8.1 hA).2.2.2.2.1, (Sk_T k8.1 hB).2.2.2.2.1, if_pos (cg_6 kb.2.2.2.2.2.1 ka.2.2.2.2.2.1)]
  have k9 := cp M8 (B + 5) (A + 5) 6 (by omega) k8.1 k8.2.1 k8.2.2
  have e9 : ∀ p q : Int, p ≠ A + 5 → (d_cpy M8 (B + 5) 0 (A + 5) 0 6) p q = M8 p q := fun p q h => cpy_n h
  have n9 : ∀ f : Nat, f < 6 → (d_cpy M8 (B + 5) 0 (A + 5) 0 6) (A + 5) f = tBy t f := fun l hl => (cpy_at (by omega) (by omega)).trans (k8.2.1.2.2 l hl).2.1
  generalize d_cpy M8 (B + 5) 0 (A + 5) 0 6 = M9 at *
  have eA : ∀ q : Int, M9 A q = M4 A q := fun q => by rw [e9 _ _ (by omega), e8 _ _ (by omega), e7 _ _ (by omega), e6 _ _ (by omega), e5 _ _ (by omega)]
  obtain ⟨M', g1, g2, g3⟩ := tbecome_loop (sc := sc) (d := d) hA hB hAB hok 6 0 M9 rfl (by omega) k9.1 k9.2.1
    ⟨⟨(eA _).trans n40, (eA _).trans n41, (eA _).trans n42, (eA _).trans n43⟩, fun l hl => ⟨by rw [e9 _ _ (by omega), e8 _ _ (by omega), e7 _ _ (by omega), e6 _ _ (by omega)]; exact n5 l hl, by rw [e9 _ _ (by omega), e8 _ _ (by omega), e7 _ _ (by omega)]; exact n6 l hl, by rw [e9 _ _ (by omega), e8 _ _ (by omega)]; exact n7 l hl⟩, fun f hf => ⟨by rw [e9 _ _ (by omega)]; exact n8 f hf, n9 f hf⟩⟩
    (fun f hf => absurd hf (Nat.not_lt_zero f))
  exact ⟨M', g1, k9.2.2.tr g2, g3⟩
