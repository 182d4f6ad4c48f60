/-! the relation at the start -/
def t00 : Tn := ((0, 0, 0, 0), (fun _ => 0), (fun _ => 0), (fun _ => 0), (fun _ => 10), (fun _ => -1), (fun _ => []))
theorem FL_s : ∀ q ∈ SKL, q ∈ FL := by decide +kernel
theorem FL_1 : ((1, 0, 0) ∈ FL ∧ (1, 1, 0) ∈ FL ∧ (1, 2, 0) ∈ FL ∧ (1, 3, 0) ∈ FL ∧ (0, 3, 0) ∈ FL ∧ (58, 1, 1) ∈ FL ∧ (88, 1, 0) ∈ FL) := by decide +kernel
theorem FL_2 : ((107, 7, 0) ∈ FL ∧ (107, 8, 0) ∈ FL ∧ (107, 4, 0) ∈ FL ∧ (107, 12, 0) ∈ FL ∧ (107, 38, -1) ∈ FL ∧ (107, 3, 1) ∈ FL ∧ (107, 6, 0) ∈ FL ∧ (109, 0, 56) ∈ FL) := by decide +kernel
theorem FL_3 : ∀ l ∈ List.range 5, (((2, ((l : Nat) : Int), 0) ∈ FL ∧ (3, ((l : Nat) : Int), 0) ∈ FL ∧ (4, ((l : Nat) : Int), 0) ∈ FL) ∧ (111, ((3 * l : Nat) : Int), 0) ∈ FL ∧ (111, ((3 * l + 1 : Nat) : Int), 0) ∈ FL ∧ (111, ((3 * l + 2 : Nat) : Int), 0) ∈ FL) := by decide +kernel
theorem FL_4 : ∀ f ∈ List.range 6, (((5, ((f : Nat) : Int), 10) ∈ FL ∧ (6, ((f : Nat) : Int), -1) ∈ FL ∧ (8 + 2 * ((f : Nat) : Int), 1, 0) ∈ FL) ∧ (112, ((3 * f : Nat) : Int), 10) ∈ FL ∧ (112, ((3 * f + 1 : Nat) : Int), -1) ∈ FL ∧ (112, ((3 * f + 2 : Nat) : Int), 0) ∈ FL) := by decide +kernel
theorem FL_5 : ∀ s ∈ List.range 4, ((99 + 2 * ((s : Nat) : Int), 1, -1) ∈ FL ∧ (99 + 2 * ((s : Nat) : Int), 2, 0) ∈ FL ∧ (121, ((s : Nat) : Int), 0) ∈ FL) := by decide +kernel
theorem FL_6 : ((64, 3, ((pC (rd b00)).length : Int)) ∈ FL ∧ (67, 0, ((en b00 0 : Nat) : Int)) ∈ FL ∧ (67, 1, ((en b00 1 : Nat) : Int)) ∈ FL ∧ (67, 2, ((en b00 2 : Nat) : Int)) ∈ FL) := by decide +kernel
theorem FL_7 : ∀ i ∈ List.range (pC (rd b00)).length, ((65, ((i : Nat) : Int), ((pC (rd b00)).getD i (0, 0)).1) ∈ FL ∧ (66, ((i : Nat) : Int), ((pC (rd b00)).getD i (0, 0)).2) ∈ FL) := by decide +kernel
theorem FL_8 : ∀ i ∈ List.range 56, (108, ((i : Nat) : Int), b00.getD i 0) ∈ FL := by decide +kernel
theorem b00_ok : okB b00 ∧ pF (rd b00) = -1 ∧ b00.length = 56 := by
  unfold okB
  decide +kernel
theorem cX_0 {M : dM} {b : List Int} (h1 : M 64 3 = ((pC (rd b)).length : Int)) (h2 : M 67 0 = ((en b 0 : Nat) : Int)) (h3 : M 67 1 = ((en b 1 : Nat) : Int)) (h4 : M 67 2 = ((en b 2 : Nat) : Int)) (h5 : ∀ i : Nat, i < (pC (rd b)).length → M 65 i = ((pC (rd b)).getD i (0, 0)).1 ∧ M 66 i = ((pC (rd b)).getD i (0, 0)).2) : cX 0 b M :=
  ⟨⟨h1, fun i hi => by
    have e : (pC (rd b)).getD i (0, 0) = (pC (rd b))[i] := by rw [List.getD_eq_getElem?_getD, List.getElem?_eq_getElem hi]; rfl
    rw [← e]
    exact h5 i hi⟩, h2, h3, h4⟩
theorem rX_0 {M : dM} {b : List Int} (h1 : M 109 0 = (b.length : Int)) (h2 : ∀ i : Nat, i < b.length → M 108 i = b.getD i 0) : rX 0 b M :=
  ⟨h1, fun i hi => by
    have e : b.getD i 0 = b[i] := by rw [List.getD_eq_getElem?_getD, List.getElem?_eq_getElem hi]; rfl
    rw [← e, show 160 * 0 + i = i by omega]
    exact h2 i hi⟩
theorem one_l {P : (t : Nat) → (t < 1) → Prop} (h : P 0 (by decide)) : ∀ (t : Nat) (ht : t < 1), P t ht := fun t ht => by
  have e : t = 0 := by omega
  subst e
  exact h
theorem F_at {M : dM} (F : ∀ q ∈ FL, M q.1 q.2.1 = q.2.2) {x k v : Int} (h : (x, k, v) ∈ FL) : M x k = v := F _ h
theorem Inv_0 {M : dM} (F : ∀ q ∈ FL, M q.1 q.2.1 = q.2.2) : Inv M := by
  obtain ⟨c1, c2, c3, c4, c5, c6, c7⟩ := FL_1
  obtain ⟨r1, r2, r3, r4, r5, r6, r7, r8⟩ := FL_2
  obtain ⟨x1, x2, x3, x4⟩ := FL_6
  obtain ⟨o1, o2, o3⟩ := b00_ok
  have okt : okTr ([b00] : List (List Int)).length t00 := ⟨⟨by decide, fun l _ => (by decide : (0 : Int) ≤ 0 ∧ (0 : Int) < 6 ∧ (0 : Int) ≤ 0 ∧ (0 : Int) ≤ 9 ∧ (0 : Int) ≤ 0 ∧ (0 : Int) ≤ 99), fun f _ => ⟨(by decide : (0 : Int) ≤ 10), (by decide : (10 : Int) ≤ 99), (by decide : (-1 : Int) ≤ -1), (by decide : (-1 : Int) < 0), (by decide : 0 ≤ 12), fun y hy => by cases hy⟩⟩, (by decide : (0 : Int) ≤ 999), (by decide : 0 < 1)⟩
  refine ⟨t00, none, [b00], [], (fun _ => -1), (fun _ => []), fun q hq => F q (FL_s q hq), ⟨okt, (fun k hk => by cases hk), ⟨(by decide : 1 ≤ 6), (fun b hb => by rw [List.mem_singleton.mp hb]; exact ⟨o1, o2⟩)⟩, ⟨by decide, (fun c hc => by cases hc)⟩, fun n _ => (by decide : (-1 : Int) ≤ -1 ∧ (-1 : Int) ≤ 2 ∧ 0 ≤ 40)⟩, ⟨?_, ?_, ?_, ?_, ?_⟩, ⟨?_, ?_, ?_, ?_, ?_⟩⟩
  · exact ⟨⟨F _ c1, F _ c2, F _ c3, F _ c4⟩, fun l hl => by
      have g := (FL_3 l (List.mem_range.mpr hl)).1
      exact ⟨F _ g.1, F _ g.2.1, F _ g.2.2⟩, fun f hf => by
      have g := (FL_4 f (List.mem_range.mpr hf)).1
      exact ⟨F _ g.1, F _ g.2.1, F _ g.2.2, rfl⟩⟩
  · exact F _ c5
  · exact ⟨F _ c6, one_l (P := fun t ht => cX t ([b00] : List (List Int))[t] M) (cX_0 (b := b00) (F_at F x1) (F_at F x2) (F_at F x3) (F_at F x4) fun i hi => by
      have g := FL_7 i (List.mem_range.mpr hi)
      exact ⟨F_at F g.1, F_at F g.2⟩)⟩
  · exact ⟨F _ c7, rfl⟩
  · intro n hn
    have g := FL_5 n (List.mem_range.mpr hn)
    exact ⟨F _ g.1, F _ g.2.1, rfl⟩
  · exact ⟨⟨F _ r1, F _ r2, F _ r3, F _ r4⟩, fun l hl => by
      have g := (FL_3 l (List.mem_range.mpr hl)).2
      exact ⟨F _ g.1, F _ g.2.1, F _ g.2.2⟩, fun f hf => by
      have g := (FL_4 f (List.mem_range.mpr hf)).2
      exact ⟨F _ g.1, F _ g.2.1, F _ g.2.2, fun k hk => absurd hk (Nat.not_lt_zero k)⟩⟩
  · exact F _ r5
  · refine ⟨F _ r6, one_l (P := fun t ht => rX t ([b00] : List (List Int))[t] M) (rX_0 ?_ fun i hi => ?_)⟩
    · show M 109 0 = (b00.length : Int)
      rw [o3]
      exact F _ r8
    · have hi : i < b00.length := hi
      rw [o3] at hi
      exact F _ (FL_8 i (List.mem_range.mpr hi))
  · exact ⟨F _ r7, rfl⟩
  · intro n hn
    have g := FL_5 n (List.mem_range.mpr hn)
    refine ⟨(F _ g.2.2).trans ?_, fun z => absurd (show (0 : Int) ≤ -1 from z) (by decide)⟩
    show (0 : Int) = bi ((0 : Int) ≤ -1)
    unfold bi
    rw [if_neg (by decide)]
theorem mem_dt {α : Type} {l : List α} {i a n : Nat} (h : i < l.length) (h1 : a ≤ i) (h2 : i < a + n) : l[i] ∈ (l.drop a).take n := by
  rw [List.mem_iff_getElem?]
  refine ⟨i - a, ?_⟩
  rw [List.getElem?_take_of_lt (by omega), List.getElem?_drop, show a + (i - a) = i by omega, List.getElem?_eq_getElem h]
theorem oT_of {f : dC → Bool} : ∀ {o : Option dC}, oT f o = true → ∃ x, o = some x ∧ f x = true
  | some x, h => ⟨x, rfl, h⟩
theorem FL_len : FL.length = 290 := by decide +kernel
theorem FT_of {a n : Nat} {x : dC} (h : FT0 a n x = true) : ∀ (i : Nat) (hi : i < FL.length), a ≤ i → i < a + n → x.2.2.2.2 (FL[i]).1 (FL[i]).2.1 = (FL[i]).2.2 := fun i hi h1 h2 => by
  unfold FT0 at h
  exact eq_of_beq (List.all_eq_true.mp h _ (mem_dt hi h1 h2))
theorem i_end : ∃ M, iGo = some (18, [(2, 1000001), (2, 0), (2, 107), (0, 0)], [], (K0, M)) ∧ ∀ q ∈ FL, M q.1 q.2.1 = q.2.2 := by
  obtain ⟨x, hx, h0⟩ := oT_of ik_0
  obtain ⟨y, hy, h1⟩ := oT_of ik_1
  obtain ⟨z, hz, h2⟩ := oT_of ik_2
  rw [hx] at hy hz
  have ey := Option.some.inj hy
  have ez := Option.some.inj hz
  subst ey
  subst ez
  have h0 : (IT x && FT0 0 118 x) = true := h0
  rw [Bool.and_eq_true] at h0
  obtain ⟨hi, h0⟩ := h0
  obtain ⟨pc, L, st, K, M⟩ := x
  have hi : ((((pc == 18 && L == [(2, 1000001), (2, 0), (2, 107), (0, 0)]) && st == []) && K == K0)) = true := hi
  rw [Bool.and_eq_true, Bool.and_eq_true, Bool.and_eq_true] at hi
  obtain ⟨⟨⟨i1, i2⟩, i3⟩, i4⟩ := hi
  have i1 := eq_of_beq i1
  have i2 := eq_of_beq i2
  have i3 := eq_of_beq i3
  have i4 := eq_of_beq i4
  subst i1
  subst i2
  subst i3
  subst i4
  refine ⟨M, hx, fun q hq => ?_⟩
  obtain ⟨i, hi, rfl⟩ := List.getElem_of_mem hq
  have hl := hi
  rw [FL_len] at hl
  by_cases p1 : i < 118
  · exact FT_of h0 i hi (by omega) (by omega)
  · by_cases p2 : i < 178
    · exact FT_of h1 i hi (by omega) (by omega)
    · exact FT_of h2 i hi (by omega) (by omega)
theorem law_start (sc : dS) (d : Nat) : ∃ M, Inv M ∧ vr sc (60 + d) c_L_law x00 = vr sc (60 + d) c_L_law (18, [(2, 1000001), (2, 0), (2, 107), (0, 0)], [], (K0, M)) := by
  obtain ⟨M, hg, F⟩ := i_end
  refine ⟨M, Inv_0 F, ?_⟩
  have g : d_go sc (d_call d_P sc 4000 60) c_L_law 10 x00 = some (18, [(2, 1000001), (2, 0), (2, 107), (0, 0)], [], (K0, M)) := (d_go_sc (fun k av h hk => d_call_sc sc sc0 4000 60 k av h hk) 10 x00).trans hg
  exact vr_go 10 (d_go_up (d_call_de d) 10 g)
