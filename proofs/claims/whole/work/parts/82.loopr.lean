/-! the reference reads and reckons: loops -/
def Iv (b : List Int) (x : Ps) : Prop := (pC x).length ≤ pS x ∧ pS x ≤ pP x ∧ pP x ≤ b.length ∧ (pK x ≠ 0 → pS x < pP x)
def Out (ns : Nat → Int) (b : List Int) (n : Nat) (x y : Ps) (v : Int) : Prop := (pF y = -1 → Iv b y ∧ pS x < pS y ∧ ∃ c : List (Int × Int), pC y = pC x ++ c ∧ c.length + pS x ≤ pS y ∧ ∀ st : List Int, st.length + n ≤ 40 → ev ns c st = v :: st) ∧ (pF y ≠ -1 → pK y = 1)
def SimR (sc : dS) (D : Nat) (ns : Nat → Int) (t : Nat) (b : List Int) (m op n : Nat) (F : Ps → Ps) : Prop := ∀ (M : dM) (x : Ps), RQ ns t b M x op → pF x = -1 → Iv b x → ∃ (M' : dM) (v : Int), vc sc D m [(2, 107)] (K0, M) = some ([(0, v)], (K0, M')) ∧ RQ ns t b M' (F x) op ∧ RN M M' ∧ Out ns b n x (F x) v
theorem scn_lt {b : List Int} {p : Nat} (h : (scn b p).1 ≠ 0) : (scn b p).2.2.1 < (scn b p).2.2.2 := by
  unfold scn at h ⊢
  dsimp only at h ⊢
  generalize eol isSp (b.drop p) p = s at *
  by_cases c : b.length ≤ s
  · rw [if_pos c] at h
    exact absurd rfl h
  · rw [if_neg c]
    have hs : s < b.length := by omega
    have l1 := eol_gt (P := isLow) (c := b[s]) (l := b.drop (s + 1)) (i := s)
    have d1 := eol_gt (P := isDig) (c := b[s]) (l := b.drop (s + 1)) (i := s)
    rw [← List.drop_eq_getElem_cons hs] at l1 d1
    rw [gdx_0 hs]
    by_cases p1 : isLow b[s] = true
    · rw [if_pos p1]; exact l1 p1
    · rw [if_neg p1]
      by_cases p2 : isDig b[s] = true
      · rw [if_pos p2]; exact d1 p2
      · rw [if_neg p2]; exact Nat.lt_succ_self s
theorem Iv_stp {b : List Int} {x : Ps} (h : Iv b x) (hk : pK x ≠ 0) : Iv b (stp b x) ∧ pS x < pS (stp b x) := by
  have g := scn_le h.2.2.1
  have hl := h.2.2.2 hk
  have h1 := h.1
  have e1 : pS (stp b x) = (scn b (pP x)).2.2.1 := rfl
  have e2 : pP (stp b x) = (scn b (pP x)).2.2.2 := rfl
  have e3 : pC (stp b x) = pC x := rfl
  refine ⟨⟨by rw [e1, e3]; omega, by rw [e1, e2]; omega, by rw [e2]; omega, fun z => by rw [e1, e2]; exact scn_lt z⟩, by rw [e1]; omega⟩
theorem jn_k {r : Nat} {k : Int} (h : jn r k = true) : nxt k ∧ k ≠ 2 ∧ k ≠ 3 ∧ k ≠ 15 ∧ k ≠ 4 := by
  unfold nxt
  unfold jn at h
  split at h
  · have := of_decide_eq_true h; omega
  · have := of_decide_eq_true h; omega
  · have := of_decide_eq_true h; omega
  · have := of_decide_eq_true h; omega
  · have := of_decide_eq_true h; omega
  · cases h
theorem jn_1 (r : Nat) : ¬ jn r 1 = true := fun h => (jn_k h).1.2 rfl
theorem lp_1 {b : List Int} {F : Ps → Ps} {r : Nat} {x : Ps} (h : pK x = 1) (k : Nat) : lp b F r k x = x := by
  cases k with
  | zero => rfl
  | succ k =>
    show (if jn r (pK x) = true then _ else _) = _
    rw [h, if_neg (jn_1 r)]
theorem evs_j {ns : Nat → Int} {k v w : Int} {st : List Int} (h2 : k ≠ 2) (h3 : k ≠ 3) (h15 : k ≠ 15) (h4 : k ≠ 4) : ev ns [(k, 0)] (w :: v :: st) = njoin k v w :: st := by
  show evs ns (w :: v :: st) (k, 0) = _
  unfold evs
  rw [if_neg (fun z => z.elim h2 h3), if_neg (fun z => z.elim h15 h4)]
theorem emt_C {k v : Int} {x : Ps} (h : (pC x).length < 160) : pC (emt k v x) = pC x ++ [(k, v)] := if_pos h
theorem loopR {ns : Nat → Int} {t : Nat} {b : List Int} (hb : okB b) {H : dM → Int → dV → dV → Option (List dV × dH)} {F : Ps → Ps} {r op n : Nat}
    (h0 : ∀ (M : dM) (x : Ps) (v : Int) (q2 q3 : dV), RQ ns t b M x op → ¬ (pF x = -1 ∧ jn r (pK x) = true) → H M v q2 q3 = some ([(0, v)], (K0, M)))
    (h1 : ∀ (M : dM) (x : Ps) (v : Int) (q2 q3 : dV), RQ ns t b M x op → pF x = -1 → Iv b x → jn r (pK x) = true → ∃ (M' : dM) (w : Int) (q2' q3' : dV), H M v q2 q3 = H M' (njoin (pK x) v w) q2' q3' ∧ RQ ns t b M' (F (stp b x)) op ∧ RN M M' ∧ Out ns b n (stp b x) (F (stp b x)) w) :
    ∀ (k : Nat) (M : dM) (x : Ps) (v : Int) (q2 q3 : dV), b.length < pS x + k → RQ ns t b M x op → pF x = -1 → Iv b x → ∃ (M' : dM) (v' : Int), H M v q2 q3 = some ([(0, v')], (K0, M')) ∧ RQ ns t b M' (lp b F r k x) op ∧ RN M M' ∧ (pF (lp b F r k x) = -1 → Iv b (lp b F r k x) ∧ pS x ≤ pS (lp b F r k x) ∧ ∃ c : List (Int × Int), pC (lp b F r k x) = pC x ++ c ∧ c.length + pS x ≤ pS (lp b F r k x) ∧ ∀ st : List Int, st.length + 1 + n ≤ 40 → ev ns c (v :: st) = v' :: st) ∧ (pF (lp b F r k x) ≠ -1 → pK (lp b F r k x) = 1) := by
  intro k
  induction k with
  | zero =>
    intro M x v q2 q3 hk h g iv
    have := iv.2.1
    have := iv.2.2.1
    omega
  | succ k ih =>
    intro M x v q2 q3 hk h g iv
    by_cases j : jn r (pK x) = true
    · have e : lp b F r (k + 1) x = lp b F r k (emt (pK x) 0 (F (stp b x))) := if_pos j
      rw [e]
      have jk := jn_k j
      have is := Iv_stp iv jk.1.1
      obtain ⟨M1, w, q2', q3', a1, a2, a3, a4⟩ := h1 M x v q2 q3 h g iv j
      rw [a1]
      by_cases gy : pF (F (stp b x)) = -1
      · obtain ⟨iy, ly, c, ec, lc, hc⟩ := a4.1 gy
        have hy := iy.1
        have hy2 := iy.2.1
        have hy3 := iy.2.2.1
        have hbl := hb.1
        have eC : pC (stp b x) = pC x := rfl
        rw [eC] at ec
        have hx0 := iv.1
        have hlen : (pC (F (stp b x))).length + 1 ≤ pS (F (stp b x)) := by
          rw [ec, List.length_append]
          omega
        have e2 := emt_C (k := pK x) (v := 0) (x := F (stp b x)) (by omega)
        have iz : Iv b (emt (pK x) 0 (F (stp b x))) := ⟨by rw [e2, List.length_append]; exact hlen, iy.2.1, iy.2.2.1, iy.2.2.2⟩
        have hsz : pS (emt (pK x) 0 (F (stp b x))) = pS (F (stp b x)) := rfl
        obtain ⟨M2, v', b1, b2, b3, b4, b5⟩ := ih M1 (emt (pK x) 0 (F (stp b x))) (njoin (pK x) v w) q2' q3' (by rw [hsz]; omega) a2 gy iz
        refine ⟨M2, v', b1, b2, a3.tr b3, fun z => ?_, b5⟩
        obtain ⟨i3, l3, c3, ec3, lc3, hc3⟩ := b4 z
        rw [hsz] at l3 lc3
        refine ⟨i3, by omega, c ++ [(pK x, 0)] ++ c3, by rw [ec3, e2, ec]; simp, ?_, fun st hst => ?_⟩
        · rw [List.length_append, List.length_append]
          simp
          omega
        · rw [ev_app, ev_app, hc (v :: st) (by rw [List.length_cons]; omega), evs_j jk.2.1 jk.2.2.1 jk.2.2.2.1 jk.2.2.2.2]
          exact hc3 st hst
      · have k1 := a4.2 gy
        have k2 : pK (emt (pK x) 0 (F (stp b x))) = 1 := k1
        rw [lp_1 k2]
        refine ⟨M1, njoin (pK x) v w, h0 M1 (F (stp b x)) _ _ _ a2 (fun z => gy z.1), a2, a3, fun z => absurd z gy, fun _ => k1⟩
    · have e : lp b F r (k + 1) x = x := if_neg j
      rw [e, h0 M x v q2 q3 h (fun z => j z.2)]
      exact ⟨M, v, rfl, h, RN.rf _, fun _ => ⟨iv, Nat.le_refl _, [], by simp, by simp, fun st _ => rfl⟩, fun z => absurd g z⟩
theorem rankR {sc : dS} {D : Nat} {ns : Nat → Int} {t : Nat} {b : List Int} (hb : okB b) {m m' : Nat} {H : dM → Int → dV → dV → Option (List dV × dH)} {F : Ps → Ps} {r op n : Nat} (hsub : SimR sc D ns t b m' op n F)
    (hs : ∀ (M M1 : dM) (v : Int), vc sc D m' [(2, 107)] (K0, M) = some ([(0, v)], (K0, M1)) → ∃ q2 q3 : dV, vc sc (D + 1) m [(2, 107)] (K0, M) = H M1 v q2 q3)
    (h0 : ∀ (M : dM) (x : Ps) (v : Int) (q2 q3 : dV), RQ ns t b M x op → ¬ (pF x = -1 ∧ jn r (pK x) = true) → H M v q2 q3 = some ([(0, v)], (K0, M)))
    (h1 : ∀ (M : dM) (x : Ps) (v : Int) (q2 q3 : dV), RQ ns t b M x op → pF x = -1 → Iv b x → jn r (pK x) = true → ∃ (M' : dM) (w : Int) (q2' q3' : dV), H M v q2 q3 = H M' (njoin (pK x) v w) q2' q3' ∧ RQ ns t b M' (F (stp b x)) op ∧ RN M M' ∧ Out ns b n (stp b x) (F (stp b x)) w) :
    SimR sc (D + 1) ns t b m op (n + 1) (fun x => lp b F r 160 (F x)) := by
  intro M x h g iv
  obtain ⟨M1, v, a1, a2, a3, a4⟩ := hsub M x h g iv
  obtain ⟨q2, q3, e⟩ := hs M M1 v a1
  rw [e]
  dsimp only
  by_cases gy : pF (F x) = -1
  · obtain ⟨iy, ly, c, ec, lc, hc⟩ := a4.1 gy
    have hbl := hb.1
    obtain ⟨M2, v', b1, b2, b3, b4, b5⟩ := loopR hb h0 h1 160 M1 (F x) v q2 q3 (by omega) a2 gy iy
    refine ⟨M2, v', b1, b2, a3.tr b3, fun z => ?_, b5⟩
    obtain ⟨i3, l3, c3, ec3, lc3, hc3⟩ := b4 z
    refine ⟨i3, by omega, c ++ c3, by rw [ec3, ec]; simp, by rw [List.length_append]; omega, fun st hst => ?_⟩
    rw [ev_app, hc st (by omega)]
    exact hc3 st (by omega)
  · have k1 := a4.2 gy
    rw [lp_1 k1, h0 M1 (F x) v q2 q3 a2 (fun z => gy z.1)]
    exact ⟨M1, v, rfl, a2, a3, fun z => absurd z gy, fun _ => k1⟩
