/-! the value of a run, without fuel: rewriting laws -/
def d_cfle (f g : dF) : Prop := ∀ k av h q, f k av h = some q → g k av h = some q
theorem d_step_up {sc : dS} {f g : dF} (hfg : d_cfle f g) {ai : dI} {x x' : dC} (h : d_step sc f ai x = some x') : d_step sc g ai x = some x' := by
  obtain ⟨o, len, a, b, sw⟩ := ai
  by_cases h28 : o = 28
  · subst h28
    have h2 : (if b.toNat ≤ x.2.2.1.length ∧ d_cat (x.2.2.1.drop b.toNat) ≤ 8 ∧ d_rcv x.2.2.2 sw (x.2.2.1.take b.toNat).reverse = true then
      (match f a.toNat (x.2.2.1.take b.toNat).reverse x.2.2.2 with
        | some r => some (x.1 + len, x.2.1, r.1 ++ x.2.2.1.drop b.toNat, r.2)
        | none => none) else none) = some x' := h
    show (if b.toNat ≤ x.2.2.1.length ∧ d_cat (x.2.2.1.drop b.toNat) ≤ 8 ∧ d_rcv x.2.2.2 sw (x.2.2.1.take b.toNat).reverse = true then
      (match g a.toNat (x.2.2.1.take b.toNat).reverse x.2.2.2 with
        | some r => some (x.1 + len, x.2.1, r.1 ++ x.2.2.1.drop b.toNat, r.2)
        | none => none) else none) = some x'
    by_cases hc : b.toNat ≤ x.2.2.1.length ∧ d_cat (x.2.2.1.drop b.toNat) ≤ 8 ∧ d_rcv x.2.2.2 sw (x.2.2.1.take b.toNat).reverse = true
    · rw [if_pos hc] at h2 ⊢
      cases hcf : f a.toNat (x.2.2.1.take b.toNat).reverse x.2.2.2 with
      | none => rw [hcf] at h2; cases h2
      | some r =>
        rw [hcf] at h2
        rw [hfg _ _ _ _ hcf]
        exact h2
    · rw [if_neg hc] at h2
      cases h2
  · unfold d_step at h ⊢
    rw [if_neg h28] at h ⊢
    exact h
theorem d_run_up {sc : dS} {f g : dF} (hfg : d_cfle f g) {code : Nat → Option dI} : ∀ (n m : Nat) (x : dC) (q : List dV × dH), n ≤ m → d_run sc f code n x = some q → d_run sc g code m x = some q := by
  intro n
  induction n with
  | zero => intro m x q _ h; cases h
  | succ n ih =>
    intro m x q hm h
    match m, hm with
    | m + 1, hm =>
      unfold d_run at h ⊢
      cases hc : code x.1 with
      | none => rw [hc] at h; cases h
      | some ai =>
        rw [hc] at h
        dsimp only at h ⊢
        by_cases h35 : ai.1 = 35
        · rw [if_pos h35] at h ⊢
          exact h
        · rw [if_neg h35] at h ⊢
          cases hs : d_step sc f ai x with
          | none => rw [hs] at h; cases h
          | some x2 =>
            rw [hs] at h
            rw [d_step_up hfg hs]
            exact ih m x2 q (by omega) h
theorem d_call_up {P : Nat → Option dD} {sc : dS} {N M : Nat} (hNM : N ≤ M) : ∀ d, d_cfle (d_call P sc N d) (d_call P sc M d) := by
  intro d
  induction d with
  | zero => intro k av h q hs; cases hs
  | succ d ih =>
    intro k av h q hs
    unfold d_call at hs ⊢
    cases hP : P k with
    | none => rw [hP] at hs; cases hs
    | some md =>
      rw [hP] at hs
      dsimp only at hs ⊢
      by_cases hl : (d_ent av).length ≤ md.2.2.1
      · rw [if_pos hl] at hs ⊢
        exact d_run_up ih N M _ q hNM hs
      · rw [if_neg hl] at hs
        cases hs
abbrev dRes : Type := Option (List dV × dH)
noncomputable def vr (sc : dS) (d : Nat) (code : Nat → Option dI) (x : dC) : dRes :=
  @dite _ (∃ q : List dV × dH, ∃ n, d_run sc (d_call d_P sc n d) code n x = some q) (Classical.propDecidable _) (fun h => some h.choose) (fun _ => none)
theorem vr_some {sc : dS} {d : Nat} {code : Nat → Option dI} {x : dC} {q : List dV × dH} : vr sc d code x = some q ↔ ∃ n, d_run sc (d_call d_P sc n d) code n x = some q := by
  have uniq : ∀ q1 q2 : List dV × dH, (∃ n, d_run sc (d_call d_P sc n d) code n x = some q1) → (∃ n, d_run sc (d_call d_P sc n d) code n x = some q2) → q1 = q2 := by
    rintro q1 q2 ⟨n1, h1⟩ ⟨n2, h2⟩
    have g1 := d_run_up (d_call_up (Nat.le_max_left n1 n2) d) n1 (max n1 n2) x q1 (Nat.le_max_left _ _) h1
    have g2 := d_run_up (d_call_up (Nat.le_max_right n1 n2) d) n2 (max n1 n2) x q2 (Nat.le_max_right _ _) h2
    exact Option.some.inj (g1.symm.trans g2)
  unfold vr
  by_cases hq : ∃ q : List dV × dH, ∃ n, d_run sc (d_call d_P sc n d) code n x = some q
  · rw [dif_pos hq]
    constructor
    · intro e
      rw [← Option.some.inj e]
      exact hq.choose_spec
    · intro h
      rw [uniq _ _ hq.choose_spec h]
  · rw [dif_neg hq]
    constructor
    · intro e; cases e
    · intro h
      exact absurd ⟨q, h⟩ hq
theorem vr_ext {a b : dRes} (h : ∀ q, a = some q ↔ b = some q) : a = b := by
  cases a with
  | none => cases b with
    | none => rfl
    | some q => exact absurd ((h q).mpr rfl) (fun z => by cases z)
  | some q => exact ((h q).mp rfl).symm
def d_mcode (md : dD) : Nat → Option dI := fun pc => (md.2.2.2.2[pc]?).join
noncomputable def vc (sc : dS) (d k : Nat) (av : List dV) (h : dH) : dRes := match d with
  | 0 => none
  | d + 1 => match d_P k with
    | none => none
    | some md => if (d_ent av).length ≤ md.2.2.1 then vr sc d (d_mcode md) (0, d_ent av ++ List.replicate (md.2.2.1 - (d_ent av).length) (3, 0), [], h) else none
theorem vc_some {sc : dS} {d k : Nat} {av : List dV} {h : dH} {q : List dV × dH} : vc sc d k av h = some q ↔ ∃ n, d_call d_P sc n d k av h = some q := by
  cases d with
  | zero => exact ⟨(fun z => by cases z), (fun ⟨n, z⟩ => by cases z)⟩
  | succ d =>
    show (match d_P k with | none => none | some md => if (d_ent av).length ≤ md.2.2.1 then vr sc d (d_mcode md) (0, d_ent av ++ List.replicate (md.2.2.1 - (d_ent av).length) (3, 0), [], h) else none) = some q ↔ ∃ n, (match d_P k with | none => none | some md => if (d_ent av).length ≤ md.2.2.1 then d_run sc (d_call d_P sc n d) (d_mcode md) n (0, d_ent av ++ List.replicate (md.2.2.1 - (d_ent av).length) (3, 0), [], h) else none) = some q
    cases d_P k with
    | none => exact ⟨(fun z => by cases z), (fun ⟨n, z⟩ => by cases z)⟩
    | some md =>
      dsimp only
      by_cases hl : (d_ent av).length ≤ md.2.2.1
      · simp only [if_pos hl]
        exact vr_some
      · simp only [if_neg hl]
        exact ⟨(fun z => by cases z), (fun ⟨n, z⟩ => by cases z)⟩
section VS
variable {sc : dS} {d : Nat} {code : Nat → Option dI}
theorem vr_run1 {n : Nat} {cf : dF} {x : dC} {ai : dI} (hc : code x.1 = some ai) (h35 : ai.1 ≠ 35) : d_run sc cf code (n + 1) x = (d_step sc cf ai x).bind (d_run sc cf code n) := by
  show (match code x.1 with | none => none | some ai => if ai.1 = 35 then d_ret ai.2.2.1 x.2.2.1 x.2.2.2 else match d_step sc cf ai x with | none => none | some c' => d_run sc cf code n c') = _
  rw [hc]
  dsimp only
  rw [if_neg h35]
  cases d_step sc cf ai x <;> rfl
theorem vr_none {x : dC} (h : ∀ n q, d_run sc (d_call d_P sc n d) code n x ≠ some q) : vr sc d code x = none := by
  cases hv : vr sc d code x with
  | none => rfl
  | some q =>
    obtain ⟨n, hn⟩ := vr_some.mp hv
    exact absurd hn (h n q)
/-- a step that calls nothing -/
theorem vr_step {x : dC} {ai : dI} {y : Option dC} (hc : code x.1 = some ai) (h35 : ai.1 ≠ 35) (h28 : ai.1 ≠ 28) (hs : d_step sc (fun _ _ _ => none) ai x = y) : vr sc d code x = y.bind (vr sc d code) := by
  have hs' : ∀ cf, d_step sc cf ai x = y := by
    intro cf
    rw [← hs]
    unfold d_step
    rw [if_neg h28, if_neg h28]
  apply vr_ext
  intro q
  rw [vr_some]
  constructor
  · rintro ⟨n, hn⟩
    match n, hn with
    | n + 1, hn =>
      rw [vr_run1 hc h35, hs'] at hn
      cases y with
      | none => cases hn
      | some x' => exact vr_some.mpr ⟨n + 1, d_run_up (fun _ _ _ _ z => z) n (n + 1) x' q (by omega) hn⟩
  · intro h
    cases y with
    | none => cases h
    | some x' =>
      obtain ⟨n, hn⟩ := vr_some.mp h
      refine ⟨n + 1, ?_⟩
      rw [vr_run1 hc h35, hs']
      exact d_run_up (d_call_up (by omega) d) n n x' q (Nat.le_refl _) hn
/-- several of them -/
def d_steps (sc : dS) (code : Nat → Option dI) : Nat → dC → Option dC
  | 0, x => some x
  | n + 1, x => match code x.1 with
    | none => none
    | some ai => if ai.1 = 35 ∨ ai.1 = 28 then none else match d_step sc (fun _ _ _ => none) ai x with
      | none => none
      | some x' => d_steps sc code n x'
theorem vr_steps : ∀ (n : Nat) {x x' : dC}, d_steps sc code n x = some x' → vr sc d code x = vr sc d code x' := by
  intro n
  induction n with
  | zero => intro x x' h; cases h; rfl
  | succ n ih =>
    intro x x' h
    unfold d_steps at h
    cases hc : code x.1 with
    | none => rw [hc] at h; cases h
    | some ai =>
      rw [hc] at h
      dsimp only at h
      by_cases h1 : ai.1 = 35 ∨ ai.1 = 28
      · rw [if_pos h1] at h
        cases h
      · rw [if_neg h1] at h
        cases hs : d_step sc (fun _ _ _ => none) ai x with
        | none => rw [hs] at h; cases h
        | some x2 =>
          rw [hs] at h
          rw [vr_step hc (fun z => h1 (Or.inl z)) (fun z => h1 (Or.inr z)) hs]
          exact ih h
theorem vr_ret {x : dC} {ai : dI} (hc : code x.1 = some ai) (h35 : ai.1 = 35) : vr sc d code x = d_ret ai.2.2.1 x.2.2.1 x.2.2.2 := by
  apply vr_ext
  intro q
  rw [vr_some]
  have e : ∀ n cf, d_run sc cf code (n + 1) x = d_ret ai.2.2.1 x.2.2.1 x.2.2.2 := by
    intro n cf
    show (match code x.1 with | none => none | some ai => if ai.1 = 35 then d_ret ai.2.2.1 x.2.2.1 x.2.2.2 else match d_step sc cf ai x with | none => none | some c' => d_run sc cf code n c') = _
    rw [hc]
    dsimp only
    rw [if_pos h35]
  constructor
  · rintro ⟨n, hn⟩
    match n, hn with
    | n + 1, hn => rw [e] at hn; exact hn
  · intro h
    exact ⟨1, by rw [e]; exact h⟩
theorem vr_call {pc len k n : Nat} {sw : List (Int × Nat)} {L st : List dV} {h : dH} (hc : code pc = some (28, len, (k : Int), (n : Int), sw)) (h1 : n ≤ st.length) (h2 : d_cat (st.drop n) ≤ 8) (h3 : d_rcv h sw (st.take n).reverse = true) : vr sc d code (pc, L, st, h) = (vc sc d k (st.take n).reverse h).bind (fun r => vr sc d code (pc + len, L, r.1 ++ st.drop n, r.2)) := by
  have e : ∀ cf : dF, d_step sc cf (28, len, (k : Int), (n : Int), sw) (pc, L, st, h) = (cf k (st.take n).reverse h).bind (fun r => some (pc + len, L, r.1 ++ st.drop n, r.2)) := by
    intro cf
    show (if n ≤ st.length ∧ d_cat (st.drop n) ≤ 8 ∧ d_rcv h sw (st.take n).reverse = true then
      (match cf k (st.take n).reverse h with
        | some r => some (pc + len, L, r.1 ++ st.drop n, r.2)
        | none => none) else none) = _
    rw [if_pos ⟨h1, h2, h3⟩]
    cases cf k (st.take n).reverse h <;> rfl
  apply vr_ext
  intro q
  rw [vr_some]
  constructor
  · rintro ⟨m, hm⟩
    match m, hm with
    | m + 1, hm =>
      rw [vr_run1 (x := (pc, L, st, h)) hc (show (28 : Nat) ≠ 35 by decide), e] at hm
      cases hcf : d_call d_P sc (m + 1) d k (st.take n).reverse h with
      | none => rw [hcf] at hm; cases hm
      | some r =>
        rw [hcf] at hm
        rw [vc_some.mpr ⟨m + 1, hcf⟩]
        exact vr_some.mpr ⟨m + 1, d_run_up (fun _ _ _ _ z => z) m (m + 1) _ q (by omega) hm⟩
  · intro hq
    cases hv : vc sc d k (st.take n).reverse h with
    | none => rw [hv] at hq; cases hq
    | some r =>
      rw [hv] at hq
      obtain ⟨n1, hn1⟩ := vc_some.mp hv
      obtain ⟨n2, hn2⟩ := vr_some.mp (show vr sc d code (pc + len, L, r.1 ++ st.drop n, r.2) = some q from hq)
      refine ⟨max n1 n2 + 1, ?_⟩
      rw [vr_run1 (x := (pc, L, st, h)) hc (show (28 : Nat) ≠ 35 by decide), e, d_call_up (show n1 ≤ max n1 n2 + 1 by omega) d _ _ _ _ hn1]
      exact d_run_up (d_call_up (show n2 ≤ max n1 n2 + 1 by omega) d) n2 (max n1 n2) _ q (by omega) hn2
end VS
