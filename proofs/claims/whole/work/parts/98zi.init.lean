/-! the constructors: the machine of numbers runs them -/
def sc0 : dS := (0, fun _ => 0)
def M00 : dM := fun _ _ => 0
def okI (ai : dI) : Bool := !(ai.1 == 40) && !(ai.1 == 34) && (!(ai.1 == 28) || !(ai.2.2.1.toNat == 216))
theorem d_hp_sc {sc sc' : dS} {op : Nat} (h1 : op ≠ 40) (h2 : op ≠ 34) (len : Nat) (a b : Int) (pc : Nat) (L st : List dV) (h : dH) : d_hp sc op len a b pc L st h = d_hp sc' op len a b pc L st h := by
  unfold d_hp
  split <;> first | rfl | exact absurd rfl h1 | exact absurd rfl h2
theorem d_step_sc {sc sc' : dS} {cf cf' : dF} (hcf : ∀ k av h, k ≠ 216 → cf k av h = cf' k av h) {ai : dI} (ho : okI ai = true) (x : dC) : d_step sc cf ai x = d_step sc' cf' ai x := by
  unfold okI at ho
  rw [Bool.and_eq_true, Bool.and_eq_true] at ho
  obtain ⟨⟨h1, h2⟩, h3⟩ := ho
  have h1 : ai.1 ≠ 40 := by simpa using h1
  have h2 : ai.1 ≠ 34 := by simpa using h2
  unfold d_step
  by_cases h28 : ai.1 = 28
  · rw [if_pos h28, if_pos h28]
    have h216 : ai.2.2.1.toNat ≠ 216 := by
      rw [h28] at h3
      simpa using h3
    rw [hcf _ _ _ h216]
  · rw [if_neg h28, if_neg h28, d_hp_sc (sc := sc) (sc' := sc') h1 h2]
theorem d_run_sc {sc sc' : dS} {cf cf' : dF} (hcf : ∀ k av h, k ≠ 216 → cf k av h = cf' k av h) {code : Nat → Option dI} (hc : ∀ pc ai, code pc = some ai → okI ai = true) : ∀ (n : Nat) (x : dC), d_run sc cf code n x = d_run sc' cf' code n x := by
  intro n
  induction n with
  | zero => intro x; rfl
  | succ n ih =>
    intro x
    unfold d_run
    cases hx : code x.1 with
    | none => rfl
    | some ai =>
      dsimp only
      rw [d_step_sc hcf (hc _ _ hx) x]
      by_cases h35 : ai.1 = 35
      · rw [if_pos h35, if_pos h35]
      · rw [if_neg h35, if_neg h35]
        cases d_step sc' cf' ai x with
        | none => rfl
        | some x2 => exact ih x2
theorem d_codes : ∀ k ∈ List.range 216, (match d_P k with | some md => md.2.2.2.2.all (fun o => match o with | none => true | some ai => okI ai) | none => true) = true := by decide +kernel
theorem d_P_n {k : Nat} (h : 217 ≤ k) : d_P k = none := by
  have e : d_L.length = 217 := by decide +kernel
  exact List.getElem?_eq_none (by omega)
theorem d_call_sc (sc sc' : dS) (N : Nat) : ∀ (d k : Nat) (av : List dV) (h : dH), k ≠ 216 → d_call d_P sc N d k av h = d_call d_P sc' N d k av h := by
  intro d
  induction d with
  | zero => intro k av h _; rfl
  | succ d ih =>
    intro k av h hk
    unfold d_call
    cases hP : d_P k with
    | none => rfl
    | some md =>
      dsimp only
      have hk2 : k < 216 := by
        by_cases z : 217 ≤ k
        · rw [d_P_n z] at hP; cases hP
        · omega
      have g := d_codes k (List.mem_range.mpr hk2)
      rw [hP] at g
      dsimp only at g
      rw [d_run_sc (sc := sc) (sc' := sc') ih (fun pc ai hc => by
        have hc : (md.2.2.2.2[pc]?).join = some ai := hc
        cases hq : md.2.2.2.2[pc]? with
        | none => rw [hq] at hc; cases hc
        | some o =>
          rw [hq] at hc
          have hc : o = some ai := hc
          subst hc
          exact List.all_eq_true.mp g _ (List.mem_of_getElem? hq))]
def d_go (sc : dS) (cf : dF) (code : Nat → Option dI) : Nat → dC → Option dC
  | 0, x => some x
  | n + 1, x => match code x.1 with
    | none => none
    | some ai => if okI ai = true ∧ ai.1 ≠ 35 then (match d_step sc cf ai x with
      | none => none
      | some x' => d_go sc cf code n x') else none
theorem d_go_sc {sc sc' : dS} {cf cf' : dF} (hcf : ∀ k av h, k ≠ 216 → cf k av h = cf' k av h) {code : Nat → Option dI} : ∀ (n : Nat) (x : dC), d_go sc cf code n x = d_go sc' cf' code n x := by
  intro n
  induction n with
  | zero => intro x; rfl
  | succ n ih =>
    intro x
    unfold d_go
    cases code x.1 with
    | none => rfl
    | some ai =>
      dsimp only
      by_cases ho : okI ai = true ∧ ai.1 ≠ 35
      · rw [if_pos ho, if_pos ho, d_step_sc hcf ho.1 x]
        cases d_step sc' cf' ai x with
        | none => rfl
        | some x2 => exact ih x2
      · rw [if_neg ho, if_neg ho]
theorem vr_one {sc : dS} {d N : Nat} {code : Nat → Option dI} {x x' : dC} {ai : dI} (hc : code x.1 = some ai) (h35 : ai.1 ≠ 35) (hs : d_step sc (d_call d_P sc N d) ai x = some x') : vr sc d code x = vr sc d code x' := by
  apply vr_ext
  intro q
  have up : ∀ M, N ≤ M → d_step sc (d_call d_P sc M d) ai x = some x' := fun M hM => d_step_up (d_call_up hM d) hs
  constructor
  · intro h
    obtain ⟨m, hm⟩ := vr_some.mp h
    have g := d_run_up (d_call_up (show m ≤ max m N + 1 by omega) d) m (max m N + 1) x q (by omega) hm
    rw [vr_run1 hc h35, up _ (by omega)] at g
    exact vr_some.mpr ⟨max m N + 1, d_run_up (fun _ _ _ _ z => z) (max m N) (max m N + 1) x' q (by omega) g⟩
  · intro h
    obtain ⟨m, hm⟩ := vr_some.mp h
    refine vr_some.mpr ⟨max m N + 1, ?_⟩
    rw [vr_run1 hc h35, up _ (by omega)]
    exact d_run_up (d_call_up (show m ≤ max m N + 1 by omega) d) m (max m N) x' q (by omega) hm
theorem vr_go {sc : dS} {d N : Nat} {code : Nat → Option dI} : ∀ (n : Nat) {x x' : dC}, d_go sc (d_call d_P sc N d) code n x = some x' → vr sc d code x = vr sc d code x' := by
  intro n
  induction n with
  | zero => intro x x' h; cases h; rfl
  | succ n ih =>
    intro x x' h
    unfold d_go at h
    cases hc : code x.1 with
    | none => rw [hc] at h; cases h
    | some ai =>
      rw [hc] at h
      dsimp only at h
      by_cases ho : okI ai = true ∧ ai.1 ≠ 35
      · rw [if_pos ho] at h
        cases hs : d_step sc (d_call d_P sc N d) ai x with
        | none => rw [hs] at h; cases h
        | some x2 =>
          rw [hs] at h
          rw [vr_one hc ho.2 hs]
          exact ih h
      · rw [if_neg ho] at h; cases h
theorem d_call_d {sc : dS} {N : Nat} : ∀ (d : Nat), d_cfle (d_call d_P sc N d) (d_call d_P sc N (d + 1)) := by
  intro d
  induction d with
  | zero => intro k av h q hs; cases hs
  | succ d ih =>
    intro k av h q hs
    unfold d_call at hs
    show (match d_P k with
      | none => none
      | some md => if (d_ent av).length ≤ md.2.2.1 then d_run sc (d_call d_P sc N (d + 1)) (fun pc => (md.2.2.2.2[pc]?).join) N (0, d_ent av ++ List.replicate (md.2.2.1 - (d_ent av).length) (3, 0), [], h) else none) = some q
    cases hP : d_P k with
    | none => rw [hP] at hs; cases hs
    | some md =>
      rw [hP] at hs
      dsimp only at hs ⊢
      by_cases hl : (d_ent av).length ≤ md.2.2.1
      · rw [if_pos hl] at hs ⊢
        exact d_run_up ih N N _ q (Nat.le_refl _) hs
      · rw [if_neg hl] at hs; cases hs
theorem d_call_de {sc : dS} {N d : Nat} : ∀ (e : Nat), d_cfle (d_call d_P sc N d) (d_call d_P sc N (d + e)) := by
  intro e
  induction e with
  | zero => intro k av h q hs; exact hs
  | succ e ih => intro k av h q hs; exact d_call_d (d + e) k av h q (ih k av h q hs)
theorem d_go_up {sc : dS} {cf cf' : dF} (hcf : d_cfle cf cf') {code : Nat → Option dI} : ∀ (n : Nat) {x x' : dC}, d_go sc cf code n x = some x' → d_go sc cf' code n x = some x' := by
  intro n
  induction n with
  | zero => intro x x' h; exact h
  | succ n ih =>
    intro x x' h
    unfold d_go at h ⊢
    cases hc : code x.1 with
    | none => rw [hc] at h; cases h
    | some ai =>
      rw [hc] at h
      dsimp only at h ⊢
      by_cases ho : okI ai = true ∧ ai.1 ≠ 35
      · rw [if_pos ho] at h ⊢
        cases hs : d_step sc cf ai x with
        | none => rw [hs] at h; cases h
        | some x2 =>
          rw [hs] at h
          rw [d_step_up hcf hs]
          exact ih h
      · rw [if_neg ho] at h; cases h
