/-! sets of feet; the town that an evening leaves -/
def pset (b : Nat → Bool) : Nat → Int
  | 0 => 0
  | n + 1 => if b n = true then i_or (pset b n) (i_shl 1 n) else pset b n
theorem pset_cg {b c : Nat → Bool} : ∀ n : Nat, (∀ i : Nat, i < n → b i = c i) → pset b n = pset c n := by
  intro n
  induction n with
  | zero => intro _; rfl
  | succ n ih =>
    intro h
    show (if b n = true then _ else _) = (if c n = true then _ else _)
    rw [ih (fun i hi => h i (by omega)), h n (by omega)]
theorem or_tab : ∀ a ∈ List.range 64, ∀ c ∈ List.range 6, i_or ((a : Nat) : Int) (i_shl 0 ((c : Nat) : Int)) = ((a : Nat) : Int) ∧ 0 ≤ i_or ((a : Nat) : Int) (i_shl 1 ((c : Nat) : Int)) ∧ i_or ((a : Nat) : Int) (i_shl 1 ((c : Nat) : Int)) < 64 := by decide +kernel
theorem pset_r {b : Nat → Bool} : ∀ n : Nat, n ≤ 6 → 0 ≤ pset b n ∧ pset b n < 64 := by
  intro n
  induction n with
  | zero => intro _; exact ⟨Int.le_refl _, (show (0 : Int) < 64 by decide)⟩
  | succ n ih =>
    intro h
    have k := ih (by omega)
    show 0 ≤ (if b n = true then _ else _) ∧ (if b n = true then _ else _) < 64
    by_cases p : b n = true
    · rw [if_pos p]
      have t := or_tab (pset b n).toNat (List.mem_range.mpr (by omega)) n (List.mem_range.mpr (by omega))
      rw [show (((pset b n).toNat : Nat) : Int) = pset b n by omega] at t
      exact t.2
    · rw [if_neg p]; exact k
theorem or_0 {b : Nat → Bool} {n c : Nat} (h : n ≤ 6) (hc : c < 6) : i_or (pset b n) (i_shl 0 (c : Int)) = pset b n := by
  have k := pset_r (b := b) n h
  have t := or_tab (pset b n).toNat (List.mem_range.mpr (by omega)) c (List.mem_range.mpr (by omega))
  rw [show (((pset b n).toNat : Nat) : Int) = pset b n by omega] at t
  exact t.1
def fsix (b0 b1 b2 b3 b4 b5 : Bool) (n : Nat) : Bool := match n with
  | 0 => b0
  | 1 => b1
  | 2 => b2
  | 3 => b3
  | 4 => b4
  | _ => b5
theorem pset_six (b : Nat → Bool) : pset b 6 = pset (fsix (b 0) (b 1) (b 2) (b 3) (b 4) (b 5)) 6 := pset_cg 6 fun i hi => by
  rcases (show i = 0 ∨ i = 1 ∨ i = 2 ∨ i = 3 ∨ i = 4 ∨ i = 5 by omega) with rfl | rfl | rfl | rfl | rfl | rfl <;> rfl
theorem bit_tab : ∀ b0 b1 b2 b3 b4 b5 : Bool, ∀ f ∈ List.range 6, i_and (i_shr (pset (fsix b0 b1 b2 b3 b4 b5) 6) ((f : Nat) : Int)) 1 = (if fsix b0 b1 b2 b3 b4 b5 f = true then 1 else 0) := by decide +kernel
theorem pset_bit (b : Nat → Bool) {f : Nat} (h : f < 6) : i_and (i_shr (pset b 6) (f : Int)) 1 = (if b f = true then 1 else 0) := by
  rw [pset_six, bit_tab _ _ _ _ _ _ f (List.mem_range.mpr h)]
  rcases (show f = 0 ∨ f = 1 ∨ f = 2 ∨ f = 3 ∨ f = 4 ∨ f = 5 by omega) with rfl | rfl | rfl | rfl | rfl | rfl <;> rfl
def tno (t : Tn) (f : Nat) : Nat := (pul (redl (tKn t f))).length
def psB (xs : List (List Int)) (t : Tn) (f : Nat) : Bool := decide (0 ≤ tBy t f) && decide (tWlk t f ≤ strF xs t (tBy t f).toNat f (tno t f))
def lesF (xs : List (List Int)) (t : Tn) (f : Nat) (p : Bool) : Int :=
  let l := (tBy t f).toNat
  let v := sayF xs t 1 l (tno t f) (tWlk t f)
  if tKind t l = 5 then 0 else if tKind t l = 4 ∧ p = false then -tNum t l else if tKind t l = 2 then v else if tKind t l = 3 then (if p = true then v else 0) + 1 else (if p = true then v else 0)
def tSk (t : Tn) (l : Nat) (v : Int) : Tn := (t.1, tKind t, tNum t, fun i => if i = l then v else tSkl t i, tWlk t, tBy t, tKn t)
def tUn (t : Tn) (f : Nat) : Tn := (t.1, tKind t, tNum t, tSkl t, tWlk t, fun i => if i = f then -1 else tBy t i, fun i => if i = f then [] else tKn t i)
def tDy (t : Tn) (v : Int) : Tn := ((v, tWet t, tRule t, tMany t), tKind t, tNum t, tSkl t, tWlk t, tBy t, tKn t)
def edF (xs : List (List Int)) (p : Nat → Bool) (t : Tn) (f : Nat) : Tn :=
  if 0 ≤ tBy t f then
    let t1 := tSk t (tBy t f).toNat (bnd (tSkl t (tBy t f).toNat + lesF xs t f (p f)) 0 99)
    if p f = true then t1 else tUn t1 f
  else t
def edN (xs : List (List Int)) (p : Nat → Bool) : Nat → Tn → Tn
  | 0, t => t
  | n + 1, t => edF xs p (edN xs p n t) n
def evS (xs : List (List Int)) (t : Tn) : Tn := tDy (edN xs (psB xs t) 6 t) (tDay t + 1)
def okTd (t : Tn) : Prop := okT t ∧ tDay t ≤ 99000
theorem okT_tSk {t : Tn} (h : okT t) (l : Nat) {v : Int} (hv : 0 ≤ v ∧ v ≤ 99) : okT (tSk t l v) := ⟨h.1, fun j hj => by
  have k := h.2.1 j hj
  refine ⟨k.1, k.2.1, k.2.2.1, k.2.2.2.1, ?_, ?_⟩
  · show 0 ≤ (if j = l then v else tSkl t j)
    split
    · exact hv.1
    · exact k.2.2.2.2.1
  · show (if j = l then v else tSkl t j) ≤ 99
    split
    · exact hv.2
    · exact k.2.2.2.2.2, h.2.2⟩
theorem okT_tUn {t : Tn} (h : okT t) (f : Nat) : okT (tUn t f) := ⟨h.1, h.2.1, fun j hj => by
  have k := h.2.2 j hj
  refine ⟨k.1, k.2.1, ?_, ?_, ?_, ?_⟩
  · show -1 ≤ (if j = f then -1 else tBy t j)
    split
    · omega
    · exact k.2.2.1
  · show (if j = f then -1 else tBy t j) < (tMany t : Int)
    split
    · omega
    · exact k.2.2.2.1
  · show (if j = f then [] else tKn t j).length ≤ 12
    split
    · exact Nat.zero_le _
    · exact k.2.2.2.2.1
  · show ∀ y ∈ (if j = f then [] else tKn t j), y ∈ CL4
    split
    · intro y hy; cases hy
    · exact k.2.2.2.2.2⟩
theorem okT_edF {xs : List (List Int)} {p : Nat → Bool} {t : Tn} (h : okT t) (f : Nat) : okT (edF xs p t f) := by
  unfold edF
  split
  · dsimp only
    split
    · exact okT_tSk h _ (bnd_r (by decide))
    · exact okT_tUn (okT_tSk h _ (bnd_r (by decide))) f
  · exact h
theorem okT_edN {xs : List (List Int)} {p : Nat → Bool} {t : Tn} (h : okT t) : ∀ n : Nat, okT (edN xs p n t) := by
  intro n
  induction n with
  | zero => exact h
  | succ n ih => exact okT_edF ih n
theorem edF_1 {xs : List (List Int)} {p : Nat → Bool} {t : Tn} {f : Nat} : (edF xs p t f).1 = t.1 := by
  unfold edF
  split
  · dsimp only
    split <;> rfl
  · rfl
theorem edN_1 {xs : List (List Int)} {p : Nat → Bool} {t : Tn} : ∀ n : Nat, (edN xs p n t).1 = t.1 := by
  intro n
  induction n with
  | zero => rfl
  | succ n ih => exact edF_1.trans ih
theorem okT_tDy {t : Tn} (h : okT t) {v : Int} (hv : 0 ≤ v ∧ v ≤ 99999) : okT (tDy t v) := ⟨⟨hv.1, hv.2, h.1.2.2⟩, h.2.1, h.2.2⟩
theorem okT_evS {xs : List (List Int)} {t : Tn} (h : okT t) (hd : tDay t < 99999) : okT (evS xs t) := okT_tDy (okT_edN h 6) ⟨by have := h.1.1; omega, by omega⟩
theorem evS_1 (xs : List (List Int)) (t : Tn) : tDay (evS xs t) = tDay t + 1 ∧ tWet (evS xs t) = tWet t ∧ tRule (evS xs t) = tRule t ∧ tMany (evS xs t) = tMany t := by
  have e := edN_1 (xs := xs) (p := psB xs t) (t := t) 6
  refine ⟨rfl, ?_, ?_, ?_⟩
  · show (edN xs (psB xs t) 6 t).1.2.1 = t.1.2.1
    rw [e]
  · show (edN xs (psB xs t) 6 t).1.2.2.1 = t.1.2.2.1
    rw [e]
  · show (edN xs (psB xs t) 6 t).1.2.2.2 = t.1.2.2.2
    rw [e]
