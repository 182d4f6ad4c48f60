/-! the class's reading of a text: what it makes of it, as a function -/
abbrev Ps : Type := Int × Int × Nat × Nat × Int × List (Int × Int)
def pK (x : Ps) : Int := x.1
def pV (x : Ps) : Int := x.2.1
def pS (x : Ps) : Nat := x.2.2.1
def pP (x : Ps) : Nat := x.2.2.2.1
def pF (x : Ps) : Int := x.2.2.2.2.1
def pC (x : Ps) : List (Int × Int) := x.2.2.2.2.2
def stp (b : List Int) (x : Ps) : Ps := ((scn b (pP x)).1, (scn b (pP x)).2.1, (scn b (pP x)).2.2.1, (scn b (pP x)).2.2.2, pF x, pC x)
def fai (x : Ps) : Ps := (1, pV x, pS x, pP x, if pF x = -1 then (pS x : Int) else pF x, pC x)
def emt (k v : Int) (x : Ps) : Ps := (pK x, pV x, pS x, pP x, pF x, if (pC x).length < 160 then pC x ++ [(k, v)] else pC x)
def ned (b : List Int) (w : Int) (x : Ps) : Ps := if pK x = w then stp b x else fai x
def jn (r : Nat) (k : Int) : Bool := match r with
  | 0 => decide (k = 13)
  | 1 => decide (k = 14)
  | 2 => decide (k = 60 ∨ k = 61)
  | 3 => decide (k = 43 ∨ k = 45)
  | 4 => decide (k = 42)
  | _ => false
def lp (b : List Int) (F : Ps → Ps) (r : Nat) : Nat → Ps → Ps
  | 0, x => x
  | k + 1, x => if jn r (pK x) = true then lp b F r k (emt (pK x) 0 (F (stp b x))) else x
def lev (b : List Int) : Nat → Nat → Nat → Ps → Ps
  | 0, _, _, x => x
  | n + 1, r, o, x =>
    if 5 ≤ r then
      (if pK x = 2 ∨ pK x = 3 then stp b (emt (pK x) (pV x) x)
      else if pK x = 45 ∧ o < 5 then emt 4 0 (lev b n 5 (o + 1) (stp b x))
      else if pK x = 40 ∧ o < 5 then ned b 41 (lev b n 0 (o + 1) (stp b x))
      else fai x)
    else if r = 2 ∧ pK x = 15 then (if o < 5 then emt 15 0 (lev b n 2 (o + 1) (stp b x)) else fai x)
    else lp b (lev b n (r + 1) o) r (if r = 2 then 1 else 160) (lev b n (r + 1) o x)
def isX (o : Int) : Prop := o ∈ ([64, 68, 72, 76, 80, 84] : List Int)
theorem isX_k {o : Int} (h : isX o) : (kc K0 o = some (4, 4) ∧ kc K0 (o + 1) = some (8, 160) ∧ kc K0 (o + 2) = some (8, 160) ∧ kc K0 (o + 3) = some (8, 3)) ∧ 64 ≤ o ∧ o ≤ 84 := by
  have key : ∀ o ∈ ([64, 68, 72, 76, 80, 84] : List Int), (kc K0 o = some (4, 4) ∧ kc K0 (o + 1) = some (8, 160) ∧ kc K0 (o + 2) = some (8, 160) ∧ kc K0 (o + 3) = some (8, 3)) ∧ 64 ≤ o ∧ o ≤ 84 := by decide +kernel
  exact key o h
theorem isX_s {M : dM} (hs : Sk M) {o : Int} (h : isX o) : M o 0 = o + 1 ∧ M o 1 = o + 2 ∧ M o 2 = o + 3 := by
  have key : ∀ o ∈ ([64, 68, 72, 76, 80, 84] : List Int), (o, 0, o + 1) ∈ SKL ∧ (o, 1, o + 2) ∈ SKL ∧ (o, 2, o + 3) ∈ SKL := by decide +kernel
  have k := key o h
  exact ⟨hs _ k.1, hs _ k.2.1, hs _ k.2.2⟩
theorem isX_rf {o : Int} (h : isX o) : isRf o 3 = false ∧ (∀ k, isRf (o + 1) k = false) ∧ (∀ k, isRf (o + 2) k = false) ∧ ∀ k, isRf (o + 3) k = false := by
  have key : ∀ o ∈ ([64, 68, 72, 76, 80, 84] : List Int), isRf o 3 = false ∧ SKL.all (fun q => !(q.1 == o + 1)) = true ∧ SKL.all (fun q => !(q.1 == o + 2)) = true ∧ SKL.all (fun q => !(q.1 == o + 3)) = true := by decide +kernel
  have k := key o h
  exact ⟨k.1, isRf_cell k.2.1, isRf_cell k.2.2.1, isRf_cell k.2.2.2⟩
theorem RF.sk {o : Int} {M M' : dM} (h : RF o M M') (ho : isX o) (hs : Sk M) : Sk M' := Sk_of hs fun x k hq => by
  have q := isX_rf ho
  refine h x k (fun z => ?_) (fun z y => ?_) (fun z => ?_) (fun z => ?_)
  · by_cases p : 2 ≤ k ∧ k ≤ 6
    · rw [z, rf_88 k p.1 p.2] at hq; cases hq
    · omega
  · rw [z, y, q.1] at hq; cases hq
  · rw [z, q.2.1] at hq; cases hq
  · rw [z, q.2.2.1] at hq; cases hq
theorem RF.tp {o : Int} {M M' : dM} (h : RF o M M') (ho : isX o) {b : List Int} (hk : KV 88 1 89 M b) : KV 88 1 89 M' b := by
  have q := (isX_k ho).2
  exact hk.up (h 88 1 (fun _ => by omega) (by omega) (by omega) (by omega)) fun j _ _ => h 89 j (fun z => absurd z (by decide)) (by omega) (by omega) (by omega)
def TX (o : Int) (M : dM) (c : List (Int × Int)) : Prop := M o 3 = c.length ∧ ∀ (i : Nat) (h : i < c.length), M (o + 1) i = c[i].1 ∧ M (o + 2) i = c[i].2
def CQ (o : Int) (b : List Int) (M : dM) (x : Ps) : Prop := (Sk M ∧ KV 88 1 89 M b ∧ M 88 7 = o) ∧ (M 88 4 = pK x ∧ (pK x = 2 ∨ pK x = 3 → M 88 5 = pV x) ∧ M 88 3 = pS x ∧ M 88 2 = pP x ∧ M 88 6 = pF x) ∧ (pS x ≤ b.length ∧ pP x ≤ b.length) ∧ TX o M (pC x) ∧ (pC x).length ≤ 160
theorem TX.lx {o : Int} {M M' : dM} (h : LX M M') (ho : isX o) {c : List (Int × Int)} (ht : TX o M c) : TX o M' c := by
  have q := (isX_k ho).2
  exact ⟨(h o 3 (by omega)).trans ht.1, fun i hi => ⟨(h (o + 1) i (by omega)).trans (ht.2 i hi).1, (h (o + 2) i (by omega)).trans (ht.2 i hi).2⟩⟩
theorem step_q {sc : dS} {d : Nat} {o : Int} {b : List Int} {M : dM} {x : Ps} (ho : isX o) (hb : b.length ≤ 160) (h : CQ o b M x) : ∃ M' : dM, vc sc (d + 6) 26 [(2, 88)] (K0, M) = some ([], (K0, M')) ∧ CQ o b M' (stp b x) ∧ RF o M M' := by
  obtain ⟨M', a1, a2, a3, a4, a5, a6, a7⟩ := step_ok (sc := sc) (d := d) h.1.1 hb h.1.2.1 h.2.2.1.2 h.2.1.2.2.2.1
  have g := scn_le h.2.2.1.2
  refine ⟨M', a1, ⟨⟨a2.sk h.1.1, a2.tp h.1.2.1, (a2 88 7 (fun _ => by omega)).trans h.1.2.2⟩, ⟨a3, a4, a5, a6, a7.trans h.2.1.2.2.2.2⟩, ⟨?_, ?_⟩, h.2.2.2.1.lx a2 ho, h.2.2.2.2⟩, a2.to o⟩
  · show (scn b (pP x)).2.2.1 ≤ _; omega
  · show (scn b (pP x)).2.2.2 ≤ _; omega
theorem fail_q {sc : dS} {d : Nat} {o : Int} {b : List Int} {M : dM} {x : Ps} (ho : isX o) (hb : b.length ≤ 160) (h : CQ o b M x) : ∃ M' : dM, vc sc (d + 1) 20 [(2, 88)] (K0, M) = some ([], (K0, M')) ∧ CQ o b M' (fai x) ∧ RF o M M' := by
  rw [vc_s (md := m_X1_fail) (L := [(2, 88)]) rfl (Nat.le_of_ble_eq_true rfl) rfl]
  show ∃ M', vr sc d c_X1_fail (0, [(2, 88)], [], (K0, M)) = _ ∧ _
  obtain ⟨⟨h1, h2, h3⟩, ⟨h4, h5, h6, h7, h8⟩, ⟨h9, h10⟩, h11, h12⟩ := h
  rw [e_X1_fail_0, if_pos (show og K0 1 88 6 = true from rfl), h8]
  by_cases p : ¬ pF x = -1
  · have lx : LX M (d_up M 88 4 1) := LX.up (by decide) _
    rw [if_pos p, if_pos (show og K0 1 88 4 = true from rfl), if_pos (by decide)]
    refine ⟨_, rfl, ⟨⟨lx.sk h1, lx.tp h2, (lx 88 7 (fun _ => by omega)).trans h3⟩, ⟨d_up_at _ _ _ _, ?_, ?_, ?_, ?_⟩, ⟨h9, h10⟩, h11.lx lx ho, h12⟩, lx.to o⟩
    · intro z; exact absurd (show (1 : Int) = 2 ∨ (1 : Int) = 3 from z) (by decide)
    · rw [d_up_n2 _ (by decide)]; exact h6
    · rw [d_up_n2 _ (by decide)]; exact h7
    · rw [d_up_n2 _ (by decide), h8]
      show pF x = if pF x = -1 then (pS x : Int) else pF x
      rw [if_neg p]
  · have p := Classical.not_not.mp p
    have lx : LX M (d_up (d_up M 88 6 (pS x : Int)) 88 4 1) := (LX.up (by decide) _).tr (LX.up (by decide) _)
    rw [if_neg (fun z => z p), if_pos (show og K0 1 88 3 = true from rfl), if_pos (show og K0 1 88 6 = true from rfl), h6, if_pos ⟨by omega, by omega⟩, if_pos (show og K0 1 88 4 = true from rfl), if_pos (by decide)]
    refine ⟨_, rfl, ⟨⟨lx.sk h1, lx.tp h2, (lx 88 7 (fun _ => by omega)).trans h3⟩, ⟨d_up_at _ _ _ _, ?_, ?_, ?_, ?_⟩, ⟨h9, h10⟩, h11.lx lx ho, h12⟩, lx.to o⟩
    · intro z; exact absurd (show (1 : Int) = 2 ∨ (1 : Int) = 3 from z) (by decide)
    · rw [d_up_n2 _ (by decide), d_up_n2 _ (by decide)]; exact h6
    · rw [d_up_n2 _ (by decide), d_up_n2 _ (by decide)]; exact h7
    · rw [d_up_n2 _ (by decide), d_up_at]
      show (pS x : Int) = if pF x = -1 then (pS x : Int) else pF x
      rw [if_pos p]
