theorem d_cv_i (G : dG) (x : Int) : d_cv G (0, x) = .int (Int32.ofInt x) := rfl
theorem d_cv_l (G : dG) (x : Int) : d_cv G (1, x) = .long (Int64.ofInt x) := rfl
theorem d_cv_r (G : dG) (x : Int) : d_cv G (2, x) = va_rf (d_rf G x) := rfl
theorem d_rv_0 {x : Int} (h : R32 x) : d_rv (0, x) := h
theorem d_rv_2 {x : Int} (h : R32 x) : d_rv (2, x) := h
theorem d_rv_1 {x : Int} (h : R64 x) : d_rv (1, x) := h
theorem d_rv_cons {v : dV} {st : List dV} (h : d_rv v) (hs : ∀ w ∈ st, d_rv w) : ∀ w ∈ v :: st, d_rv w := List.forall_mem_cons.mpr ⟨h, hs⟩
theorem d_rv_hd {v : dV} {st : List dV} (hs : ∀ w ∈ v :: st, d_rv w) : d_rv v := hs v List.mem_cons_self
theorem d_rv_tl {v : dV} {st : List dV} (hs : ∀ w ∈ v :: st, d_rv w) : ∀ w ∈ st, d_rv w := fun w h => hs w (List.mem_cons_of_mem _ h)
def d_RF (own : String) (cc : ByteArray) (nL pc op len : Nat) (a b : Int) (sw : List (Int × Nat)) : Prop :=
  ∀ (p : Program) (l : Launch) (e : Env) (R : Room) (s : State) (m : MethodId) (args : Array Value) (below : List Frame) (meth : Method) (c : Code) (G : dG) (sc : dS) (Q : State → Prop) (H : Heap) (locs : List Loc) (cells slots : Nat) (L st L' st' : List dV) (pc' : Nat) (ls : Array Slot),
    d_Cx p s m args c own cc nL G sc → va_S (d_A G) s.heap H locs → d_fr op len a b sw pc L st = some (pc', L', st') → (∀ v ∈ L, d_rv v) → (∀ v ∈ st, d_rv v) → d_has G ls nL L →
    (∀ v ∈ L', d_rv v) ∧ (∀ v ∈ st', d_rv v) ∧ ((∀ ls' : Array Slot, d_has G ls' nL L' → W p l e R s m args below meth c H locs cells slots Q (F0 m pc' ls' (st'.map (d_cv G)))) → W p l e R s m args below meth c H locs cells slots Q (F0 m pc ls (st.map (d_cv G))))
def d_isF (op : Nat) : Bool := !(op == 28 || (op == 16 || op == 17 || op == 18 || op == 19 || (decide (22 ≤ op) && decide (op ≤ 27)) || op == 29 || op == 30 || op == 40 || op == 34))
theorem row_fr {P : Nat → Option dD} {ini : Bool} {own : String} {cc : ByteArray} {nL pc op len : Nat} {a b : Int} {sw : List (Int × Nat)} (hop : d_isF op = true) (hF : d_RF own cc nL pc op len a b sw) : d_Row P ini own cc nL pc (op, len, a, b, sw) := by
  rintro p l e R s m args below meth c G sc d cf n0 s0 Q ⟨pc', L, st, h⟩ x' C hini hct hf hlo rfl hs hn hs0 hR1 hR2 k hg H locs ls hz hP hS hL
  have h1 : ¬ op = 28 := by intro z; subst z; cases hop
  have h2 : ¬ (op = 16 ∨ op = 17 ∨ op = 18 ∨ op = 19 ∨ (22 ≤ op ∧ op ≤ 27) ∨ op = 29 ∨ op = 30 ∨ op = 40 ∨ op = 34) := by
    intro z
    simp [d_isF] at hop
    omega
  have hs : (d_fr op len a b sw pc' L st).map (fun z => (z.1, z.2.1, z.2.2, h)) = some x' := by
    rw [← hs]
    unfold d_step
    rw [if_neg h1, if_neg h2]
  obtain ⟨⟨q1, q2, q3⟩, hq, rfl⟩ := Option.map_eq_some_iff.mp hs
  obtain ⟨g1, g2, g3⟩ := hF p l e R s m args below meth c G sc Q H locs (h.1.length - n0) (d_sl h.1 - s0) L st q2 q3 q1 ls C hS hq hg.1 hg.2.1 hL
  exact g3 (fun ls' hL' => k ⟨g1, g2, hg.2.2⟩ H locs ls' hz hP hS hL')
