/-! what holds all along: the tables' words, the constants; a step's law -/
def lw_gd : List Cond := lw_tbl.filter goodWord
theorem gd_in {w : Cond} (h : w ∈ lw_tbl) (hg : goodWord w = true) : w ∈ lw_gd := List.mem_filter.mpr ⟨h, hg⟩
theorem gd_good : GoodIn lw_gd lw_gd := fun w h => ⟨h, good_of_word (List.mem_filter.mp h).2⟩
def d_isNest (w : Cond) : Bool := match w with
  | .methodLinkNest _ _ _ _ => true
  | _ => false
def d_bytes (i : Nat) : List Int32 := (d_str i).map Int32.ofInt
def d_Fc (G : dG) (sc : dS) (U : State) : Prop := ∃ (t b : Nat) (adK adV : Nat → Nat) (f : Option Nat),
  (G.2.1 0 = some t ∧ G.2.1 1 = some b ∧ (∀ i, i < 2 → G.2.1 (2 + i) = some (adK i)) ∧ (∀ i, i < 2 → G.2.1 (4 + i) = some (adV i)) ∧ G.2.1 6 = f) ∧
  va_Z RX6 "ABOVE" "[I" (.ref t) (d_A G) U U.heap ∧ va_T .int t 6 (fun j => .int (Int32.ofInt (d_above.getD j 0))) (d_A G) U U.heap ∧
  (va_X b sc.1 (fun j => Int32.ofInt (sc.2 j)) U U.heap ∧ b < U.heap.size ∧ ¬ d_A G b) ∧
  vk_R RX6 67 "holds turns * 4 + skill ; learns 1 ; reads skill ;" (adK 0) U ∧ vk_R RX1 91 "turns skill walk wet number day holds learns reads or and not " (adK 1) U ∧
  vk_S 2 [50, 62] [d_bytes 0, d_bytes 1] adK adV (d_A G) U U.heap ∧
  va_Z RJ0 "COMPACT_STRINGS" "Z" (.int 1) (d_A G) U U.heap ∧ va_Z RJ3 "SIOOBE_FORMATTER" "Ljava/util/function/BiFunction;" (va_rf f) (d_A G) U U.heap
def d_Fx (G : dG) (sc : dS) (U : State) : Prop :=
  va_K G.2.2.1 vwCl (d_tys G) U ∧ (∀ w ∈ lw_tbl, d_isNest w = true → va_Nw w U) ∧ (va_AO RX0 U ∧ va_AO RX4 U ∧ va_AO RX3 U) ∧ d_Fc G sc U
theorem d_nest_warm {w : Cond} (h : d_isNest w = true) {s U : State} (hW : s.WarmedH U.vm) (hZ : va_Nw w s) : va_Nw w U := by
  cases w <;> first | exact va_Nw.warmM hW hZ | exact Bool.noConfusion h
theorem d_nest_same {w : Cond} (h : d_isNest w = true) {s U : State} (hv : s.vm = U.vm) (hZ : va_Nw w s) : va_Nw w U := by
  cases w <;> first | exact va_Nw.same rfl hv hZ | exact Bool.noConfusion h
/-- the facts go with a warmer machine whose heap has changed in our region alone -/
theorem d_Fx_warm {G : dG} {sc : dS} {s U : State} (hW : s.WarmedH U.vm) (hq : ∀ q : Nat, q < s.heap.size → ¬ d_A G q → U.heap[q]? = s.heap[q]?) (hz : s.heap.size ≤ U.heap.size) (h : d_Fx G sc s) : d_Fx G sc U := by
  obtain ⟨h1, h2, ⟨h3, h4, h5⟩, t, b, adK, adV, f, k0, k1, k2, ⟨k3, k4, k5⟩, k6, k7, k8, k9, k10⟩ := h
  have ha := hW.alike
  exact ⟨h1.moved ha, fun w hw hn => d_nest_warm hn hW (h2 w hw hn), ⟨h3.moved ha, h4.moved ha, h5.moved ha⟩, t, b, adK, adV, f, k0, (k1.moved ha).kept hq, (k2.moved ha).kept hq,
    ⟨(k3.moved ha).kept (hq b k4 k5), Nat.lt_of_lt_of_le k4 hz, k5⟩, vk_R.warm hW k6, vk_R.warm hW k7, (k8.moved ha).kept hq, (k9.moved ha).kept hq, (k10.moved ha).kept hq⟩
theorem d_Fx_same {G : dG} {sc : dS} {s U : State} (hv : s.vm = U.vm) (hh : U.heap = s.heap) (h : d_Fx G sc s) : d_Fx G sc U := by
  obtain ⟨h1, h2, ⟨h3, h4, h5⟩, t, b, adK, adV, f, k0, k1, k2, ⟨k3, k4, k5⟩, k6, k7, k8, k9, k10⟩ := h
  have ha : s.vm.Alike U.vm := by rw [hv]; exact Vm.Alike.refl _
  refine ⟨h1.moved ha, fun w hw hn => d_nest_same hn hv (h2 w hw hn), ⟨h3.moved ha, h4.moved ha, h5.moved ha⟩, t, b, adK, adV, f, k0, ?_⟩
  rw [hh]
  exact ⟨k1.moved ha, k2.moved ha, ⟨k3.moved ha, k4, k5⟩, vk_R.same hv.symm k6, vk_R.same hv.symm k7, k8.moved ha, k9.moved ha, k10.moved ha⟩
def d_rv (v : dV) : Prop := if v.1 = 1 then R64 v.2 else R32 v.2
def d_Rg (x : dC) : Prop := (∀ v ∈ x.2.1, d_rv v) ∧ (∀ v ∈ x.2.2.1, d_rv v) ∧ ∀ i j : Int, R32 (x.2.2.2.2 i j)
def d_sl (K : List (Nat × Nat)) : Nat := (K.map (fun c => c.2)).sum
def d_has (G : dG) (ls : Array Slot) (nL : Nat) (L : List dV) : Prop := ls.size = nL ∧ L.length = nL ∧ lv_wf ls ∧ ∀ (i : Nat) (v : dV), L[i]? = some v → v.1 ≤ 2 → ls[i]? = some (.val (d_cv G v))
/-- a method's start and end, at a heap of numbers -/
def d_Wld (G : dG) (sc : dS) (h : dH) (U : State) : Prop := U.heap.size = G.1 + h.1.length ∧ va_P G.2.2.1 vwCl (d_ws G h) U.heap ∧ (∀ i j : Int, R32 (h.2 i j)) ∧ d_Fx G sc U
def d_Qc (G : dG) (sc : dS) (r : List dV) (h : dH) : Array Value → State → Outcome → State → Prop := fun _ st oc t => oc = .returned ((r.map (d_cv G)).head?) ∧ r.length ≤ 1 ∧ (∀ v ∈ r, d_rv v) ∧ d_Wld G sc h t ∧ va_F (d_A G) st t
def d_rm (d : Nat) (mc ms : Nat) : Room := { frames := d, cells := mc, slots := ms, locals := 40 * d }
/-- the law of a call of depth d -/
def d_CT (l : Launch) (P : Nat → Option dD) (G : dG) (sc : dS) (d : Nat) (cf : dF) : Prop := ∀ (k : Nat) (md : dD) (av : List dV) (h : dH) (r : List dV) (h' : dH), P k = some md → cf k av h = some (r, h') →
  (h.1.length ≤ h'.1.length ∧ d_sl h.1 ≤ d_sl h'.1) ∧ ((∀ v ∈ av, d_rv v) → (∀ i j : Int, R32 (h.2 i j)) → Met l md.1 (.code md.1 md.2.1 md.2.2.1 md.2.2.2.1 :: lw_gd) (d_rm d (h'.1.length - h.1.length) (d_sl h'.1 - d_sl h.1)) (va_Pc (av.map (d_cv G)) (d_Wld G sc h)) (d_Qc G sc r h') (h'.1.length - h.1.length) (d_sl h'.1 - d_sl h.1) (d_A G))
section DCX
variable (p : Program) (l : Launch) (e : Env) (R : Room) (s : State) (m : MethodId) (args : Array Value) (below : List Frame) (meth : Method) (c : Code)
def d_Cx (own : String) (cc : ByteArray) (nL : Nat) (G : dG) (sc : dS) : Prop := p.tables.exec = Jvm.exec ∧ c.code = cc ∧ c.maxLocals = nL ∧ s.vm.findClass own = some m.cls ∧ (∀ w ∈ lw_gd, w.before args s = true) ∧ d_Fx G sc s ∧ G.1 ≤ s.heap.size
def d_WA (G : dG) (n0 s0 nL : Nat) (Q : State → Prop) (x : dC) : Prop :=
  d_Rg x → ∀ (H : Heap) (locs : List Loc) (ls : Array Slot), H.size = G.1 + x.2.2.2.1.length → va_P G.2.2.1 vwCl (d_ws G x.2.2.2) H → va_S (d_A G) s.heap H locs → d_has G ls nL x.2.1 →
    W p l e R s m args below meth c H locs (x.2.2.2.1.length - n0) (d_sl x.2.2.2.1 - s0) Q (F0 m x.1 ls (x.2.2.1.map (d_cv G)))
end DCX
def d_Row (P : Nat → Option dD) (ini : Bool) (own : String) (cc : ByteArray) (nL : Nat) (pc : Nat) (ai : dI) : Prop :=
  ∀ (p : Program) (l : Launch) (e : Env) (R : Room) (s : State) (m : MethodId) (args : Array Value) (below : List Frame) (meth : Method) (c : Code) (G : dG) (sc : dS) (d : Nat) (cf : dF) (n0 s0 : Nat) (Q : State → Prop) (x x' : dC),
    d_Cx p s m args c own cc nL G sc → (ini = true → meth.name = "<init>") → d_CT l P G sc d cf → d + 1 ≤ R.frames → 40 * (d + 1) ≤ R.locals → x.1 = pc → d_step sc cf ai x = some x' →
    n0 ≤ x.2.2.2.1.length → s0 ≤ d_sl x.2.2.2.1 → x'.2.2.2.1.length ≤ n0 + R.cells → d_sl x'.2.2.2.1 ≤ s0 + R.slots → 
    d_WA p l e R s m args below meth c G n0 s0 nL Q x' → d_WA p l e R s m args below meth c G n0 s0 nL Q x
