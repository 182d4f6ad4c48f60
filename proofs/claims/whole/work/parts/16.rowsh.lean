
section DPUT
variable {p : Program} {l : Launch} {e : Env} {R : Room} {s : State} {m : MethodId} {args : Array Value} {below : List Frame} {meth : Method} {c : Code} {H : Heap} {locs : List Loc} {cells slots : Nat} {Q : State → Prop}
variable {cc : ByteArray} {pc : Nat} {ls : Array Slot} {rest : List Value} {D : va_G} {cl : List vw_C} {A : Nat → Prop} {a : Nat} {tys : List (ClassId × FieldType)} {ws : va_W} {H0 : Heap}
theorem d_va_put (hexec : p.tables.exec = Jvm.exec) (hb : c.code = cc) {own ref C : String} {T : u_T} {N ci index : Nat} {Ts : List Cond} (hts : ∀ w ∈ Ts, w.before args s = true) (hin : ∀ w ∈ u_ws C T N, w ∈ Ts) (ty0 : Nat → FieldType) (hty : ∀ k, k < N → parseFieldDescriptor (T k).2.2.1 = some (ty0 k)) (hnm : ∀ a, a < N → ∀ b, b < N → a ≠ b → (T a).2.1 ≠ (T b).2.1) (hown : s.vm.findClass own = some m.cls) (hK : va_K D cl tys s) (hP : va_P D cl ws H) (hD : va_D A ws) (hS0 : va_S A H0 H locs) (q0 : Nat) {fs : List Value} (he : ws[q0]? = some (a, .inr (ci, fs))) (hc : cl[ci]? = some (C, T, N)) (k : Nat) (hk : k < N) (hlink : (Cond.fieldLink own index ref (T k).2.1 (T k).2.2.1).before args s = true) (hsame : ∀ x, s.fieldFound? (T k).1 (T k).2.1 (T k).2.2.1 = some x → s.fieldFound? ref (T k).2.1 (T k).2.2.1 = some x) (hfin : (T k).2.2.2 = false) {ty : FieldType} {v : Value} (hd : parseFieldDescriptor (T k).2.2.1 = some ty) (hn : narrow ty v = v) (hfit : fits ty v = true) (hl : k < fs.length)
    (hdg : decode cc pc = .ok (.putfield index, 3)) (kk : ∀ (H1 : Heap) (locs1 : List Loc), H1.size = H.size → va_P D cl (ws.set q0 (a, .inr (ci, fs.set k v))) H1 → va_S A H0 H1 locs1 → W p l e R s m args below meth c H1 locs1 cells slots Q (F0 m (pc + 3) ls rest)) : W p l e R s m args below meth c H locs cells slots Q (F0 m pc ls (v :: .ref a :: rest)) := by
  have hap := va_apart (own := own) hts hin ty0 hty hnm hK hc
  obtain ⟨r, h1, cell, q1, q2, q3, q4⟩ := hP q0 _ he
  have hr : r = (C, T, N) := Option.some.inj (h1.symm.trans hc)
  subst hr
  obtain ⟨hS, hfc, kC, hkC, hkind⟩ := hK.1 ci _ hc
  obtain ⟨cf, kf, fi, f, hi, hsl⟩ := hS k hk
  have hlay := hts _ (hin _ (u_in_lay hk))
  unfold u_lay at hlay
  rw [if_neg (by rw [hfin]; decide)] at hlay
  have hst := (u_facts hfc hkC (u_lays hts hin hk) hi).1
  have h6 := u_store hfc hkC hkind hlay hi hd hn hfit
  refine W.putK hexec hb (f := f) ⟨hown, hlink, ⟨_, _, _, hsame _ hi⟩, hst⟩ (by rw [q2]; exact h6) q1 q3 (by rw [hsl]; exact k2_hasslot (q4 k hk)) rfl rfl hdg fun H' e1 e2 e3 => ?_
  rw [hsl] at e1 ⊢
  exact kk H' _ e2 (hP.set hD he ⟨_, hc, t_OB.to (V := updV (vp_V fs) k v) ⟨_, e1, q2, q3, t_set q4 hap hk v⟩ (fun j _ => vp_updV_set hl v j)⟩ e3) (hS0.put e2 e3 (hD.2 q0 _ he))
theorem d_va_putF (hexec : p.tables.exec = Jvm.exec) (hb : c.code = cc) {own ref C : String} {T : u_T} {N ci index : Nat} {Ts : List Cond} (hts : ∀ w ∈ Ts, w.before args s = true) (hin : ∀ w ∈ u_ws C T N, w ∈ Ts) (ty0 : Nat → FieldType) (hty : ∀ k, k < N → parseFieldDescriptor (T k).2.2.1 = some (ty0 k)) (hnm : ∀ a, a < N → ∀ b, b < N → a ≠ b → (T a).2.1 ≠ (T b).2.1) (hown : s.vm.findClass own = some m.cls) (hK : va_K D cl tys s) (hP : va_P D cl ws H) (hD : va_D A ws) (hS0 : va_S A H0 H locs) (q0 : Nat) {fs : List Value} (he : ws[q0]? = some (a, .inr (ci, fs))) (hc : cl[ci]? = some (C, T, N)) (k : Nat) (hk : k < N) (hlink : (Cond.fieldLink own index ref (T k).2.1 (T k).2.2.1).before args s = true) (hsame : ∀ x, s.fieldFound? (T k).1 (T k).2.1 (T k).2.2.1 = some x → s.fieldFound? ref (T k).2.1 (T k).2.2.1 = some x) (hfin : (T k).2.2.2 = true) (hin2 : meth.name = "<init>") (hdecl : (T k).1 = own) {ty : FieldType} {v : Value} (hd : parseFieldDescriptor (T k).2.2.1 = some ty) (hn : narrow ty v = v) (hfit : fits ty v = true) (hl : k < fs.length)
    (hdg : decode cc pc = .ok (.putfield index, 3)) (kk : ∀ (H1 : Heap) (locs1 : List Loc), H1.size = H.size → va_P D cl (ws.set q0 (a, .inr (ci, fs.set k v))) H1 → va_S A H0 H1 locs1 → W p l e R s m args below meth c H1 locs1 cells slots Q (F0 m (pc + 3) ls rest)) : W p l e R s m args below meth c H locs cells slots Q (F0 m pc ls (v :: .ref a :: rest)) := by
  have hap := va_apart (own := own) hts hin ty0 hty hnm hK hc
  obtain ⟨r, h1, cell, q1, q2, q3, q4⟩ := hP q0 _ he
  have hr : r = (C, T, N) := Option.some.inj (h1.symm.trans hc)
  subst hr
  obtain ⟨hS, hfc, kC, hkC, hkind⟩ := hK.1 ci _ hc
  obtain ⟨cf, kf, fi, f, hi, hsl⟩ := hS k hk
  have hlay := hts _ (hin _ (u_in_lay hk))
  unfold u_lay at hlay
  rw [if_pos hfin] at hlay
  have hst := (u_facts hfc hkC (u_lays hts hin hk) hi).1
  have hcf : m.cls = cf := by
    obtain ⟨_, _, c', _, _, _, -, -, hf', -, -, -, hown2, -⟩ := Cond.laysFinal_spec hlay
    have e1 : c' = cf := by have := hi.symm.trans hf'; simp at this; exact this.1.symm
    rw [hdecl] at hown2
    rw [← e1]; exact Option.some.inj (hown.symm.trans hown2)
  have h6 := u_fits hfc hkC hkind (Or.inr hlay) hi hd hn hfit
  refine W.putFinK hexec hb hown hlink (hsame _ hi) hst hcf hin2 (by rw [q2]; exact h6) q1 q3 (by rw [hsl]; exact k2_hasslot (q4 k hk)) rfl rfl hdg fun H' e1 e2 e3 => ?_
  rw [hsl] at e1 ⊢
  exact kk H' _ e2 (hP.set hD he ⟨_, hc, t_OB.to (V := updV (vp_V fs) k v) ⟨_, e1, q2, q3, t_set q4 hap hk v⟩ (fun j _ => vp_updV_set hl v j)⟩ e3) (hS0.put e2 e3 (hD.2 q0 _ he))
theorem d_va_iast (hexec : p.tables.exec = Jvm.exec) (hb : c.code = cc) (hK : va_K D cl tys s) (hP : va_P D cl ws H) (hD : va_D A ws) (hS : va_S A H0 H locs) (q0 t0 : Nat) {cA : ClassId} {n : Nat} {f : Nat → Int32} (ha : ws[q0]? = some (a, .inl (cA, n, .inl f))) (ht : tys[t0]? = some (cA, .int)) {i : Int32} {x : Int32} (hin : vp_in i n) (hdg : decode cc pc = .ok (.iastore, 1))
    (kk : ∀ (H1 : Heap) (locs1 : List Loc), H1.size = H.size → va_P D cl (ws.set q0 (a, .inl (cA, n, .inl (upd f i.toNatClampNeg x)))) H1 → va_S A H0 H1 locs1 → W p l e R s m args below meth c H1 locs1 cells slots Q (F0 m (pc + 1) ls rest)) : W p l e R s m args below meth c H locs cells slots Q (F0 m pc ls (.int x :: .int i :: .ref a :: rest)) := by
  refine W.iast hexec hb (hP q0 _ ha) ((hK.2 t0 _ ht).1 n (fun j => .int (f j))) (fun q => by cases q) (by show ¬ (i < 0 ∨ (arrV _ _ _).slots.size ≤ _); rw [arrV_size]; exact hin) rfl rfl hdg fun H1 e z oq => ?_
  refine kk H1 _ z (hP.set hD ha ?_ oq) (hS.put z oq (hD.2 q0 _ ha))
  show H1[a]? = some (vp_cell _ _)
  rw [e]
  rw [vp_cell_i, vp_cell_i, arrV_store]
  congr 2
  funext q
  by_cases hq : q = i.toNatClampNeg
  · subst hq
    simp [updV, upd]
  · simp [updV, upd, hq]
theorem d_va_zast (hexec : p.tables.exec = Jvm.exec) (hb : c.code = cc) (hK : va_K D cl tys s) (hP : va_P D cl ws H) (hD : va_D A ws) (hS : va_S A H0 H locs) (q0 t0 : Nat) {cA : ClassId} {n : Nat} {f : Nat → Int32} (ha : ws[q0]? = some (a, .inl (cA, n, .inl f))) (ht : tys[t0]? = some (cA, .boolean)) {i : Int32} {x : Int32} (hin : vp_in i n) (hdg : decode cc pc = .ok (.bastore, 1))
    (kk : ∀ (H1 : Heap) (locs1 : List Loc), H1.size = H.size → va_P D cl (ws.set q0 (a, .inl (cA, n, .inl (upd f i.toNatClampNeg (vp_nar .boolean x))))) H1 → va_S A H0 H1 locs1 → W p l e R s m args below meth c H1 locs1 cells slots Q (F0 m (pc + 1) ls rest)) : W p l e R s m args below meth c H locs cells slots Q (F0 m pc ls (.int x :: .int i :: .ref a :: rest)) := by
  refine W.zast hexec hb (hP q0 _ ha) ((hK.2 t0 _ ht).1 n (fun j => .int (f j))) (fun q => by cases q) (by show ¬ (i < 0 ∨ (arrV _ _ _).slots.size ≤ _); rw [arrV_size]; exact hin) rfl rfl hdg fun H1 e z oq => ?_
  refine kk H1 _ z (hP.set hD ha ?_ oq) (hS.put z oq (hD.2 q0 _ ha))
  show H1[a]? = some (vp_cell _ _)
  rw [e]
  rw [vp_cell_i, vp_cell_i, arrV_store]
  congr 2
  funext q
  by_cases hq : q = i.toNatClampNeg
  · subst hq
    simp [updV, upd, vp_nar]
    try rfl
  · simp [updV, upd, hq]
theorem d_va_astq (hexec : p.tables.exec = Jvm.exec) (hb : c.code = cc) (hK : va_K D cl tys s) (hP : va_P D cl ws H) (hD : va_D A ws) (hS : va_S A H0 H locs) (q0 t0 qk ci : Nat) {cA : ClassId} {r : vw_C} {n v : Nat} {vs : List Value} {f : Nat → Option Nat} (ha : ws[q0]? = some (a, .inl (cA, n, .inr (.inr (.inr (.inr f)))))) (ht : tys[t0]? = some (cA, .object r.1)) (hv : ws[qk]? = some (v, .inr (ci, vs))) (hc : cl[ci]? = some r) {i : Int32} (hin : vp_in i n) (hdg : decode cc pc = .ok (.aastore, 1))
    (kk : ∀ (H1 : Heap) (locs1 : List Loc), H1.size = H.size → va_P D cl (ws.set q0 (a, .inl (cA, n, .inr (.inr (.inr (.inr (va_up f i.toNatClampNeg (some v)))))))) H1 → va_S A H0 H1 locs1 → W p l e R s m args below meth c H1 locs1 cells slots Q (F0 m (pc + 1) ls rest)) : W p l e R s m args below meth c H locs cells slots Q (F0 m pc ls (.ref v :: .int i :: .ref a :: rest)) := by
  have hlt : i.toNatClampNeg < n := Nat.not_le.mp fun q => hin (Or.inr q)
  have h0 : ¬ i < 0 := fun q => hin (Or.inl q)
  obtain ⟨r', hr', cellV, g1, g2, g3, -⟩ := hP qk _ hv
  have hcls := (hK.1 ci r hc).2
  obtain ⟨kA, comp, k1, k2, k3, -⟩ := (hK.2 t0 _ ht).2
  have hcomp : comp = D.1 ci := Option.some.inj (k3.symm.trans hcls.1)
  subst hcomp
  obtain ⟨kC, hkC, -⟩ := hcls.2
  refine W.aast hexec hb (hP q0 _ ha) (fun q h => by cases h) (fun h => by cases h) k1 k2 rfl hkC ⟨h0, by show _ < (arrV _ _ _).slots.size; rw [arrV_size]; exact hlt⟩ g1 (fun q h => by rw [g3] at h; cases h) (by rw [g2]; exact hkC) (by rw [g2]; exact va_assign hcls) rfl rfl hdg fun H1 e z oq => ?_
  refine kk H1 _ z (hP.set hD ha ?_ oq) (hS.put z oq (hD.2 q0 _ ha))
  show H1[a]? = some (vp_cell _ _)
  rw [e]
  rw [vp_cell_q, vp_cell_q, arrV_store]
  congr 2
  funext q
  by_cases hq : q = i.toNatClampNeg
  · subst hq
    simp [updV, va_up, va_rf]
  · simp [updV, va_up, hq]
end DPUT
/-- the heap's rows: what a step of the heap asks and gives -/
def d_RH (P : Nat → Option dD) (ini : Bool) (own : String) (cc : ByteArray) (nL pc op len : Nat) (a b : Int) : Prop :=
  ∀ (p : Program) (l : Launch) (e : Env) (R : Room) (s : State) (m : MethodId) (args : Array Value) (below : List Frame) (meth : Method) (c : Code) (G : dG) (sc : dS) (Q : State → Prop) (H : Heap) (locs : List Loc) (n0 s0 : Nat) (L st : List dV) (h : dH) (x' : dC) (ls : Array Slot),
    d_Cx p s m args c own cc nL G sc → (ini = true → meth.name = "<init>") → 1 ≤ R.frames → 40 ≤ R.locals → d_Rg (pc, L, st, h) → H.size = G.1 + h.1.length → va_P G.2.2.1 vwCl (d_ws G h) H → va_S (d_A G) s.heap H locs → d_has G ls nL L →
    d_hp sc op len a b pc L st h = some x' → n0 ≤ h.1.length → s0 ≤ d_sl h.1 → x'.2.2.2.1.length ≤ n0 + R.cells → d_sl x'.2.2.2.1 ≤ s0 + R.slots →
    d_WA p l e R s m args below meth c G n0 s0 nL Q x' → W p l e R s m args below meth c H locs (h.1.length - n0) (d_sl h.1 - s0) Q (F0 m pc ls (st.map (d_cv G)))
def d_isH (op : Nat) : Bool := op == 16 || op == 17 || op == 18 || op == 19 || (decide (22 ≤ op) && decide (op ≤ 27)) || op == 29 || op == 30 || op == 40 || op == 34
theorem row_hp {P : Nat → Option dD} {ini : Bool} {own : String} {cc : ByteArray} {nL pc op len : Nat} {a b : Int} (hop : d_isH op = true) (hF : d_RH P ini own cc nL pc op len a b) : d_Row P ini own cc nL pc (op, len, a, b, []) := by
  rintro p l e R s m args below meth c G sc d cf n0 s0 Q ⟨pc', L, st, h⟩ x' C hini hct hf hlo rfl hs hn hs0 hR1 hR2 k hg H locs ls hz hP hS hL
  have h1 : ¬ op = 28 := by intro z; subst z; cases hop
  have h2 : (op = 16 ∨ op = 17 ∨ op = 18 ∨ op = 19 ∨ (22 ≤ op ∧ op ≤ 27) ∨ op = 29 ∨ op = 30 ∨ op = 40 ∨ op = 34) := by
    simp [d_isH] at hop
    omega
  have hs : d_hp sc op len a b pc' L st h = some x' := by
    rw [← hs]
    unfold d_step
    rw [if_neg h1, if_pos h2]
  exact hF p l e R s m args below meth c G sc Q H locs n0 s0 L st h x' ls C hini (by omega) (by omega) hg hz hP hS hL hs hn hs0 hR1 hR2 k
theorem d_cell_of {h : dH} {r : Int} {c : Nat × Nat} (hc : d_cell h r = some c) : ∃ i : Nat, r = (i : Int) ∧ i < 1000000 ∧ h.1[i]? = some c := by
  unfold d_cell at hc
  by_cases q : 0 ≤ r ∧ r < 1000000
  · rw [if_pos q] at hc
    exact ⟨r.toNat, by omega, by omega, hc⟩
  · rw [if_neg q] at hc
    cases hc
theorem d_vwCl (ci : Nat) (h : ci < 8) : ∃ r : vw_C, vwCl[ci]? = some r := ⟨vwCl[ci], by simp [h]⟩
theorem d_cv_ref (G : dG) {i : Nat} (h : i < 1000000) : d_cv G (2, (i : Int)) = .ref (G.1 + i) := by
  rw [d_cv_r, d_rf_cell G (by omega) (by omega)]
  rfl
theorem d_rv_M {t : FieldType} {x : Int} (h : R32 x) : d_rv (d_tg t, x) := by
  unfold d_rv
  split
  · have := h.1; have := h.2; unfold R64; dsimp only; omega
  · exact h

def d_pt (t : FieldType) : Bool := match t with
  | .int => true
  | .boolean => true
  | .long => true
  | .object _ => true
  | .array _ => true
  | _ => false
theorem d_fits (G : dG) {t : FieldType} {x : Int} (ht : d_pt t = true) (hb : t = .boolean → x = 0 ∨ x = 1) : narrow t (d_cv G (d_tg t, x)) = d_cv G (d_tg t, x) ∧ fits t (d_cv G (d_tg t, x)) = true := by
  cases t with
  | int => exact ⟨rfl, rfl⟩
  | long => exact ⟨rfl, rfl⟩
  | boolean => rcases hb rfl with rfl | rfl <;> exact ⟨rfl, rfl⟩
  | object n =>
    show narrow _ (va_rf (d_rf G x)) = va_rf (d_rf G x) ∧ fits _ (va_rf (d_rf G x)) = true
    cases d_rf G x <;> exact ⟨rfl, rfl⟩
  | array n =>
    show narrow _ (va_rf (d_rf G x)) = va_rf (d_rf G x) ∧ fits _ (va_rf (d_rf G x)) = true
    cases d_rf G x <;> exact ⟨rfl, rfl⟩
  | _ => cases ht
theorem d_E_obj (G : dG) (M : dM) (i : Nat) {tag sz : Nat} (h : tag < 8) : d_E G M i (tag, sz) = .inr (tag, (List.range sz).map (fun k => d_cv G (d_tg (d_ty tag k), M i k))) := by unfold d_E; rw [if_pos h]
theorem d_E_int (G : dG) (M : dM) (i : Nat) {tag sz : Nat} (h : ¬ tag < 8) (h2 : tag < 10) : d_E G M i (tag, sz) = .inl (G.2.2.2 tag, sz, .inl (fun j => Int32.ofInt (M i j))) := by unfold d_E; rw [if_neg h, if_pos h2]
theorem d_E_ref (G : dG) (M : dM) (i : Nat) {tag sz : Nat} (h : ¬ tag < 10) : d_E G M i (tag, sz) = .inl (G.2.2.2 tag, sz, .inr (.inr (.inr (.inr (fun j => d_rf G (M i j)))))) := by unfold d_E; rw [if_neg (by show ¬ tag < 8; omega), if_neg h]
theorem d_up_R {M : dM} {a k v : Int} (h : ∀ i j : Int, R32 (M i j)) (hv : R32 v) : ∀ i j : Int, R32 (d_up M a k v i j) := by
  intro i j
  unfold d_up
  split
  · exact hv
  · exact h i j
theorem d_up_ne {M : dM} {a k v : Int} : ∀ i j : Int, i ≠ a → d_up M a k v i j = M i j := by
  intro i j h
  unfold d_up
  rw [if_neg (fun z => h z.1)]
theorem d_ws_put {G : dG} {K : List (Nat × Nat)} {M : dM} {i tag sz k : Nat} {v : Int} (hc : K[i]? = some (tag, sz)) (h : tag < 8) : d_ws G (K, d_up M i k v) = (d_ws G (K, M)).set i (G.1 + i, .inr (tag, ((List.range sz).map (fun k => d_cv G (d_tg (d_ty tag k), M i k))).set k (d_cv G (d_tg (d_ty tag k), v)))) := by
  rw [d_ws_set hc (fun a j z => d_up_ne a j z), d_E_obj G _ i h]
  congr 4
  apply List.ext_getElem?
  intro j
  rw [List.getElem?_set]
  simp only [List.length_map, List.length_range, List.getElem?_map]
  by_cases hj : j < sz
  · rw [List.getElem?_range hj]
    simp only [Option.map_some]
    by_cases hk : k = j
    · subst hk
      rw [if_pos rfl, if_pos hj]
      simp [d_up]
    · rw [if_neg hk]
      have : ¬ (j : Int) = (k : Int) := by omega
      simp [d_up, this]
  · rw [List.getElem?_eq_none (by simp; omega)]
    split
    · split
      · omega
      · rfl
    · rfl
section DHP
variable {P : Nat → Option dD} {ini : Bool} {own : String} {cc : ByteArray} {nL pc : Nat}
theorem rh_getfield {ci k idx N : Nat} {C : String} {T : u_T} (hd : decode cc pc = .ok (.getfield idx, 3)) (hc : vwCl[ci]? = some (C, T, N)) (hk : k < N) (hu : ∀ w ∈ u_ws C T N, w ∈ lw_gd) (hw : Cond.fieldLink own idx (T k).1 (T k).2.1 (T k).2.2.1 ∈ lw_gd) : d_RH P ini own cc nL pc 16 3 (ci : Int) (k : Int) := by
  rintro p l e R s m args below meth c G sc Q H locs n0 s0 L st h x' ls ⟨hx, hb, hml, hown, hts, hF, hS0⟩ hini hfr hlo hg hz hP hS hL hs hn hs0 hR1 hR2 kk
  cases st with
  | nil => cases hs
  | cons x st =>
    obtain ⟨x1, x2⟩ := x
    have hs2 : (if x1 = 2 then (match d_cell h x2 with
      | some c => if c.1 = ci ∧ c.1 < 8 ∧ k < c.2 then some (pc + 3, L, (d_tg (d_ty c.1 k), h.2 x2 k) :: st, h) else none
      | none => none) else none) = some x' := hs
    by_cases ht : x1 = 2
    · rw [if_pos ht] at hs2
      subst ht
      cases hcl : d_cell h x2 with
      | none => rw [hcl] at hs2; cases hs2
      | some q =>
        rw [hcl] at hs2
        obtain ⟨⟨g1, g2, g3⟩, he⟩ := d_if (show (if q.1 = ci ∧ q.1 < 8 ∧ k < q.2 then some (pc + 3, L, (d_tg (d_ty q.1 k), h.2 x2 k) :: st, h) else none) = some x' from hs2)
        obtain ⟨i, rfl, hi, hcell⟩ := d_cell_of hcl
        obtain ⟨tag, sz⟩ := q
        dsimp only at g1 g2 g3 he
        subst g1
        subst he
        rw [List.map_cons, d_cv_ref G hi]
        have hget := d_ws_get (G := G) hcell
        have eE : d_E G h.2 i (tag, sz) = .inr (tag, (List.range sz).map (fun k => d_cv G (d_tg (d_ty tag k), h.2 i k))) := by unfold d_E; rw [if_pos g2]
        rw [eE] at hget
        refine va_get (D := G.2.2.1) (ci := tag) (C := C) (T := T) (N := N) (v := d_cv G (d_tg (d_ty tag k), h.2 i k)) hx hb hts hu hown hF.1 hP i hget hc k hk (hts _ hw) (fun _ z => z) ?_ hd ?_
        · simp [List.getElem?_map, List.getElem?_range g3]
        · exact kk ⟨hg.1, d_rv_cons (d_rv_M (hg.2.2 _ _)) (d_rv_tl hg.2.1), hg.2.2⟩ H locs ls hz hP hS hL
    · rw [if_neg ht] at hs2
      cases hs2

theorem rh_put_ {ci k idx N : Nat} {C : String} {T : u_T} (hd : decode cc pc = .ok (.putfield idx, 3)) (hc : vwCl[ci]? = some (C, T, N)) (hk : k < N) (hu : ∀ w ∈ u_ws C T N, w ∈ lw_gd) (hw : Cond.fieldLink own idx (T k).1 (T k).2.1 (T k).2.2.1 ∈ lw_gd) (hty : ∀ k, k < N → parseFieldDescriptor (T k).2.2.1 = some (d_ty ci k)) (hnm : ∀ a, a < N → ∀ b, b < N → a ≠ b → (T a).2.1 ≠ (T b).2.1) (hpt : d_pt (d_ty ci k) = true) (hfin : (T k).2.2.2 = false ∨ (T k).2.2.2 = true ∧ ini = true ∧ (T k).1 = own) : d_RH P ini own cc nL pc 17 3 (ci : Int) (k : Int) := by
  rintro p l e R s m args below meth c G sc Q H locs n0 s0 L st h x' ls ⟨hx, hb, hml, hown, hts, hF, hS0⟩ hini hfr hlo hg hz hP hS hL hs hn hs0 hR1 hR2 kk
  cases st with
  | nil => cases hs
  | cons v st => cases st with
    | nil => cases hs
    | cons x st =>
      obtain ⟨x1, x2⟩ := x
      obtain ⟨v1, v2⟩ := v
      have hs2 : (if x1 = 2 then (match d_cell h x2 with
        | some c => if c.1 = ci ∧ c.1 < 8 ∧ k < c.2 ∧ v1 = d_tg (d_ty c.1 k) ∧ (-2147483648 ≤ v2 ∧ v2 < 2147483648) ∧ (d_ty c.1 k = .boolean → v2 = 0 ∨ v2 = 1) then some (pc + 3, L, st, (h.1, d_up h.2 x2 k v2)) else none
        | none => none) else none) = some x' := hs
      by_cases ht : x1 = 2
      · rw [if_pos ht] at hs2
        subst ht
        cases hcl : d_cell h x2 with
        | none => rw [hcl] at hs2; cases hs2
        | some q =>
          rw [hcl] at hs2
          obtain ⟨⟨g1, g2, g3, g4, g5, g6⟩, he⟩ := d_if (show (if q.1 = ci ∧ q.1 < 8 ∧ k < q.2 ∧ v1 = d_tg (d_ty q.1 k) ∧ (-2147483648 ≤ v2 ∧ v2 < 2147483648) ∧ (d_ty q.1 k = .boolean → v2 = 0 ∨ v2 = 1) then some (pc + 3, L, st, (h.1, d_up h.2 x2 k v2)) else none) = some x' from hs2)
          obtain ⟨i, rfl, hi, hcell⟩ := d_cell_of hcl
          obtain ⟨tag, sz⟩ := q
          dsimp only at g1 g2 g3 g4 g6 he
          subst g1
          subst g4
          subst he
          obtain ⟨f1, f2⟩ := d_fits G (x := v2) hpt g6
          rw [List.map_cons, List.map_cons, d_cv_ref G hi]
          have hget := d_ws_get (G := G) hcell
          rw [d_E_obj G _ i g2] at hget
          have key : ∀ (H1 : Heap) (locs1 : List Loc), H1.size = H.size → va_P G.2.2.1 vwCl ((d_ws G h).set i (G.1 + i, .inr (tag, ((List.range sz).map (fun k => d_cv G (d_tg (d_ty tag k), h.2 i k))).set k (d_cv G (d_tg (d_ty tag k), v2))))) H1 → va_S (d_A G) s.heap H1 locs1 → W p l e R s m args below meth c H1 locs1 (h.1.length - n0) (d_sl h.1 - s0) Q (F0 m (pc + 3) ls (st.map (d_cv G))) := by
            intro H1 locs1 e1 hP1 hS1
            have hP1 : va_P G.2.2.1 vwCl (d_ws G (h.1, d_up h.2 i k v2)) H1 := by
              rw [d_ws_put hcell g2]
              exact hP1
            exact kk ⟨hg.1, d_rv_tl (d_rv_tl hg.2.1), d_up_R hg.2.2 ⟨g5.1, g5.2⟩⟩ H1 locs1 ls (e1.trans hz) hP1 hS1 hL
          rcases hfin with hfin | ⟨hfin, hin1, hdecl⟩
          · exact d_va_put (D := G.2.2.1) (ci := tag) (C := C) (T := T) (N := N) hx hb hts hu (d_ty tag) hty hnm hown hF.1 hP (d_ws_D G h) hS i hget hc k hk (hts _ hw) (fun _ z => z) hfin (hty k hk) f1 f2 (by simp; exact g3) hd key
          · exact d_va_putF (D := G.2.2.1) (ci := tag) (C := C) (T := T) (N := N) hx hb hts hu (d_ty tag) hty hnm hown hF.1 hP (d_ws_D G h) hS i hget hc k hk (hts _ hw) (fun _ z => z) hfin (hini hin1) hdecl (hty k hk) f1 f2 (by simp; exact g3) hd key
      · rw [if_neg ht] at hs2
        cases hs2
end DHP
