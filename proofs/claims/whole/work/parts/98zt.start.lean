/-! THE CLAIM OUT OF ONE WALK OF THE LAW'S BODY. Your part is whole_start (and what it stands on); all else here is the same for every law, but numbers. -/
def R_law : String := "LadsTieShoesLaw"
def lw_P (b : Addr) (xs : List Int32) (args : Array Value) (s : State) : Prop := args = #[.ref b] ∧ s.IntsAt b xs ∧ xs.length ≤ 3072 ∧ (Jvm.Cond.and given_1 narrow_1).before args s = true
def lw_Q (_ : Array Value) (s : State) (o : Outcome) (t : State) : Prop := o = .returned (some (.int 1)) ∧ Framed s o t [] 600000 7302249
def lw_Z (below : List Frame) (a : Array Value) (s : State) : State → Prop := fun t => ∃ o, t.status = .running ∧ Ended t below o ∧ lw_Q a s o t
/-- the law's own end, with 1 on the stack, nothing written that was there before, its room as the claim has it -/
theorem lw_ret {p : Program} {l : Launch} {e : Env} {s : State} {m : MethodId} {below : List Frame} {meth : Method} {c : Code} {b : Nat} (hx : p.tables.exec = Jvm.exec) (hb : c.code = code) (hr : meth.sig.returnType = ret) (hlocks : meth.locks = false) {pc : Nat} {H : Heap} {ls : Array Slot} (hdg : decode code pc = .ok (.ireturn, 1)) : W p l e room_1 s m #[Value.ref b] below meth c H [] 600000 7302249 (lw_Z below #[Value.ref b] s) (F0 m pc ls [.int 1]) := by
  intro T hT X
  obtain ⟨fs, hret, hrun, hended, hW, hframe⟩ := X.leave (v := some (.int 1)) (hlocks := hlocks) (fun h => by rw [hr] at h; cases h)
  have hmeth' : T.vm.method? m = some meth := X.method'
  refine ⟨T.setFrames fs, ?_, .returned (some (.int 1)), hrun, hended, rfl, ⟨_, rfl⟩, hW, hframe⟩
  jvm_step X.here [X.here.top, hx, hb, hdg, hmeth', hr, ret, narrow_b1]
  (try refine ⟨rfl, ?_⟩); (try refine ⟨rfl, ?_⟩)
  first | (intro acts; rw [hret _ acts rfl rfl rfl]) | rw [hret _ _ rfl rfl rfl]
  exact Steps.refl _
/-- what holds at the law's entry: the machine, the code, the tables' words (any of lw_tbl by 'hts w (by decide +kernel)'), the script of L ints xs at the cell b, what the Statement gives of the start (any of its parts by flat_of_before) -/
def lw_At (p : Program) (s : State) (m : MethodId) (meth : Method) (c : Code) (b L : Nat) (xs : Nat → Int32) : Prop :=
  p.tables.exec = Jvm.exec ∧ c.code = code ∧ meth.sig.returnType = ret ∧ c.maxLocals = 4 ∧ s.vm.findClass R_law = some m.cls ∧ (∀ w ∈ lw_tbl, w.before #[Value.ref b] s = true) ∧ va_X b L xs s s.heap ∧ b < s.heap.size ∧ meth.locks = false ∧ (Jvm.Cond.and given_1 narrow_1).before #[Value.ref b] s = true
/-! what holds at the law's entry -/
theorem gd_tb {w : Cond} (h : w ∈ lw_gd) : w ∈ lw_tbl := (List.mem_filter.mp h).1
def nwC : List Cond := flatC (Jvm.Cond.and given_1 narrow_1)
def tmS (i : Nat) : Term := if i = 0 then .string RX6 67 else .string RX1 91
def tmV (i : Nat) : Term := .field (tmS i) "java/lang/String" "value" "[B"
def tmA : Term := .static RX6 "ABOVE" "[I"
def lnS : List Nat := [50, 62]
def byS : List (List Int32) := [d_bytes 0, d_bytes 1]
def psS (i : Nat) : Nat := if i = 0 then 42 else 96
theorem nw_S : ∀ i ∈ List.range 2, (nwC[psS i]? = some (Cond.exactly (tmS i) "java/lang/String") ∧ nwC[psS i + 1]? = some (Cond.eq (.field (tmS i) "java/lang/String" "coder" "B") (.int 0)) ∧ nwC[psS i + 2]? = some (Cond.arrayOf (tmV i) .byte) ∧ nwC[psS i + 3]? = some (Cond.eq (.length (tmV i)) (.int (Int32.ofNat (lnS.getD i 0))))) := by decide +kernel
theorem nw_B : ∀ i ∈ List.range 2, ∀ j ∈ List.range (lnS.getD i 0), nwC[psS i + 4 + j]? = some (Cond.eq (.elem (tmV i) (.int (Int32.ofNat j))) (.int ((byS.getD i []).getD j 0))) := by decide +kernel
theorem nw_A : nwC[10]? = some (Cond.arrayOf tmA .int) ∧ nwC[11]? = some (Cond.eq (.length tmA) (.int (Int32.ofNat 6))) ∧ ∀ j ∈ List.range 6, nwC[12 + j]? = some (Cond.eq (.elem tmA (.int (Int32.ofNat j))) (.int (Int32.ofInt (d_above.getD j 0)))) := by decide +kernel
theorem nw_C : nwC[4]? = some (Cond.eq (.static RJ0 "COMPACT_STRINGS" "Z") (.int 1)) ∧ nwC[5]? = some (Cond.isRef (.static RJ3 "SIOOBE_FORMATTER" "Ljava/util/function/BiFunction;")) ∧ nwC[162]? = some (Cond.not (Cond.eq (tmS 0) (tmS 1))) := by decide +kernel
theorem tw_o0 : Cond.arrayOver (.object RX0) ∈ lw_tbl := tb_1 _ (List.mem_of_getElem? (i := 31) (by decide +kernel))
theorem tw_o4 : Cond.arrayOver (.object RX4) ∈ lw_tbl := tb_1 _ (List.mem_of_getElem? (i := 105) (by decide +kernel))
theorem tw_o3 : Cond.arrayOver (.object RX3) ∈ lw_tbl := tb_1 _ (List.mem_of_getElem? (i := 182) (by decide +kernel))
theorem tw_s0 : Cond.stringRef RX6 67 "holds turns * 4 + skill ; learns 1 ; reads skill ;" ∈ lw_tbl := tb_1 _ (List.mem_of_getElem? (i := 203) (by decide +kernel))
theorem tw_s1 : Cond.stringRef RX1 91 "turns skill walk wet number day holds learns reads or and not " ∈ lw_tbl := tb_2 _ (List.mem_of_getElem? (i := 35) (by decide +kernel))
theorem tw_l0 : Cond.laysStatic RJ0 "COMPACT_STRINGS" "Z" ∈ lw_tbl := tb_1 _ (List.mem_of_getElem? (i := 213) (by decide +kernel))
theorem tw_l1 : Cond.laysStatic RJ3 "SIOOBE_FORMATTER" "Ljava/util/function/BiFunction;" ∈ lw_tbl := tb_1 _ (List.mem_of_getElem? (i := 229) (by decide +kernel))
theorem tw_l2 : Cond.laysStatic RX6 "ABOVE" "[I" ∈ lw_tbl := tb_4 _ (List.mem_of_getElem? (i := 23) (by decide +kernel))
theorem d_nest_of {w : Cond} (h : d_isNest w = true) {A : Array Value} {U : State} (hw : w.before A U = true) : va_Nw w U := by
  cases w <;> first | exact va_Nw.of rfl hw | exact Bool.noConfusion h
/-- an array class of whole numbers -/
theorem st_arr {A : Array Value} {s : State} {ty : FieldType} (h : (Cond.arrayClass ty).before A s = true) : ∃ cA : ClassId, ArrOfT s cA ty ∧ s.vm.findClass ("[" ++ ty.toString) = some cA := by
  obtain ⟨cA, kA, comp, h1, h2, h3⟩ := Cond.arrayClass_spec h
  exact ⟨cA, fun n z => ⟨fun k h => (by cases h), kA, h2, comp, h3⟩, h1⟩
theorem st_arq {A : Array Value} {s : State} {C : String} (h : (Cond.arrayOver (.object C)).before A s = true) : ∃ cA : ClassId, ArrOfT s cA (.object C) ∧ va_RA s cA (.object C) := by
  obtain ⟨comp, cA, kA, h1, h2, h3, h4, h5⟩ := Cond.arrayOver_spec h
  exact ⟨cA, fun n z => ⟨fun k h => (by cases h), kA, h3, comp, h4⟩, kA, comp, h3, h4, h1, h5⟩
theorem st_cls {args : Array Value} {s : State} (hts : ∀ w ∈ lw_tbl, w.before args s = true) : ∃ D : va_G, ∀ (k : Nat) (q : vw_C), vwCl[k]? = some q → u_Kn s q.1 q.2.1 q.2.2 (D.1 k) (D.2 k) := by
  have gd : ∀ w ∈ lw_gd, w.before args s = true := fun w hw => hts w (gd_tb hw)
  obtain ⟨c0, i0, k0⟩ := u_known (C := RX0) (T := TX0) (N := 2) (n := 2) gd hu_X0 (gd _ w_129)
  obtain ⟨c1, i1, k1⟩ := u_known (C := RX1) (T := TX1) (N := 8) (n := 8) gd hu_X1 (gd _ w_270)
  obtain ⟨c2, i2, k2⟩ := u_known (C := RX2) (T := TX2) (N := 5) (n := 5) gd hu_X2 (gd _ w_264)
  obtain ⟨c3, i3, k3⟩ := u_known (C := RX3) (T := TX3) (N := 3) (n := 3) gd hu_X3 (gd _ w_284)
  obtain ⟨c4, i4, k4⟩ := u_known (C := RX4) (T := TX4) (N := 4) (n := 4) gd hu_X4 (gd _ w_134)
  obtain ⟨c5, i5, k5⟩ := u_known (C := RX5) (T := TX5) (N := 10) (n := 10) gd hu_X5 (gd _ w_255)
  obtain ⟨c6, i6, k6⟩ := u_known (C := RX6) (T := TX6) (N := 12) (n := 12) gd hu_X6 (gd _ w_810)
  obtain ⟨c7, i7, k7⟩ := u_known (C := RX7) (T := TX7) (N := 46) (n := 46) gd hu_X7 (gd _ w_815)
  refine ⟨(fun k => [c0, c1, c2, c3, c4, c5, c6, c7].getD k c0, fun k => [i0, i1, i2, i3, i4, i5, i6, i7].getD k i0), ?_⟩
  intro k q hq
  match k, hq with
  | 0, hq => cases hq; exact k0
  | 1, hq => cases hq; exact k1
  | 2, hq => cases hq; exact k2
  | 3, hq => cases hq; exact k3
  | 4, hq => cases hq; exact k4
  | 5, hq => cases hq; exact k5
  | 6, hq => cases hq; exact k6
  | 7, hq => cases hq; exact k7
  | k + 8, hq => simp [vwCl] at hq
def g_C (t b : Nat) (adK adV : Nat → Nat) (f : Option Nat) (k : Nat) : Option Nat := match k with
  | 0 => some t
  | 1 => some b
  | 2 => some (adK 0)
  | 3 => some (adK 1)
  | 4 => some (adV 0)
  | 5 => some (adV 1)
  | _ => f
def g_A (a8 a9 a10 a11 a12 : ClassId) (k : Nat) : ClassId := match k with
  | 8 => a8
  | 9 => a9
  | 10 => a10
  | 11 => a11
  | _ => a12
theorem st_fx {p : Program} {s : State} {m : MethodId} {meth : Method} {c : Code} {b L : Nat} {xs : Nat → Int32} (C0 : lw_At p s m meth c b L xs) : ∃ G : dG, G.1 = s.heap.size ∧ G.2.1 1 = some b ∧ d_Fx G (L, fun j : Int => (xs j.toNat).toInt) s := by
  obtain ⟨-, -, -, -, -, hts, hX, hbl, -, hgv⟩ := C0
  have hs : ∀ w ∈ nwC, w.before #[Value.ref b] s = true := flat_of_before _ hgv
  have hA : ∀ a : Nat, a < s.heap.size → ¬ (fun q : Nat => s.heap.size ≤ q) a := fun a h z => absurd h (Nat.not_lt.mpr z)
  obtain ⟨D, hD⟩ := st_cls hts
  obtain ⟨a8, f8, g8⟩ := st_arr (hts _ (gd_tb w_3))
  obtain ⟨a9, f9, g9⟩ := st_arr (hts _ (gd_tb w_490))
  obtain ⟨a10, f10, g10⟩ := st_arq (hts _ tw_o0)
  obtain ⟨a11, f11, g11⟩ := st_arq (hts _ tw_o4)
  obtain ⟨a12, f12, g12⟩ := st_arq (hts _ tw_o3)
  obtain ⟨t, ht, hT⟩ := va_Tof (tm := tmA) (ty := .int) (N := 6) (f := fun j => .int (Int32.ofInt (d_above.getD j 0))) (Nat.le_of_ble_eq_true rfl) (hs _ (List.mem_of_getElem? nw_A.1)) (va_eqt (hs _ (List.mem_of_getElem? nw_A.2.1))) (fun j hj => va_eqt (hs _ (List.mem_of_getElem? (nw_A.2.2 j (List.mem_range.mpr hj))))) hA
  obtain ⟨adK, adV, hV, hE⟩ := vk_Sof (args := #[Value.ref b]) (s := s) (N := 2) (tm := tmS) (len := lnS) (byt := byS) (A := fun q : Nat => s.heap.size ≤ q)
    (fun i hi => by rcases (show i = 0 ∨ i = 1 by omega) with rfl | rfl <;> exact Nat.le_of_ble_eq_true rfl)
    (fun i hi => hs _ (List.mem_of_getElem? (nw_S i (List.mem_range.mpr hi)).1)) (fun i hi => hs _ (List.mem_of_getElem? (nw_S i (List.mem_range.mpr hi)).2.1)) (fun i hi => hs _ (List.mem_of_getElem? (nw_S i (List.mem_range.mpr hi)).2.2.1)) (fun i hi => hs _ (List.mem_of_getElem? (nw_S i (List.mem_range.mpr hi)).2.2.2))
    (fun i hi j hj => hs _ (List.mem_of_getElem? (nw_B i (List.mem_range.mpr hi) j (List.mem_range.mpr hj))))
    (fun i j hi hj hij => by
      have z := hs _ (List.mem_of_getElem? nw_C.2.2)
      rcases (show (i = 0 ∧ j = 1) ∨ (i = 1 ∧ j = 0) by omega) with ⟨rfl, rfl⟩ | ⟨rfl, rfl⟩
      · exact Or.inl z
      · exact Or.inr z) hA
  have hZ0 := va_Zof (A := fun q : Nat => s.heap.size ≤ q) (hts _ tw_l0) (hts _ (gd_tb w_114)) (va_eqi (hs _ (List.mem_of_getElem? nw_C.1))) hA
  have hZ2 := va_Zref (A := fun q : Nat => s.heap.size ≤ q) (hts _ tw_l2) (hts _ (gd_tb w_151)) ht hA
  obtain ⟨f, hf⟩ : ∃ f : Option Nat, va_Z RJ3 "SIOOBE_FORMATTER" "Ljava/util/function/BiFunction;" (va_rf f) (fun q : Nat => s.heap.size ≤ q) s s.heap := by
    rcases va_Zqof (A := fun q : Nat => s.heap.size ≤ q) (hts _ tw_l1) (hts _ (gd_tb w_803)) (hs _ (List.mem_of_getElem? nw_C.2.1)) hA with z | ⟨t, z⟩
    · exact ⟨none, z⟩
    · exact ⟨some t, z⟩
  refine ⟨(s.heap.size, g_C t b adK adV f, D, g_A a8 a9 a10 a11 a12), rfl, rfl, ⟨hD, ?_⟩, fun w hw hn => d_nest_of hn (hts w hw), ⟨va_AO.of (hts _ tw_o0), va_AO.of (hts _ tw_o4), va_AO.of (hts _ tw_o3)⟩, t, b, adK, adV, f, ⟨rfl, rfl, ?_, ?_, rfl⟩, hZ2, hT, ⟨?_, hbl, hA b hbl⟩, vk_R.of (hts _ tw_s0) (hE 0 (by decide)), vk_R.of (hts _ tw_s1) (hE 1 (by decide)), hV, hZ0, hf⟩
  · intro k q hq
    match k, hq with
    | 0, hq => cases hq; exact ⟨f8, g8⟩
    | 1, hq => cases hq; exact ⟨f9, g9⟩
    | 2, hq => cases hq; exact ⟨f10, g10⟩
    | 3, hq => cases hq; exact ⟨f11, g11⟩
    | 4, hq => cases hq; exact ⟨f12, g12⟩
    | k + 5, hq => simp [d_tys] at hq
  · intro i hi
    rcases (show i = 0 ∨ i = 1 by omega) with rfl | rfl <;> rfl
  · intro i hi
    rcases (show i = 0 ∨ i = 1 by omega) with rfl | rfl <;> rfl
  · have e : (fun j : Nat => Int32.ofInt ((fun j : Int => (xs j.toNat).toInt) (j : Int))) = xs := funext fun j => by
      show Int32.ofInt ((xs ((j : Int).toNat)).toInt) = xs j
      rw [i32_o, Int.toNat_natCast]
    show va_X b L (fun j : Nat => Int32.ofInt ((fun j : Int => (xs j.toNat).toInt) (j : Int))) s s.heap
    rw [e]
    exact hX
theorem K0_sl : K0.length ≤ 600000 ∧ d_sl K0 ≤ 7302249 := by decide +kernel
set_option maxHeartbeats 4000000 in
theorem whole_start {p : Program} {e : Env} {s : State} {m : MethodId} {below : List Frame} {meth : Method} {c : Code} (l : Launch) (hflags : l.flags = flags0) {b L : Nat} {xs : Nat → Int32} (hL : L ≤ 3072) (C0 : lw_At p s m meth c b L xs) : W p l e room_1 s m #[Value.ref b] below meth c s.heap [] 0 0 (lw_Z below #[Value.ref b] s) (entryFrame m ([Value.ref b] : List Value).toArray 4) := by
  obtain ⟨hx, hb, hr, hml, hown, hts, hX, hbl, hlocks, hgv⟩ := id C0
  obtain ⟨G, hG1, hGb, hF⟩ := st_fx C0
  obtain ⟨M', hv⟩ := law_true (sc := (L, fun j : Int => (xs j.toNat).toInt)) (d := 0) ⟨by show L < 2147483648; omega, fun j hj => i32_R _⟩
  obtain ⟨N, hrun⟩ := vr_some.mp hv
  have C : d_Cx p s m #[Value.ref b] c m_L_law.1.cls m_L_law.2.1 m_L_law.2.2.1 G (L, fun j : Int => (xs j.toNat).toInt) := ⟨hx, hb, hml, hown, fun w hw => hts w (gd_tb hw), hF, by rw [hG1]; exact Nat.le_refl _⟩
  have eb : d_cv G (2, 1000001) = Value.ref b := by
    have e1 : d_rf G 1000001 = some b := by
      unfold d_rf
      rw [if_neg (by decide), if_neg (by decide)]
      exact hGb
    show va_rf (d_rf G 1000001) = _
    rw [e1]
    rfl
  have key := d_run_W (P := d_P) (ini := m_L_law.1.name == "<init>") (own := m_L_law.1.cls) (cc := m_L_law.2.1) (nL := m_L_law.2.2.1) (code := c_L_law) (fun pc ai hc h35 => (G_L_law.2.2 pc ai hc).2 h35)
    (p := p) (l := l) (e := e) (R := room_1) (s := s) (m := m) (args := #[Value.ref b]) (below := below) (meth := meth) (c := c) (G := G) (sc := (L, fun j : Int => (xs j.toNat).toInt)) (d := 0 + 160) (N := N) (n0 := 0) (s0 := 0)
    (Q := lw_Z below #[Value.ref b] s) C (fun q => absurd q (by decide +kernel)) (d_sound d_allgood l G _ N (0 + 160)) (Nat.le_of_ble_eq_true rfl) (Nat.le_of_ble_eq_true rfl) (r := [(0, 1)]) (h' := (K0, M')) (by rw [Nat.zero_add]; exact K0_sl.1) (by rw [Nat.zero_add]; exact K0_sl.2) ?_ N x00 hrun (Nat.zero_le _) (Nat.zero_le _)
  · have hhas := d_ent_has G [(2, 1000001)] 4 (by decide)
    have g := key ⟨d_ent_rv (vs := [(2, 1000001)]) 4 (fun v hv => by
        rw [List.mem_singleton.mp hv]
        show R32 1000001
        unfold R32
        omega), (fun v hv => by cases hv), fun i j => by show R32 0; unfold R32; omega⟩ s.heap [] _ (by rw [hG1]; rfl) (fun k q hq => by cases hq) va_S.rf hhas
    have ee : ([((2 : Nat), (1000001 : Int))].map (d_cv G)) = [Value.ref b] := by
      rw [List.map_cons, eb]
      rfl
    rw [ee] at g
    rw [lg_entry_eq]
    exact g
  · rintro ⟨pc, L1, st, hx1⟩ ai hc h35 hret hg H locs ls hz hPx hS hL1
    obtain ⟨rfl, rfl, hlen⟩ := d_ret_h hret
    have hok := (G_L_law.2.2 pc ai hc).1 h35
    have hdec : decode code pc = .ok (.ireturn, 1) := by
      rcases hok with ⟨-, h, -⟩ | ⟨-, h, -⟩ | ⟨-, h, -⟩ | ⟨-, -, h⟩ | ⟨-, h, -⟩ | ⟨-, h, -⟩
      · cases h
      · cases h
      · cases h
      · exact h
      · cases h
      · cases h
    refine va_forget (fun q hq => ?_) (W.widen (k := 600000) (n := 7302249) (Nat.le_trans (Nat.sub_le _ _) K0_sl.1) (Nat.le_trans (Nat.sub_le _ _) K0_sl.2) ?_)
    · have z : G.1 ≤ q.base := hS.2.2 q hq
      rw [hG1] at z
      exact z
    · exact lw_ret hx hb hr hlocks hdec
