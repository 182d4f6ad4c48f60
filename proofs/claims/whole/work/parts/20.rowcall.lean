
theorem gd_of {ws : List Cond} (h : ∀ w ∈ ws, w ∈ lw_gd) : GoodIn lw_gd ws := fun w hw => gd_good w (h w hw)
section DCALL
variable {p : Program} {l : Launch} {e : Env} {R : Room} {s : State} {m : MethodId} {args : Array Value} {below : List Frame} {meth : Method} {c : Code} {H : Heap} {locs : List Loc} {cells slots : Nat} {Q : State → Prop}
variable {pc : Nat} {ls : Array Slot} {rest st0 : List Value} {a : Array Value} {mc ms : Nat}
theorem d_goon {G : dG} {sc : dS} {r : List dV} {h' : dH} (hr : va_Run p l e R s m args below meth c H locs cells slots mc ms (F0 m pc ls st0) rest (d_Qc G sc r h' a) (d_A G)) (hS : va_S (d_A G) s.heap H locs)
    (kk : ∀ (H1 : Heap) (locs1 : List Loc), (∀ v ∈ r, d_rv v) → H1.size = G.1 + h'.1.length → va_P G.2.2.1 vwCl (d_ws G h') H1 → (∀ i j : Int, R32 (h'.2 i j)) → va_S (d_A G) s.heap H1 locs1 → W p l e R s m args below meth c H1 locs1 (cells + mc) (slots + ms) Q (F0 m (pc + 3) ls (r.map (d_cv G) ++ rest))) : W p l e R s m args below meth c H locs cells slots Q (F0 m pc ls st0) := by
  intro T hT X
  obtain ⟨v, st₀, t, T', L, h0, X', hL, e1, e2, ⟨hv, hl1, hrv, ⟨hz, hP, hR, hFx⟩, hz1, hk1⟩, st⟩ := hr T hT X
  have hv : v = (r.map (d_cv G)).head? := by cases hv; rfl
  have e3 : v.toList ++ rest = r.map (d_cv G) ++ rest := by
    rw [hv]
    match r, hl1 with
    | [], _ => rfl
    | [x], _ => rfl
  rw [h0] at hz1 hk1
  rw [e3] at st
  obtain ⟨t2, a1, b1⟩ := kk T'.heap (locs ++ L) hrv (by rw [e1]; exact hz) (by rw [e1]; exact hP) hR
    ⟨Nat.le_trans hS.1 (by rw [e1]; exact hz1), fun q h1 h2 => by rw [e1, hk1 q (Nat.lt_of_lt_of_le h1 hS.1) h2]; exact hS.2.1 q h1 h2, fun q hq => by
      rcases List.mem_append.mp hq with h | h
      · exact hS.2.2 q h
      · exact hL q h⟩ T' rfl X'
  exact ⟨t2, st t2 a1, b1⟩
theorem d_blind (G : dG) (sc : dS) (h : dH) (av : List Value) : FrameBlind (va_Pc av (d_Wld G sc h)) := fun a U g mk q => ⟨q.1, q.2.1, q.2.2.1, q.2.2.2.1, d_Fx_same (s := U) (U := U.calling g mk a) rfl rfl q.2.2.2.2⟩
theorem d_pre {G : dG} {sc : dS} {h : dH} {av : List Value} {own : String} {cc : ByteArray} {nL : Nat} (C : d_Cx p s m args c own cc nL G sc) (hz : H.size = G.1 + h.1.length) (hP : va_P G.2.2.1 vwCl (d_ws G h) H) (hR : ∀ i j : Int, R32 (h.2 i j)) (hS : va_S (d_A G) s.heap H locs) : ∀ U : State, U.heap = H → s.WarmedH U.vm → va_Pc av (d_Wld G sc h) av.toArray U := by
  intro U hU hW
  refine ⟨rfl, by rw [hU]; exact hz, by rw [hU]; exact hP, hR, d_Fx_warm hW (fun q h1 h2 => by rw [hU]; exact hS.2.1 q h1 h2) (by rw [hU]; exact hS.1) C.2.2.2.2.2.1⟩
end DCALL
section DROWC
variable {P : Nat → Option dD} {ini : Bool} {own : String} {cc : ByteArray} {nL pc : Nat}
theorem d_step_call {sc : dS} {cf : dF} {k n : Nat} {sw : List (Int × Nat)} {L st : List dV} {h : dH} {x' : dC} (hs : d_step sc cf (28, 3, (k : Int), (n : Int), sw) (pc, L, st, h) = some x') : n ≤ st.length ∧ d_cat (st.drop n) ≤ 8 ∧ d_rcv h sw (st.take n).reverse = true ∧ ∃ (r : List dV) (h' : dH), cf k (st.take n).reverse h = some (r, h') ∧ x' = (pc + 3, L, r ++ st.drop n, h') := by
  have hs2 : (if n ≤ st.length ∧ d_cat (st.drop n) ≤ 8 ∧ d_rcv h sw (st.take n).reverse = true then
      (match cf k (st.take n).reverse h with
        | some r => some (pc + 3, L, r.1 ++ st.drop n, r.2)
        | none => none) else none) = some x' := hs
  by_cases hc : n ≤ st.length ∧ d_cat (st.drop n) ≤ 8 ∧ d_rcv h sw (st.take n).reverse = true
  · rw [if_pos hc] at hs2
    cases hcf : cf k (st.take n).reverse h with
    | none => rw [hcf] at hs2; cases hs2
    | some q =>
      rw [hcf] at hs2
      exact ⟨hc.1, hc.2.1, hc.2.2, q.1, q.2, rfl, (Option.some.inj hs2).symm⟩
  · rw [if_neg hc] at hs2
    cases hs2
/-- a call of a method of an object of ours, or of a text -/
theorem row_virt {k n idx maxL tag : Nat} {y : MethodName} {bytes : ByteArray} {ret : Option FieldType} {code : List (Option dI)} {C : String} {sw : List (Int × Nat)} (hd : decode cc pc = .ok (.invokevirtual idx, 3)) (hPk : P k = some (y, bytes, maxL, ret, code)) (hm : maxL ≤ 21)
    (hsw : (∃ (T : u_T) (N : Nat), sw = [((tag : Int), 0)] ∧ tag < 8 ∧ vwCl[tag]? = some (C, T, N)) ∨ sw = [(-1, 0)] ∧ C = RJ0)
    (hw1 : Cond.methodLink own idx y ∈ lw_gd) (hw2 : Cond.instanceMethod y ∈ lw_gd) (hw3 : Cond.selects C y y ∈ lw_gd) (hw4 : Cond.initialized C ∈ lw_gd) (hw5 : Cond.code y bytes maxL ret ∈ lw_gd)
    (hy : y.cls = C ∧ y.cls ≠ "java/lang/invoke/MethodHandle" ∧ y.cls ≠ "java/lang/invoke/VarHandle" ∧ (parseMethodDescriptor y.desc).map (fun d => d.parameters.length) = some n) : d_Row P ini own cc nL pc (28, 3, (k : Int), ((n + 1 : Nat) : Int), sw) := by
  rintro p l e R s m args below meth c G sc d cf n0 s0 Q ⟨pc', L, st, h⟩ x' C0 hini hct hf hlo rfl hs hn hs0 hR1 hR2 kk hg H locs ls hz hP hS hL
  obtain ⟨g1, g2, g3, r, h', hcf, rfl⟩ := d_step_call hs
  obtain ⟨hx, hb, hml, hown, hts, hF, hS0⟩ := id C0
  obtain ⟨⟨m1, m2⟩, hM⟩ := hct k _ _ _ _ _ hPk hcf
  have hrv : ∀ v ∈ (st.take (n + 1)).reverse, d_rv v := fun v hv => hg.2.1 v (List.mem_of_mem_take (List.mem_reverse.mp hv))
  have hM := hM hrv hg.2.2
  have hlen : (st.take (n + 1)).reverse.length = n + 1 := by simp; omega
  generalize hav : (st.take (n + 1)).reverse = av at *
  match av, hlen with
  | x :: As, hlen =>
    have hAs : As.length = n := by simpa using hlen
    have hst : st = As.reverse ++ x :: st.drop (n + 1) := by
      have h1 : st.take (n + 1) = As.reverse ++ [x] := by
        have := congrArg List.reverse hav
        rw [List.reverse_reverse] at this
        rw [this]
        simp
      conv => lhs; rw [← List.take_append_drop (n + 1) st, h1]
      simp
    have hrecv : ∃ b : Nat, d_cv G x = .ref b ∧ ∃ cellB : Cell, H[b]? = some cellB ∧ cellB.vm.isStatics = false ∧ s.vm.findClass C = some cellB.cls := by
      obtain ⟨x1, x2⟩ := x
      rcases hsw with ⟨T, N, rfl, h8, hcl⟩ | ⟨rfl, rfl⟩
      · have g3 : ((x1 == 2) && (if (tag : Int) = -1 then (x2 == 1000002 || x2 == 1000003) else (match d_cell h x2 with
          | some c => decide ((c.1 : Int) = tag)
          | none => false))) = true := g3
        rw [if_neg (by omega)] at g3
        rw [Bool.and_eq_true] at g3
        obtain ⟨q1, q2⟩ := g3
        have q1 : x1 = 2 := by simpa using q1
        subst q1
        cases hcc : d_cell h x2 with
        | none => rw [hcc] at q2; cases q2
        | some q =>
          rw [hcc] at q2
          obtain ⟨tg, sz⟩ := q
          have q2 : (tg : Int) = tag := of_decide_eq_true q2
          have q2 : tg = tag := by omega
          subst q2
          obtain ⟨i, rfl, hi, hcell⟩ := d_cell_of hcc
          have hget := d_ws_get (G := G) hcell
          rw [d_E_obj G _ i h8] at hget
          exact ⟨_, d_cv_ref G hi, va_recv hF.1 hP hcl hget⟩
      · have g3 : ((x1 == 2) && (if (-1 : Int) = -1 then (x2 == 1000002 || x2 == 1000003) else (match d_cell h x2 with
          | some c => decide ((c.1 : Int) = -1)
          | none => false))) = true := g3
        rw [if_pos rfl, Bool.and_eq_true] at g3
        obtain ⟨q1, q2⟩ := g3
        have q1 : x1 = 2 := by simpa using q1
        subst q1
        have q2 : x2 = 1000002 ∨ x2 = 1000003 := by simpa using q2
        obtain ⟨i, hi, rfl⟩ := d_two q2
        obtain ⟨t, adK, adV, -, e1, -, -, -, -, k1, -⟩ := d_fcS hF.2.2.2
        refine ⟨adK i, by rw [d_cv_r, (e1 i hi).1]; rfl, ?_⟩
        exact vk_recv k1 hi hS
    obtain ⟨b, hb1, hrec⟩ := hrecv
    have emap : (x :: As).map (d_cv G) = .ref b :: As.map (d_cv G) := by rw [List.map_cons, hb1]
    have est : st.map (d_cv G) = (As.map (d_cv G)).reverse ++ .ref b :: (st.drop (n + 1)).map (d_cv G) := by
      conv => lhs; rw [hst]
      rw [List.map_append, List.map_cons, hb1, List.map_reverse]
    rw [emap] at hM
    have hgd : ∀ w ∈ wsV own idx C y (.code y bytes maxL ret :: lw_gd), w ∈ lw_gd := by
      intro w hw
      simp only [wsV, List.mem_append, List.mem_cons] at hw
      rcases hw with (rfl | rfl | rfl | rfl | hw) | rfl | hw
      · exact hw1
      · exact hw2
      · exact hw3
      · exact hw4
      · cases hw
      · exact hw5
      · exact hw
    have hrest : ((List.map (d_cv G) (st.drop (n + 1))).map fun v => v.category).sum ≤ 8 := by rw [d_cat_sum]; exact g2
    have hR1 : h'.1.length ≤ n0 + R.cells := hR1
    have hR2 : d_sl h'.1 ≤ s0 + R.slots := hR2
    dsimp only at hn hs0 hz hP
    have hrun := va_runV (As := As.map (d_cv G)) (rest := (st.drop (n + 1)).map (d_cv G)) (g := F0 m pc' ls (st.map (d_cv G))) (H := H) (locs := locs) (cells := h.1.length - n0) (slots := d_sl h.1 - s0) (below := below) (e := e) (meth := meth) ⟨hx, hb, hml, hown, hts⟩ hM (cwV n hts (gd_of hgd) rfl rfl rfl hy ⟨by show d + 1 ≤ _; exact hf, by show 8 + (maxL + 11) + 40 * d ≤ _; omega⟩)
      ⟨d_blind G sc h _, hrec, d_pre C0 hz hP hg.2.2 hS⟩ rfl (by simpa using hAs) hL.1 est (lv_room hrest) hd ⟨by omega, by omega⟩
    refine d_goon hrun hS (fun H1 locs1 hrv1 hz1 hP1 hR9 hS1 => ?_)
    have key := kk ⟨hg.1, fun v hv => by
      rcases List.mem_append.mp hv with q | q
      · exact hrv1 v q
      · exact hg.2.1 v (List.mem_of_mem_drop q), hR9⟩ H1 locs1 ls hz1 hP1 hS1 hL
    rw [List.map_append] at key
    have e3 : h.1.length - n0 + (h'.1.length - h.1.length) = h'.1.length - n0 := by omega
    have e4 : d_sl h.1 - s0 + (d_sl h'.1 - d_sl h.1) = d_sl h'.1 - s0 := by omega
    rw [e3, e4]
    exact key
theorem d_take_st {G : dG} {st av : List dV} {n : Nat} (hav : (st.take n).reverse = av) : st.map (d_cv G) = (av.map (d_cv G)).reverse ++ (st.drop n).map (d_cv G) := by
  conv => lhs; rw [← List.take_append_drop n st]
  rw [List.map_append, ← hav, List.map_reverse, List.reverse_reverse]
theorem row_stat {k n idx maxL : Nat} {y : MethodName} {bytes : ByteArray} {ret : Option FieldType} {code : List (Option dI)} (hd : decode cc pc = .ok (.invokestatic idx, 3)) (hPk : P k = some (y, bytes, maxL, ret, code)) (hm : maxL ≤ 21)
    (hw1 : Cond.methodLink own idx y ∈ lw_gd) (hw2 : Cond.static y ∈ lw_gd) (hw4 : Cond.initialized y.cls ∈ lw_gd) (hw5 : Cond.code y bytes maxL ret ∈ lw_gd)
    (hy : y.cls ≠ "java/lang/invoke/MethodHandle" ∧ y.cls ≠ "java/lang/invoke/VarHandle" ∧ (parseMethodDescriptor y.desc).map (fun d => d.parameters.length) = some n) : d_Row P ini own cc nL pc (28, 3, (k : Int), (n : Int), []) := by
  rintro p l e R s m args below meth c G sc d cf n0 s0 Q ⟨pc', L, st, h⟩ x' C0 hini hct hf hlo rfl hs hn hs0 hR1 hR2 kk hg H locs ls hz hP hS hL
  obtain ⟨g1, g2, g3, r, h', hcf, rfl⟩ := d_step_call hs
  obtain ⟨hx, hb, hml, hown, hts, hF, hS0⟩ := id C0
  obtain ⟨⟨m1, m2⟩, hM⟩ := hct k _ _ _ _ _ hPk hcf
  have hrv : ∀ v ∈ (st.take n).reverse, d_rv v := fun v hv => hg.2.1 v (List.mem_of_mem_take (List.mem_reverse.mp hv))
  have hM := hM hrv hg.2.2
  have hlen : (st.take n).reverse.length = n := by simp; omega
  generalize hav : (st.take n).reverse = av at *
  have est := d_take_st (G := G) hav
  have hrest : ((List.map (d_cv G) (st.drop n)).map fun v => v.category).sum ≤ 8 := by rw [d_cat_sum]; exact g2
  have hR1 : h'.1.length ≤ n0 + R.cells := hR1
  have hR2 : d_sl h'.1 ≤ s0 + R.slots := hR2
  dsimp only at hn hs0 hz hP
  have hgd : ∀ w ∈ (.code y bytes maxL ret :: lw_gd), w ∈ lw_gd := by
    intro w hw
    rcases List.mem_cons.mp hw with rfl | hw
    · exact hw5
    · exact hw
  have hroom : (d_rm d (h'.1.length - h.1.length) (d_sl h'.1 - d_sl h.1)).frames + 1 ≤ R.frames ∧ 8 + (maxL + 11) + (d_rm d (h'.1.length - h.1.length) (d_sl h'.1 - d_sl h.1)).locals ≤ R.locals := ⟨by show d + 1 ≤ _; exact hf, by show 8 + (maxL + 11) + 40 * d ≤ _; omega⟩
  have hcw := va_cwS (R := R) (mc := h'.1.length - h.1.length) (ms := d_sl h'.1 - d_sl h.1) (rm := d_rm d (h'.1.length - h.1.length) (d_sl h'.1 - d_sl h.1)) (own := own) (index := idx) n hts (gd_of (ws := va_wsS own idx y (.code y bytes maxL ret :: lw_gd)) (fun w hw => by
    simp only [va_wsS, List.mem_append, List.mem_cons] at hw
    rcases hw with (rfl | rfl | rfl | hw) | rfl | hw
    · exact hw1
    · exact hw2
    · exact hw4
    · cases hw
    · exact hw5
    · exact hw)) rfl rfl rfl hy hroom
  have hrun := va_runS (As := av.map (d_cv G)) (rest := (st.drop n).map (d_cv G)) (g := F0 m pc' ls (st.map (d_cv G))) (H := H) (locs := locs) (cells := h.1.length - n0) (slots := d_sl h.1 - s0) (below := below) (e := e) (meth := meth) ⟨hx, hb, hml, hown, hts⟩ hM hcw
      ⟨d_blind G sc h _, d_pre C0 hz hP hg.2.2 hS⟩ rfl (by simpa using hlen) hL.1 est (lv_room hrest) hd ⟨by omega, by omega⟩
  refine d_goon hrun hS (fun H1 locs1 hrv1 hz1 hP1 hR9 hS1 => ?_)
  have key := kk ⟨hg.1, fun v hv => by
    rcases List.mem_append.mp hv with q | q
    · exact hrv1 v q
    · exact hg.2.1 v (List.mem_of_mem_drop q), hR9⟩ H1 locs1 ls hz1 hP1 hS1 hL
  rw [List.map_append] at key
  have e3 : h.1.length - n0 + (h'.1.length - h.1.length) = h'.1.length - n0 := by omega
  have e4 : d_sl h.1 - s0 + (d_sl h'.1 - d_sl h.1) = d_sl h'.1 - s0 := by omega
  rw [e3, e4]
  exact key
theorem row_statN {k n idx maxL : Nat} {y : MethodName} {bytes : ByteArray} {ret : Option FieldType} {code : List (Option dI)} (hd : decode cc pc = .ok (.invokestatic idx, 3)) (hPk : P k = some (y, bytes, maxL, ret, code)) (hm : maxL ≤ 21)
    {host : String} (hw1 : Cond.methodLinkNest own idx y host ∈ lw_tbl) (hw2 : Cond.static y ∈ lw_gd) (hw4 : Cond.initialized y.cls ∈ lw_gd) (hw5 : Cond.code y bytes maxL ret ∈ lw_gd)
    (hy : y.cls ≠ "java/lang/invoke/MethodHandle" ∧ y.cls ≠ "java/lang/invoke/VarHandle" ∧ (parseMethodDescriptor y.desc).map (fun d => d.parameters.length) = some n) : d_Row P ini own cc nL pc (28, 3, (k : Int), (n : Int), []) := by
  rintro p l e R s m args below meth c G sc d cf n0 s0 Q ⟨pc', L, st, h⟩ x' C0 hini hct hf hlo rfl hs hn hs0 hR1 hR2 kk hg H locs ls hz hP hS hL
  obtain ⟨g1, g2, g3, r, h', hcf, rfl⟩ := d_step_call hs
  obtain ⟨hx, hb, hml, hown, hts, hF, hS0⟩ := id C0
  obtain ⟨⟨m1, m2⟩, hM⟩ := hct k _ _ _ _ _ hPk hcf
  have hrv : ∀ v ∈ (st.take n).reverse, d_rv v := fun v hv => hg.2.1 v (List.mem_of_mem_take (List.mem_reverse.mp hv))
  have hM := hM hrv hg.2.2
  have hlen : (st.take n).reverse.length = n := by simp; omega
  generalize hav : (st.take n).reverse = av at *
  have est := d_take_st (G := G) hav
  have hrest : ((List.map (d_cv G) (st.drop n)).map fun v => v.category).sum ≤ 8 := by rw [d_cat_sum]; exact g2
  have hR1 : h'.1.length ≤ n0 + R.cells := hR1
  have hR2 : d_sl h'.1 ≤ s0 + R.slots := hR2
  dsimp only at hn hs0 hz hP
  have hgd : ∀ w ∈ (.code y bytes maxL ret :: lw_gd), w ∈ lw_gd := by
    intro w hw
    rcases List.mem_cons.mp hw with rfl | hw
    · exact hw5
    · exact hw
  have hroom : (d_rm d (h'.1.length - h.1.length) (d_sl h'.1 - d_sl h.1)).frames + 1 ≤ R.frames ∧ 8 + (maxL + 11) + (d_rm d (h'.1.length - h.1.length) (d_sl h'.1 - d_sl h.1)).locals ≤ R.locals := ⟨by show d + 1 ≤ _; exact hf, by show 8 + (maxL + 11) + 40 * d ≤ _; omega⟩
  have hcw := And.intro (va_cnB (R := R) (mc := h'.1.length - h.1.length) (ms := d_sl h'.1 - d_sl h.1) (rm := d_rm d (h'.1.length - h.1.length) (d_sl h'.1 - d_sl h.1)) (own := own) (index := idx) (host := host) n hts (gd_of hgd) rfl rfl rfl (hF.2.1 _ hw1 rfl) (hts _ hw4) hy hroom) (And.intro (hts _ hw2) trivial)
  have hrun := va_runSN (As := av.map (d_cv G)) (rest := (st.drop n).map (d_cv G)) (g := F0 m pc' ls (st.map (d_cv G))) (H := H) (locs := locs) (cells := h.1.length - n0) (slots := d_sl h.1 - s0) (below := below) (e := e) (meth := meth) ⟨hx, hb, hml, hown, hts⟩ hM hcw
      ⟨d_blind G sc h _, d_pre C0 hz hP hg.2.2 hS⟩ rfl (by simpa using hlen) hL.1 est (lv_room hrest) hd ⟨by omega, by omega⟩
  refine d_goon hrun hS (fun H1 locs1 hrv1 hz1 hP1 hR9 hS1 => ?_)
  have key := kk ⟨hg.1, fun v hv => by
    rcases List.mem_append.mp hv with q | q
    · exact hrv1 v q
    · exact hg.2.1 v (List.mem_of_mem_drop q), hR9⟩ H1 locs1 ls hz1 hP1 hS1 hL
  rw [List.map_append] at key
  have e3 : h.1.length - n0 + (h'.1.length - h.1.length) = h'.1.length - n0 := by omega
  have e4 : d_sl h.1 - s0 + (d_sl h'.1 - d_sl h.1) = d_sl h'.1 - s0 := by omega
  rw [e3, e4]
  exact key
theorem row_init {k n idx maxL : Nat} {y : MethodName} {bytes : ByteArray} {code : List (Option dI)} (hd : decode cc pc = .ok (.invokespecial idx, 3)) (hPk : P k = some (y, bytes, maxL, none, code)) (hm : maxL ≤ 21)
    (hw1 : Cond.methodLink own idx y ∈ lw_gd) (hw2 : Cond.instanceMethod y ∈ lw_gd) (hy1 : y.name = "<init>") {tag : Nat} {C : String} {T : u_T} {N : Nat} (h8 : tag < 8) (hw4 : Cond.initialized y.cls ∈ lw_gd) (hw5 : Cond.code y bytes maxL none ∈ lw_gd)
    (hy : y.cls ≠ "java/lang/invoke/MethodHandle" ∧ y.cls ≠ "java/lang/invoke/VarHandle" ∧ (parseMethodDescriptor y.desc).map (fun d => d.parameters.length) = some n) : d_Row P ini own cc nL pc (28, 3, (k : Int), ((n + 1 : Nat) : Int), [((tag : Int), 0)]) := by
  rintro p l e R s m args below meth c G sc d cf n0 s0 Q ⟨pc', L, st, h⟩ x' C0 hini hct hf hlo rfl hs hn hs0 hR1 hR2 kk hg H locs ls hz hP hS hL
  obtain ⟨g1, g2, g3, r, h', hcf, rfl⟩ := d_step_call hs
  obtain ⟨hx, hb, hml, hown, hts, hF, hS0⟩ := id C0
  obtain ⟨⟨m1, m2⟩, hM⟩ := hct k _ _ _ _ _ hPk hcf
  have hrv : ∀ v ∈ (st.take (n + 1)).reverse, d_rv v := fun v hv => hg.2.1 v (List.mem_of_mem_take (List.mem_reverse.mp hv))
  have hM := hM hrv hg.2.2
  have hlen : (st.take (n + 1)).reverse.length = n + 1 := by simp; omega
  generalize hav : (st.take (n + 1)).reverse = av at *
  match av, hlen with
  | x :: As, hlen =>
  have hAs : As.length = n := by simpa using hlen
  have hrecv : ∃ b : Nat, d_cv G x = .ref b := by
    obtain ⟨x1, x2⟩ := x
    have g3 : ((x1 == 2) && (if (tag : Int) = -1 then (x2 == 1000002 || x2 == 1000003) else (match d_cell h x2 with
      | some c => decide ((c.1 : Int) = tag)
      | none => false))) = true := g3
    rw [if_neg (by omega), Bool.and_eq_true] at g3
    obtain ⟨q1, q2⟩ := g3
    have q1 : x1 = 2 := by simpa using q1
    subst q1
    cases hcc : d_cell h x2 with
    | none => rw [hcc] at q2; cases q2
    | some q =>
      obtain ⟨i, rfl, hi, hcell⟩ := d_cell_of hcc
      exact ⟨_, d_cv_ref G hi⟩
  obtain ⟨b, hb1⟩ := hrecv
  have est := d_take_st (G := G) hav
  have emap : (x :: As).map (d_cv G) = .ref b :: As.map (d_cv G) := by rw [List.map_cons, hb1]
  rw [emap] at est hM
  have est : st.map (d_cv G) = (As.map (d_cv G)).reverse ++ .ref b :: (st.drop (n + 1)).map (d_cv G) := by
    rw [est]
    simp
  have hrest : ((List.map (d_cv G) (st.drop (n + 1))).map fun v => v.category).sum ≤ 8 := by rw [d_cat_sum]; exact g2
  have hR1 : h'.1.length ≤ n0 + R.cells := hR1
  have hR2 : d_sl h'.1 ≤ s0 + R.slots := hR2
  dsimp only at hn hs0 hz hP
  have hgd : ∀ w ∈ (.code y bytes maxL none :: lw_gd), w ∈ lw_gd := by
    intro w hw
    rcases List.mem_cons.mp hw with rfl | hw
    · exact hw5
    · exact hw
  have hroom : (d_rm d (h'.1.length - h.1.length) (d_sl h'.1 - d_sl h.1)).frames + 1 ≤ R.frames ∧ 8 + (maxL + 11) + (d_rm d (h'.1.length - h.1.length) (d_sl h'.1 - d_sl h.1)).locals ≤ R.locals := ⟨by show d + 1 ≤ _; exact hf, by show 8 + (maxL + 11) + 40 * d ≤ _; omega⟩
  have hcw := cwI (R := R) (mc := h'.1.length - h.1.length) (ms := d_sl h'.1 - d_sl h.1) (rm := d_rm d (h'.1.length - h.1.length) (d_sl h'.1 - d_sl h.1)) (own := own) (index := idx) n hts (gd_of hgd) rfl rfl rfl (hts _ hw4) (hts _ hw1) (hts _ hw2) hy1 hy hroom
  have hrun := va_runI (As := As.map (d_cv G)) (rest := (st.drop (n + 1)).map (d_cv G)) (g := F0 m pc' ls (st.map (d_cv G))) (H := H) (locs := locs) (cells := h.1.length - n0) (slots := d_sl h.1 - s0) (below := below) (e := e) (meth := meth) ⟨hx, hb, hml, hown, hts⟩ hM hcw
      ⟨d_blind G sc h _, d_pre C0 hz hP hg.2.2 hS⟩ rfl (by simpa using hAs) hL.1 est (lv_room hrest) hd ⟨by omega, by omega⟩
  refine d_goon hrun hS (fun H1 locs1 hrv1 hz1 hP1 hR9 hS1 => ?_)
  have key := kk ⟨hg.1, fun v hv => by
    rcases List.mem_append.mp hv with q | q
    · exact hrv1 v q
    · exact hg.2.1 v (List.mem_of_mem_drop q), hR9⟩ H1 locs1 ls hz1 hP1 hS1 hL
  rw [List.map_append] at key
  have e3 : h.1.length - n0 + (h'.1.length - h.1.length) = h'.1.length - n0 := by omega
  have e4 : d_sl h.1 - s0 + (d_sl h'.1 - d_sl h.1) = d_sl h'.1 - s0 := by omega
  rw [e3, e4]
  exact key
theorem row_initN {k n idx maxL : Nat} {y : MethodName} {bytes : ByteArray} {code : List (Option dI)} (hd : decode cc pc = .ok (.invokespecial idx, 3)) (hPk : P k = some (y, bytes, maxL, none, code)) (hm : maxL ≤ 21)
    {host : String} (hw1 : Cond.methodLinkNest own idx y host ∈ lw_tbl) (hw2 : Cond.instanceMethod y ∈ lw_gd) (hy1 : y.name = "<init>") {tag : Nat} {C : String} {T : u_T} {N : Nat} (h8 : tag < 8) (hw4 : Cond.initialized y.cls ∈ lw_gd) (hw5 : Cond.code y bytes maxL none ∈ lw_gd)
    (hy : y.cls ≠ "java/lang/invoke/MethodHandle" ∧ y.cls ≠ "java/lang/invoke/VarHandle" ∧ (parseMethodDescriptor y.desc).map (fun d => d.parameters.length) = some n) : d_Row P ini own cc nL pc (28, 3, (k : Int), ((n + 1 : Nat) : Int), [((tag : Int), 0)]) := by
  rintro p l e R s m args below meth c G sc d cf n0 s0 Q ⟨pc', L, st, h⟩ x' C0 hini hct hf hlo rfl hs hn hs0 hR1 hR2 kk hg H locs ls hz hP hS hL
  obtain ⟨g1, g2, g3, r, h', hcf, rfl⟩ := d_step_call hs
  obtain ⟨hx, hb, hml, hown, hts, hF, hS0⟩ := id C0
  obtain ⟨⟨m1, m2⟩, hM⟩ := hct k _ _ _ _ _ hPk hcf
  have hrv : ∀ v ∈ (st.take (n + 1)).reverse, d_rv v := fun v hv => hg.2.1 v (List.mem_of_mem_take (List.mem_reverse.mp hv))
  have hM := hM hrv hg.2.2
  have hlen : (st.take (n + 1)).reverse.length = n + 1 := by simp; omega
  generalize hav : (st.take (n + 1)).reverse = av at *
  match av, hlen with
  | x :: As, hlen =>
  have hAs : As.length = n := by simpa using hlen
  have hrecv : ∃ b : Nat, d_cv G x = .ref b := by
    obtain ⟨x1, x2⟩ := x
    have g3 : ((x1 == 2) && (if (tag : Int) = -1 then (x2 == 1000002 || x2 == 1000003) else (match d_cell h x2 with
      | some c => decide ((c.1 : Int) = tag)
      | none => false))) = true := g3
    rw [if_neg (by omega), Bool.and_eq_true] at g3
    obtain ⟨q1, q2⟩ := g3
    have q1 : x1 = 2 := by simpa using q1
    subst q1
    cases hcc : d_cell h x2 with
    | none => rw [hcc] at q2; cases q2
    | some q =>
      obtain ⟨i, rfl, hi, hcell⟩ := d_cell_of hcc
      exact ⟨_, d_cv_ref G hi⟩
  obtain ⟨b, hb1⟩ := hrecv
  have est := d_take_st (G := G) hav
  have emap : (x :: As).map (d_cv G) = .ref b :: As.map (d_cv G) := by rw [List.map_cons, hb1]
  rw [emap] at est hM
  have est : st.map (d_cv G) = (As.map (d_cv G)).reverse ++ .ref b :: (st.drop (n + 1)).map (d_cv G) := by
    rw [est]
    simp
  have hrest : ((List.map (d_cv G) (st.drop (n + 1))).map fun v => v.category).sum ≤ 8 := by rw [d_cat_sum]; exact g2
  have hR1 : h'.1.length ≤ n0 + R.cells := hR1
  have hR2 : d_sl h'.1 ≤ s0 + R.slots := hR2
  dsimp only at hn hs0 hz hP
  have hgd : ∀ w ∈ (.code y bytes maxL none :: lw_gd), w ∈ lw_gd := by
    intro w hw
    rcases List.mem_cons.mp hw with rfl | hw
    · exact hw5
    · exact hw
  have hroom : (d_rm d (h'.1.length - h.1.length) (d_sl h'.1 - d_sl h.1)).frames + 1 ≤ R.frames ∧ 8 + (maxL + 11) + (d_rm d (h'.1.length - h.1.length) (d_sl h'.1 - d_sl h.1)).locals ≤ R.locals := ⟨by show d + 1 ≤ _; exact hf, by show 8 + (maxL + 11) + 40 * d ≤ _; omega⟩
  have hcw := And.intro (va_cnB (R := R) (mc := h'.1.length - h.1.length) (ms := d_sl h'.1 - d_sl h.1) (rm := d_rm d (h'.1.length - h.1.length) (d_sl h'.1 - d_sl h.1)) (own := own) (index := idx) (host := host) n hts (gd_of hgd) rfl rfl rfl (hF.2.1 _ hw1 rfl) (hts _ hw4) hy hroom) (And.intro hy1 (hts _ hw2))
  have hrun := va_runIN (As := As.map (d_cv G)) (rest := (st.drop (n + 1)).map (d_cv G)) (g := F0 m pc' ls (st.map (d_cv G))) (H := H) (locs := locs) (cells := h.1.length - n0) (slots := d_sl h.1 - s0) (below := below) (e := e) (meth := meth) ⟨hx, hb, hml, hown, hts⟩ hM hcw
      ⟨d_blind G sc h _, d_pre C0 hz hP hg.2.2 hS⟩ rfl (by simpa using hAs) hL.1 est (lv_room hrest) hd ⟨by omega, by omega⟩
  refine d_goon hrun hS (fun H1 locs1 hrv1 hz1 hP1 hR9 hS1 => ?_)
  have key := kk ⟨hg.1, fun v hv => by
    rcases List.mem_append.mp hv with q | q
    · exact hrv1 v q
    · exact hg.2.1 v (List.mem_of_mem_drop q), hR9⟩ H1 locs1 ls hz1 hP1 hS1 hL
  rw [List.map_append] at key
  have e3 : h.1.length - n0 + (h'.1.length - h.1.length) = h'.1.length - n0 := by omega
  have e4 : d_sl h.1 - s0 + (d_sl h'.1 - d_sl h.1) = d_sl h'.1 - s0 := by omega
  rw [e3, e4]
  exact key
end DROWC
