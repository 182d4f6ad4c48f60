def d_le (h h' : dH) : Prop := h.1.length ≤ h'.1.length ∧ d_sl h.1 ≤ d_sl h'.1
theorem d_le_rfl (h : dH) : d_le h h := ⟨Nat.le_refl _, Nat.le_refl _⟩
theorem d_le_K {h h' : dH} (e : h'.1 = h.1) : d_le h h' := ⟨by rw [e]; exact Nat.le_refl _, by rw [e]; exact Nat.le_refl _⟩
theorem d_le_app {h : dH} {M : dM} (c : Nat × Nat) : d_le h (h.1 ++ [c], M) := ⟨by simp, by show _ ≤ d_sl (h.1 ++ [c]); rw [d_sl_app]; omega⟩
theorem d_hp_mono {sc : dS} {op len : Nat} {a b : Int} {pc : Nat} {L st : List dV} {h : dH} {x' : dC} (hs : d_hp sc op len a b pc L st h = some x') : d_le h x'.2.2.2 := by
  unfold d_hp at hs
  repeat' split at hs
  all_goals first
    | cases hs; exact d_le_rfl _
    | cases hs; exact d_le_K rfl
    | cases hs; exact d_le_app _
    | cases hs
theorem d_step_mono {sc : dS} {cf : dF} (hcf : ∀ k av h r h', cf k av h = some (r, h') → d_le h h') {ai : dI} {x x' : dC} (hs : d_step sc cf ai x = some x') : d_le x.2.2.2 x'.2.2.2 := by
  unfold d_step at hs
  split at hs
  · split at hs
    · split at hs
      · rename_i r hr
        cases hs
        exact hcf _ _ _ r.1 r.2 hr
      · cases hs
    · cases hs
  · split at hs
    · exact d_hp_mono hs
    · obtain ⟨z, -, rfl⟩ := Option.map_eq_some_iff.mp hs
      exact d_le_rfl _
theorem d_ret_h {k : Int} {st : List dV} {h : dH} {r : List dV} {h' : dH} (hs : d_ret k st h = some (r, h')) : h' = h ∧ r = st ∧ r.length ≤ 1 := by
  match st, hs with
  | [], hs =>
    obtain ⟨-, e⟩ := d_if (show (if k = 0 then some (([] : List dV), h) else none) = some (r, h') from hs)
    cases e
    exact ⟨rfl, rfl, Nat.zero_le _⟩
  | [v], hs =>
    obtain ⟨-, e⟩ := d_if (show (if _ then some ([v], h) else none) = some (r, h') from hs)
    cases e
    exact ⟨rfl, rfl, Nat.le_refl _⟩
theorem d_run_mono {sc : dS} {cf : dF} (hcf : ∀ k av h r h', cf k av h = some (r, h') → d_le h h') {code : Nat → Option dI} : ∀ (n : Nat) (x : dC) (r : List dV) (h' : dH), d_run sc cf code n x = some (r, h') → d_le x.2.2.2 h' := by
  intro n
  induction n with
  | zero => intro x r h' hs; cases hs
  | succ n ih =>
    intro x r h' hs
    unfold d_run at hs
    split at hs
    · cases hs
    · split at hs
      · rw [(d_ret_h hs).1]
        exact d_le_rfl _
      · split at hs
        · cases hs
        · rename_i x2 hx2
          have h1 := d_step_mono hcf hx2
          have h2 := ih x2 r h' hs
          exact ⟨Nat.le_trans h1.1 h2.1, Nat.le_trans h1.2 h2.2⟩
theorem d_call_mono (P : Nat → Option dD) (sc : dS) (N : Nat) : ∀ (d k : Nat) (av : List dV) (h : dH) (r : List dV) (h' : dH), d_call P sc N d k av h = some (r, h') → d_le h h' := by
  intro d
  induction d with
  | zero => intro k av h r h' hs; cases hs
  | succ d ih =>
    intro k av h r h' hs
    unfold d_call at hs
    split at hs
    · cases hs
    · split at hs
      · exact d_run_mono ih N _ r h' hs
      · cases hs
/-- the run of a body: from any of its places to its end -/
theorem d_run_W {P : Nat → Option dD} {ini : Bool} {own : String} {cc : ByteArray} {nL : Nat} {code : Nat → Option dI} (hrows : ∀ pc ai, code pc = some ai → ai.1 ≠ 35 → d_Row P ini own cc nL pc ai)
    {p : Program} {l : Launch} {e : Env} {R : Room} {s : State} {m : MethodId} {args : Array Value} {below : List Frame} {meth : Method} {c : Code} {G : dG} {sc : dS} {d N : Nat} {n0 s0 : Nat} {Q : State → Prop}
    (C : d_Cx p s m args c own cc nL G sc) (hini : ini = true → meth.name = "<init>") (hct : d_CT l P G sc d (d_call P sc N d)) (hf : d + 1 ≤ R.frames) (hlo : 40 * (d + 1) ≤ R.locals) {r : List dV} {h' : dH} (hR1 : h'.1.length ≤ n0 + R.cells) (hR2 : d_sl h'.1 ≤ s0 + R.slots)
    (hret : ∀ (x : dC) (ai : dI), code x.1 = some ai → ai.1 = 35 → d_ret ai.2.2.1 x.2.2.1 x.2.2.2 = some (r, h') → d_WA p l e R s m args below meth c G n0 s0 nL Q x) :
    ∀ (n : Nat) (x : dC), d_run sc (d_call P sc N d) code n x = some (r, h') → n0 ≤ x.2.2.2.1.length → s0 ≤ d_sl x.2.2.2.1 → d_WA p l e R s m args below meth c G n0 s0 nL Q x := by
  intro n
  induction n with
  | zero => intro x hs; cases hs
  | succ n ih =>
    intro x hs h1 h2
    unfold d_run at hs
    cases hc : code x.1 with
    | none => rw [hc] at hs; cases hs
    | some ai =>
      rw [hc] at hs
      dsimp only at hs
      by_cases h35 : ai.1 = 35
      · rw [if_pos h35] at hs
        exact hret x ai hc h35 hs
      · rw [if_neg h35] at hs
        cases hst : d_step sc (d_call P sc N d) ai x with
        | none => rw [hst] at hs; cases hs
        | some x2 =>
          rw [hst] at hs
          have g1 := d_step_mono (d_call_mono P sc N d) hst
          have g2 := d_run_mono (d_call_mono P sc N d) n x2 r h' hs
          exact hrows x.1 ai hc h35 p l e R s m args below meth c G sc d (d_call P sc N d) n0 s0 Q x x2 C hini hct hf hlo rfl hst h1 h2 (Nat.le_trans g2.1 hR1) (Nat.le_trans g2.2 hR2) (ih x2 hs (Nat.le_trans h1 g1.1) (Nat.le_trans h2 g1.2))
/-- a method's end -/
def d_RetOk (cc : ByteArray) (ret : Option FieldType) (pc : Nat) (k : Int) : Prop :=
  k = 0 ∧ ret = none ∧ decode cc pc = .ok (.return_, 1) ∨ k = 1 ∧ ret = some .int ∧ decode cc pc = .ok (.ireturn, 1) ∨ k = 2 ∧ ret = some .long ∧ decode cc pc = .ok (.lreturn, 1) ∨
  k = 3 ∧ ret = some .boolean ∧ decode cc pc = .ok (.ireturn, 1) ∨ k = 5 ∧ ret = some .byte ∧ decode cc pc = .ok (.ireturn, 1) ∨ k = 6 ∧ ret = some .char ∧ decode cc pc = .ok (.ireturn, 1)
def d_Good (P : Nat → Option dD) (md : dD) : Prop :=
  plainName md.1.cls = true ∧ md.2.2.1 ≤ 21 ∧ ∀ pc ai, (md.2.2.2.2[pc]?).join = some ai → (ai.1 = 35 → d_RetOk md.2.1 md.2.2.2.1 pc ai.2.2.1) ∧ (ai.1 ≠ 35 → d_Row P (md.1.name == "<init>") md.1.cls md.2.1 md.2.2.1 pc ai)
theorem d_narb {x : Int} (h : -128 ≤ x ∧ x < 128) : narrow .byte (.int (Int32.ofInt x)) = .int (Int32.ofInt x) := by
  have key : ∀ k : Nat, k < 256 → narrow .byte (.int (Int32.ofInt ((k : Int) - 128))) = .int (Int32.ofInt ((k : Int) - 128)) := by decide +kernel
  have := key (x + 128).toNat (by omega)
  rw [show (((x + 128).toNat : Nat) : Int) - 128 = x by omega] at this
  exact this
theorem d_narc {x : Int} (h : 0 ≤ x ∧ x < 65536) : narrow .char (.int (Int32.ofInt x)) = .int (Int32.ofInt x) := by
  have := (pk_charN (q := x.toNat) (by omega)).1
  rw [show nI x.toNat = Int32.ofInt x from by
    apply Int32.toInt_inj.mp
    rw [nI_toInt (by omega), i32_t ⟨by omega, by omega⟩]
    omega] at this
  exact this
theorem d_ent_cons (w : dV) (vs : List dV) : d_ent (w :: vs) = (if w.1 = 1 then [w, (3, 0)] else [w]) ++ d_ent vs := by simp [d_ent]
theorem d_lv_args : ∀ (vs : List dV) (G : dG) (b i : Nat) (v : dV), (d_ent vs)[i]? = some v → v.1 ≤ 2 → (b + i, d_cv G v) ∈ lv_args b (vs.map (d_cv G)) := by
  intro vs
  induction vs with
  | nil => intro G b i v h; simp [d_ent] at h
  | cons w vs ih =>
    intro G b i v h h2
    rw [d_ent_cons] at h
    show (b + i, d_cv G v) ∈ (b, d_cv G w) :: lv_args (if (d_cv G w).category = 2 then b + 2 else b + 1) (vs.map (d_cv G))
    by_cases hw : w.1 = 1
    · rw [if_pos hw] at h
      rw [if_pos ((d_cat2 G w).mpr hw)]
      match i, h with
      | 0, h =>
        cases h
        exact List.mem_cons_self
      | 1, h =>
        cases h
        exact absurd h2 (by decide)
      | i + 2, h =>
        have := ih G (b + 2) i v h h2
        rw [show b + 2 + i = b + (i + 2) by omega] at this
        exact List.mem_cons_of_mem _ this
    · rw [if_neg hw] at h
      rw [if_neg (fun z => hw ((d_cat2 G w).mp z))]
      match i, h with
      | 0, h =>
        cases h
        exact List.mem_cons_self
      | i + 1, h =>
        have := ih G (b + 1) i v h h2
        rw [show b + 1 + i = b + (i + 1) by omega] at this
        exact List.mem_cons_of_mem _ this
theorem d_sl_len (G : dG) : ∀ vs : List dV, (lg_sl (vs.map (d_cv G))).length = (d_ent vs).length := by
  intro vs
  induction vs with
  | nil => rfl
  | cons w vs ih =>
    rw [d_ent_cons, List.map_cons]
    have e : lg_sl (d_cv G w :: vs.map (d_cv G)) = (if (d_cv G w).category = 2 then [.val (d_cv G w), .second] else [.val (d_cv G w)]) ++ lg_sl (vs.map (d_cv G)) := by simp [lg_sl]
    rw [e, List.length_append, List.length_append, ih]
    congr 1
    by_cases hw : w.1 = 1
    · rw [if_pos hw, if_pos ((d_cat2 G w).mpr hw)]
      rfl
    · rw [if_neg hw, if_neg (fun z => hw ((d_cat2 G w).mp z))]
      rfl
theorem d_ent_has (G : dG) (vs : List dV) (nL : Nat) (h : (d_ent vs).length ≤ nL) : d_has G ((lg_sl (vs.map (d_cv G)) ++ List.replicate (nL - (lg_sl (vs.map (d_cv G))).length) Slot.unset).toArray) nL (d_ent vs ++ List.replicate (nL - (d_ent vs).length) (3, 0)) := by
  obtain ⟨h1, h2, h3⟩ := lv_entry (vs.map (d_cv G)) (n := nL) (by rw [d_sl_len]; exact h)
  refine ⟨h1, by simp; omega, h2, fun i v hv hv2 => ?_⟩
  by_cases hi : i < (d_ent vs).length
  · rw [List.getElem?_append_left hi] at hv
    have := d_lv_args vs G 0 i v hv hv2
    rw [Nat.zero_add] at this
    exact h3 _ this
  · rw [List.getElem?_append_right (by omega)] at hv
    have := List.mem_of_getElem? hv
    rw [List.mem_replicate] at this
    obtain ⟨-, rfl⟩ := this
    exact absurd hv2 (by decide)
theorem d_ent_rv {vs : List dV} (nL : Nat) (h : ∀ v ∈ vs, d_rv v) : ∀ v ∈ d_ent vs ++ List.replicate (nL - (d_ent vs).length) (3, 0), d_rv v := by
  have h30 : d_rv (3, 0) := by show R32 0; unfold R32; omega
  intro v hv
  rcases List.mem_append.mp hv with q | q
  · unfold d_ent at q
    obtain ⟨w, hw, hq⟩ := List.mem_flatMap.mp q
    by_cases h1 : w.1 = 1
    · rw [if_pos h1] at hq
      rcases List.mem_cons.mp hq with rfl | hq
      · exact h v hw
      · rw [List.mem_singleton.mp hq]
        exact h30
    · rw [if_neg h1] at hq
      rw [List.mem_singleton.mp hq]
      exact h w hw
  · rw [(List.mem_replicate.mp q).2]
    exact h30
set_option maxHeartbeats 4000000 in
/-- THE INTERPRETER IS SOUND: what it answers, the machine answers -/
theorem d_sound {P : Nat → Option dD} (hgood : ∀ k md, P k = some md → d_Good P md) (l : Launch) (G : dG) (sc : dS) (N : Nat) : ∀ d, d_CT l P G sc d (d_call P sc N d) := by
  intro d
  induction d with
  | zero => intro k md av h r h' hP hs; cases hs
  | succ d ih =>
    intro k md av h r h' hP hs
    refine ⟨d_call_mono P sc N (d + 1) k av h r h' hs, fun hav hR => ?_⟩
    have hmono := d_call_mono P sc N (d + 1) k av h r h' hs
    obtain ⟨hplain, hmax, hrows⟩ := hgood k md hP
    unfold d_call at hs
    rw [hP] at hs
    dsimp only at hs
    split at hs
    · rename_i hent
      refine Met.ofW (cc := md.2.1) (maxL := md.2.2.1) (ret := md.2.2.2.1) hplain rfl ?_
      intro p e s m args below meth c s₁ B hml hv
      obtain ⟨rfl, hsz, hPw, hR0, hFx⟩ := hv
      have hts : ∀ w ∈ (.code md.1 md.2.1 md.2.2.1 md.2.2.2.1 :: lw_gd), w.before _ s = true := atoms_spec B.pre
      have hown : s.vm.findClass md.1.cls = some m.cls := findClass_of_methodNamed B.named
      have hlocks := B.notSynchronized
      have hr := B.returns
      have hin : meth.name = md.1.name := (name_of_methodNamed B.named B.method).1
      have C : d_Cx p s m (av.map (d_cv G)).toArray c md.1.cls md.2.1 md.2.2.1 G sc := ⟨B.exec, B.bytes, hml, hown, fun w hw => hts w (List.mem_cons_of_mem _ hw), hFx, by omega⟩
      have hrun := d_run_W (P := P) (ini := md.1.name == "<init>") (own := md.1.cls) (cc := md.2.1) (nL := md.2.2.1) (code := fun pc => (md.2.2.2.2[pc]?).join) (fun pc ai hc h35 => (hrows pc ai hc).2 h35)
        (p := p) (l := l) (e := e) (R := d_rm (d + 1) (h'.1.length - h.1.length) (d_sl h'.1 - d_sl h.1)) (s := s) (m := m) (args := (av.map (d_cv G)).toArray) (below := below) (meth := meth) (c := c) (G := G) (sc := sc) (d := d) (N := N) (n0 := h.1.length) (s0 := d_sl h.1)
        (Q := MQ below (d_Qc G sc r h') (av.map (d_cv G)).toArray s (h'.1.length - h.1.length) (d_sl h'.1 - d_sl h.1) (d_A G)) C (fun q => by rw [hin]; simpa using q) ih (Nat.le_refl _) (Nat.le_refl _) (r := r) (h' := h')
        (by show _ ≤ _ + (h'.1.length - h.1.length); have := hmono.1; omega) (by show _ ≤ _ + (d_sl h'.1 - d_sl h.1); have := hmono.2; omega) ?_ N _ hs (Nat.le_refl _) (Nat.le_refl _)
      · have key := hrun ⟨d_ent_rv _ hav, (fun v hv => by cases hv), hR0⟩ s.heap [] _ hsz hPw va_S.rf (d_ent_has G av md.2.2.1 hent)
        rw [Nat.sub_self, Nat.sub_self] at key
        rw [lg_entry_eq]
        exact key
      · rintro ⟨pc, L, st, hx⟩ ai hc h35 hret hg H locs ls hz hPx hS hL
        obtain ⟨rfl, rfl, hlen⟩ := d_ret_h hret
        have hok := (hrows pc ai hc).1 h35
        have hq : ∀ t : State, t.heap = H → s.WarmedH t.vm → d_Qc G sc r h' (av.map (d_cv G)).toArray s (.returned ((r.map (d_cv G)).head?)) t := fun t ht hW =>
          ⟨rfl, hlen, hg.2.1, ⟨by rw [ht]; exact hz, by rw [ht]; exact hPx, hg.2.2, d_Fx_warm hW (fun q h1 h2 => by rw [ht]; exact hS.2.1 q h1 h2) (by rw [ht]; exact hS.1) hFx⟩, hS.F ht⟩
        match r, hret, hg, hlen, hq with
        | [], hret, hg, hlen, hq =>
          obtain ⟨hk, -⟩ := d_if (show (if ai.2.2.1 = 0 then some (([] : List dV), h') else none) = some ([], h') from hret)
          rcases hok with ⟨h0, hrt, hdc⟩ | ⟨h0, -⟩ | ⟨h0, -⟩ | ⟨h0, -⟩ | ⟨h0, -⟩ | ⟨h0, -⟩
          · exact W.vret B.exec B.bytes (by rw [hr, hrt]) hq hS.2.2 hdc
          all_goals (rw [hk] at h0; cases h0)
        | [(v1, v2)], hret, hg, hlen, hq =>
          obtain ⟨hk, -⟩ := d_if (show (if _ then some ([(v1, v2)], h') else none) = some ([(v1, v2)], h') from hret)
          dsimp only at hk
          rcases hok with ⟨h0, hrt, hdc⟩ | ⟨h0, hrt, hdc⟩ | ⟨h0, hrt, hdc⟩ | ⟨h0, hrt, hdc⟩ | ⟨h0, hrt, hdc⟩ | ⟨h0, hrt, hdc⟩
          · omega
          · have : v1 = 0 := by omega
            subst this
            exact W.iret B.exec B.bytes (by rw [hr, hrt]) hq hS.2.2 hdc
          · have : v1 = 1 := by omega
            subst this
            exact W.lret B.exec B.bytes (by rw [hr, hrt]) hq hS.2.2 hdc
          · have : v1 = 0 := by omega
            subst this
            have h01 : v2 = 0 ∨ v2 = 1 := by omega
            exact W.zret (ty := .boolean) B.exec B.bytes (by rw [hr, hrt]) (by rcases h01 with rfl | rfl <;> rfl) hq hS.2.2 hdc
          · have : v1 = 0 := by omega
            subst this
            exact W.zret (ty := .byte) B.exec B.bytes (by rw [hr, hrt]) (d_narb (by omega)) hq hS.2.2 hdc
          · have : v1 = 0 := by omega
            subst this
            exact W.zret (ty := .char) B.exec B.bytes (by rw [hr, hrt]) (d_narc (by omega)) hq hS.2.2 hdc
    · cases hs
