/-! the class reads a text -/
def rdp (b : List Int) (k : Nat) (x : Ps) : Ps := ned b 59 (lev b 36 0 0 (ned b ((10 + k : Nat) : Int) x))
def rd0 (b : List Int) : Ps := stp b (0, 0, 0, 0, -1, [])
def rd1 (b : List Int) : Ps := rdp b 0 (rd0 b)
def rd2 (b : List Int) : Ps := rdp b 1 (rd1 b)
def rd3 (b : List Int) : Ps := rdp b 2 (rd2 b)
def rd (b : List Int) : Ps := ned b 0 (rd3 b)
def RD (o : Int) (M M' : dM) : Prop := ∀ x k : Int, (x = 88 → k < 2 ∨ 7 < k) → (x = o → k ≠ 3) → x ≠ o + 1 → x ≠ o + 2 → x ≠ o + 3 → M' x k = M x k
theorem RD.tr {o : Int} {M M1 M2 : dM} (h1 : RD o M M1) (h2 : RD o M1 M2) : RD o M M2 := fun x k g1 g2 g3 g4 g5 => (h2 x k g1 g2 g3 g4 g5).trans (h1 x k g1 g2 g3 g4 g5)
theorem RF.rd {o : Int} {M M' : dM} (h : RF o M M') : RD o M M' := fun x k g1 g2 g3 g4 _ => h x k (fun z => by have := g1 z; omega) g2 g3 g4
theorem rf_887 : isRf 88 7 = false := by decide +kernel
theorem RD.sk {o : Int} {M M' : dM} (h : RD o M M') (ho : isX o) (hs : Sk M) : Sk M' := Sk_of hs fun x k hq => by
  have q := isX_rf ho
  refine h x k (fun z => ?_) (fun z y => ?_) (fun z => ?_) (fun z => ?_) (fun z => ?_)
  · by_cases p : 2 ≤ k ∧ k ≤ 6
    · rw [z, rf_88 k p.1 p.2] at hq; cases hq
    · by_cases p7 : k = 7
      · rw [z, p7, rf_887] at hq; cases hq
      · omega
  · rw [z, y, q.1] at hq; cases hq
  · rw [z, q.2.1] at hq; cases hq
  · rw [z, q.2.2.1] at hq; cases hq
  · rw [z, q.2.2.2] at hq; cases hq
theorem CQ.e3 {o : Int} {b : List Int} {M : dM} {x : Ps} (ho : isX o) (h : CQ o b M x) (j v : Int) : CQ o b (d_up M (o + 3) j v) x := by
  have q := (isX_k ho).2
  have e : ∀ a k : Int, a ≠ o + 3 → d_up M (o + 3) j v a k = M a k := fun a k z => d_up_n1 _ z
  refine ⟨⟨Sk_of h.1.1 fun a k hq => e a k (fun z => ?_), ?_, (e _ _ (by omega)).trans h.1.2.2⟩, ⟨(e _ _ (by omega)).trans h.2.1.1, fun z => (e _ _ (by omega)).trans (h.2.1.2.1 z), (e _ _ (by omega)).trans h.2.1.2.2.1, (e _ _ (by omega)).trans h.2.1.2.2.2.1, (e _ _ (by omega)).trans h.2.1.2.2.2.2⟩, h.2.2.1, ⟨(e _ _ (by omega)).trans h.2.2.2.1.1, fun i hi => ⟨(e _ _ (by omega)).trans (h.2.2.2.1.2 i hi).1, (e _ _ (by omega)).trans (h.2.2.2.1.2 i hi).2⟩⟩, h.2.2.2.2⟩
  · rw [z, (isX_rf ho).2.2.2] at hq; cases hq
  · exact h.1.2.1.up (e _ _ (by omega)) fun i _ _ => e _ _ (by omega)
theorem part_q {sc : dS} {d : Nat} {o : Int} {b : List Int} (ho : isX o) (hb : b.length ≤ 160) {M : dM} {x : Ps} (h : CQ o b M x) {k : Nat} (hk : k < 3) : ∃ M' : dM, vr sc (d + 80) c_X1_readInto (26, [(2, 88), (2, o), (0, (k : Int))], [], (K0, M)) = vr sc (d + 80) c_X1_readInto (26, [(2, 88), (2, o), (0, ((k + 1 : Nat) : Int))], [], (K0, M')) ∧ CQ o b M' (rdp b k x) ∧ M' (o + 3) k = ((pC (rdp b k x)).length : Int) ∧ RD o M M' ∧ ∀ j : Int, j ≠ k → M' (o + 3) j = M (o + 3) j := by
  have rg1 : rg K0 1 88 = true := rfl
  obtain ⟨kk, ob⟩ := isX_k ho
  have ew : w32 (10 + (k : Int)) = ((10 + k : Nat) : Int) := w32_e (by omega) (by omega) (by omega)
  obtain ⟨M1, a1, a2, a3⟩ := need_q (sc := sc) (d := d + 73) ho hb h ((10 + k : Nat) : Int)
  rw [e_X1_readInto_26, if_neg (by omega), if_pos rg1, ew, a1, Option.bind_some]
  clear ew
  show ∃ M', vr sc (d + 80) c_X1_readInto (39, [(2, 88), (2, o), (0, (k : Int))], [], (K0, M1)) = _ ∧ _
  obtain ⟨M2, b1, b2, b3⟩ := (level_q (sc := sc) ho hb 36).1 d 0 0 (by omega) (by omega) (by unfold nL; omega) M1 _ a2
  rw [e_X1_readInto_39, if_pos rg1, show vc sc (d + 80) 21 [(2, 88), (0, 0), (0, 0)] (K0, M1) = _ from b1, Option.bind_some]
  show ∃ M', vr sc (d + 80) c_X1_readInto (45, [(2, 88), (2, o), (0, (k : Int))], [], (K0, M2)) = _ ∧ _
  obtain ⟨M3, c1, c2, c3⟩ := need_q (sc := sc) (d := d + 73) ho hb b2 59
  rw [e_X1_readInto_45, if_pos rg1, c1, Option.bind_some]
  show ∃ M', vr sc (d + 80) c_X1_readInto (51, [(2, 88), (2, o), (0, (k : Int))], [], (K0, M3)) = _ ∧ _
  rw [e_X1_readInto_51, if_pos (og_of kk.1 (by decide) (by decide)), if_pos (og_of kk.1 (by decide) (by decide)), (isX_s c2.1.1 ho).2.2, if_pos (ag_of kk.2.2.2 (by omega) (by omega)), w_s k (by omega), c2.2.2.2.1.1]
  have e3 : ∀ {Ma Mb : dM}, RF o Ma Mb → ∀ j : Int, Mb (o + 3) j = Ma (o + 3) j := fun z j => z (o + 3) j (fun y => by omega) (by omega) (by omega) (by omega)
  refine ⟨_, rfl, c2.e3 ho _ _, d_up_at _ _ _ _, ((a3.rd.tr b3.rd).tr c3.rd).tr (fun y j _ _ _ _ g5 => d_up_n1 _ g5), fun j hj => ?_⟩
  rw [d_up_n2 _ hj, e3 c3, e3 b3, e3 a3]
theorem ned_pC (b : List Int) (w : Int) (x : Ps) : pC (ned b w x) = pC x := by
  unfold ned
  split <;> rfl
theorem readInto_ok {sc : dS} {d : Nat} {o : Int} {b : List Int} (ho : isX o) (hb : b.length ≤ 160) {M : dM} (hs : Sk M) (hk : KV 88 1 89 M b) : ∃ M' : dM, vc sc (d + 81) 18 [(2, 88), (2, o)] (K0, M) = some ([(0, pF (rd b))], (K0, M')) ∧ RD o M M' ∧ TX o M' (pC (rd b)) ∧ (pC (rd b)).length ≤ 160 ∧ M' (o + 3) 0 = ((pC (rd1 b)).length : Int) ∧ M' (o + 3) 1 = ((pC (rd2 b)).length : Int) ∧ M' (o + 3) 2 = ((pC (rd3 b)).length : Int) := by
  have rg1 : rg K0 1 88 = true := rfl
  obtain ⟨kk, ob⟩ := isX_k ho
  rw [vc_s (md := m_X1_readInto) (L := [(2, 88), (2, o), (3, 0)]) rfl (Nat.le_of_ble_eq_true rfl) rfl]
  show ∃ M', vr sc (d + 80) c_X1_readInto (0, [(2, 88), (2, o), (3, 0)], [], (K0, M)) = _ ∧ _
  rw [e_X1_readInto_0, if_pos (show og K0 1 88 7 = true from rfl), if_pos ⟨by omega, by omega⟩, if_pos (og_of kk.1 (by decide) (by decide)), if_pos (by decide), if_pos (show og K0 1 88 2 = true from rfl), if_pos (by decide), if_pos (show og K0 1 88 6 = true from rfl), if_pos (by decide), if_pos rg1]
  have r0 : RD o M (d_up (d_up (d_up (d_up M 88 7 o) o 3 0) 88 2 0) 88 6 (-1)) := fun y j g1 g2 g3 g4 g5 => by
    have e1 : ∀ (N : dM) (k v : Int), 2 ≤ k ∧ k ≤ 7 → d_up N 88 k v y j = N y j := fun N k v z => by
      unfold d_up
      rw [if_neg]
      rintro ⟨rfl, rfl⟩
      have := g1 rfl
      omega
    rw [e1 _ 6 _ (by omega), e1 _ 2 _ (by omega)]
    have e2 : ∀ (N : dM), d_up N o 3 0 y j = N y j := fun N => by
      unfold d_up
      rw [if_neg (fun z => g2 z.1 z.2)]
    rw [e2, e1 _ 7 _ (by omega)]
  have f2 : (d_up (d_up (d_up (d_up M 88 7 o) o 3 0) 88 2 0) 88 6 (-1)) 88 2 = ((0 : Nat) : Int) := by rw [d_up_n2 _ (by decide), d_up_at]; rfl
  have f6 : (d_up (d_up (d_up (d_up M 88 7 o) o 3 0) 88 2 0) 88 6 (-1)) 88 6 = -1 := d_up_at _ _ _ _
  have f7 : (d_up (d_up (d_up (d_up M 88 7 o) o 3 0) 88 2 0) 88 6 (-1)) 88 7 = o := by rw [d_up_n2 _ (by decide), d_up_n2 _ (by decide), d_up_n1 _ (by omega), d_up_at]
  have f3 : (d_up (d_up (d_up (d_up M 88 7 o) o 3 0) 88 2 0) 88 6 (-1)) o 3 = 0 := by rw [d_up_n1 _ (by omega), d_up_n1 _ (by omega), d_up_at]
  have ft : KV 88 1 89 (d_up (d_up (d_up (d_up M 88 7 o) o 3 0) 88 2 0) 88 6 (-1)) b := hk.up (r0 88 1 (fun _ => by omega) (by omega) (by omega) (by omega) (by omega)) fun i _ _ => r0 89 i (fun z => absurd z (by decide)) (by omega) (by omega) (by omega) (by omega)
  have fs := r0.sk ho hs
  generalize d_up (d_up (d_up (d_up M 88 7 o) o 3 0) 88 2 0) 88 6 (-1) = M0 at *
  obtain ⟨M1, a1, a2, a3, a4, a5, a6, a7⟩ := step_ok (sc := sc) (d := d + 74) fs hb ft (Nat.zero_le _) f2
  have g := scn_le (b := b) (p := 0) (Nat.zero_le _)
  have hq : CQ o b M1 (rd0 b) := by
    refine ⟨⟨a2.sk fs, a2.tp ft, (a2 88 7 (fun _ => by omega)).trans f7⟩, ⟨a3, a4, a5, a6, a7.trans f6⟩, ⟨?_, ?_⟩, ⟨(a2 o 3 (by omega)).trans f3, fun i hi => absurd hi (Nat.not_lt_zero i)⟩, Nat.zero_le _⟩
    · show (scn b 0).2.2.1 ≤ _; omega
    · show (scn b 0).2.2.2 ≤ _; omega
  rw [a1, Option.bind_some]
  show ∃ M', vr sc (d + 80) c_X1_readInto (24, [(2, 88), (2, o), (3, 0)], [], (K0, M1)) = _ ∧ _
  rw [e_X1_readInto_24]
  obtain ⟨M2, b1, b2, b3, b4, b5⟩ := part_q (sc := sc) (d := d) ho hb hq (k := 0) (by decide)
  obtain ⟨M3, c1, c2, c3, c4, c5⟩ := part_q (sc := sc) (d := d) ho hb b2 (k := 1) (by decide)
  obtain ⟨M4, d1, d2, d3, d4, d5⟩ := part_q (sc := sc) (d := d) ho hb c2 (k := 2) (by decide)
  rw [show vr sc (d + 80) c_X1_readInto (26, [(2, 88), (2, o), (0, 0)], [], (K0, M1)) = _ from b1, show vr sc (d + 80) c_X1_readInto (26, [(2, 88), (2, o), (0, ((0 + 1 : Nat) : Int))], [], (K0, M2)) = _ from c1, show vr sc (d + 80) c_X1_readInto (26, [(2, 88), (2, o), (0, ((1 + 1 : Nat) : Int))], [], (K0, M3)) = _ from d1, e_X1_readInto_26, if_pos (by decide), if_pos rg1]
  obtain ⟨M5, g1, g2, g3⟩ := need_q (sc := sc) (d := d + 73) ho hb d2 0
  rw [g1, Option.bind_some]
  show ∃ M', vr sc (d + 80) c_X1_readInto (72, [(2, 88), (2, o), (0, ((2 + 1 : Nat) : Int))], [], (K0, M5)) = _ ∧ _
  rw [e_X1_readInto_72, if_pos (show og K0 1 88 6 = true from rfl), g2.2.1.2.2.2.2]
  have e3 : ∀ j : Int, M5 (o + 3) j = M4 (o + 3) j := fun j => g3 (o + 3) j (fun y => by omega) (by omega) (by omega) (by omega)
  refine ⟨M5, rfl, ((((r0.tr (a2.to o).rd).tr b4).tr c4).tr d4).tr g3.rd, g2.2.2.2.1, g2.2.2.2.2, ?_, ?_, ?_⟩
  · rw [e3, d5 0 (by decide), c5 0 (by decide)]; exact b3
  · rw [e3, d5 1 (by decide)]; exact c3
  · rw [e3]; exact d3
