/-! the reference reads and reckons: what stands alone -/
theorem RQ.opn {ns : Nat → Int} {t : Nat} {b : List Int} {M : dM} {x : Ps} {op : Nat} (h : RQ ns t b M x op) (p : Nat) : RQ ns t b (d_up M 107 25 (p : Int)) x p := by
  have rn : RN M (d_up M 107 25 (p : Int)) := RN.up (by decide) _
  refine ⟨h.1.rn rn, fun i hi => (rn 107 _ (fun _ => by omega)).trans (h.2.1 i hi), d_up_at _ _ _ _, h.2.2.2.1, ?_⟩
  have e : ∀ j : Int, j ≠ 25 → (d_up M 107 25 (p : Int)) 107 j = M 107 j := fun j z => d_up_n2 _ z
  unfold rK
  rw [e 23 (by decide), e 22 (by decide), e 21 (by decide), e 24 (by decide), e 26 (by decide), e 27 (by decide)]
  exact h.2.2.2.2
theorem Out.bad {ns : Nat → Int} {b : List Int} {n : Nat} {x y : Ps} (h : pF y ≠ -1) (hk : pK y = 1) (v : Int) : Out ns b n x y v := ⟨fun z => absurd z h, fun _ => hk⟩
theorem fai_F {x : Ps} : pF (fai x) ≠ -1 := by
  show (if pF x = -1 then (pS x : Int) else pF x) ≠ -1
  split
  · omega
  · assumption
theorem atom_r {sc : dS} {d : Nat} {ns : Nat → Int} {t : Nat} {b : List Int} (ht : t < 6) (hb : okB b) {G5 G0 : Ps → Ps} {op n n5 n0 : Nat} (hop : op ≤ 5) (hn1 : 1 ≤ n) (h5n : op < 5 → n5 ≤ n) (h0n : op < 5 → n0 ≤ n) (hA : op < 5 → SimR sc (d + 4) ns t b 135 (op + 1) n5 G5) (hE : op < 5 → SimR sc (d + 4) ns t b 140 (op + 1) n0 G0) : SimR sc (d + 5) ns t b 135 op n (fun x => if pK x = 2 ∨ pK x = 3 then stp b (emt (pK x) (pV x) x) else if pK x = 45 ∧ op < 5 then emt 4 0 (G5 (stp b x)) else if pK x = 40 ∧ op < 5 then ned b 41 (G0 (stp b x)) else fai x) := by
  have rg1 : rg K0 7 107 = true := rfl
  intro M x h g iv
  dsimp only
  have hbl := hb.1
  obtain ⟨h26, hK⟩ := h.good g
  rw [vc_s (md := m_X7_atom) (L := [(2, 107), (3, 0)]) rfl (Nat.le_of_ble_eq_true rfl) rfl]
  show ∃ M' v, vr sc (d + 4) c_X7_atom (0, [(2, 107), (3, 0)], [], (K0, M)) = _ ∧ _
  rw [e_X7_atom_0, if_pos rg1, sign_r (d := d + 3) h (by decide), Option.bind_some]
  show ∃ M' v, vr sc (d + 4) c_X7_atom (8, [(2, 107), (0, 0)], [(0, bi (pF x = -1 ∧ pK x = 45))], (K0, M)) = _ ∧ _
  rw [e_X7_atom_8]
  have e161 : ∀ (N : dM) (v : Int), vr sc (d + 4) c_X7_atom (161, [(2, 107), (0, v)], [], (K0, N)) = some ([(0, v)], (K0, N)) := fun N v => by rw [e_X7_atom_161]
  have efF : pF (fai x) = (pS x : Int) := if_pos g
  by_cases k45 : pK x = 45
  · have hx : nxt (pK x) := by rw [k45]; exact ⟨by decide, by decide⟩
    obtain ⟨M1, a1, a2, a3, a4⟩ := opens_r (sc := sc) (d := d + 1) ht hb hop h g hx
    rw [bi_t ⟨g, k45⟩, if_neg (by decide), if_pos rg1, a1, Option.bind_some, if_neg (show ¬ (pK x = 2 ∨ pK x = 3) by omega)]
    show ∃ M' v, vr sc (d + 4) c_X7_atom (15, [(2, 107), (0, 0)], [(0, if op < 5 then 1 else 0)], (K0, M1)) = _ ∧ _
    rw [e_X7_atom_15]
    by_cases q : op < 5
    · rw [if_pos q, if_neg (by decide), if_pos rg1, if_pos (show pK x = 45 ∧ op < 5 from ⟨k45, q⟩)]
      have iv' := Iv_stp iv hx.1
      obtain ⟨M2, v, b1, b2, b3, b4⟩ := hA q M1 (stp b x) (a3 q) g iv'.1
      rw [b1, Option.bind_some]
      show ∃ M' v', vr sc (d + 4) c_X7_atom (22, [(2, 107), (0, 0)], [(0, v)], (K0, M2)) = _ ∧ _
      have rn : RN M2 (d_up M2 107 25 (op : Int)) := RN.up (by decide) _
      rw [e_X7_atom_22, if_pos (show og K0 7 107 25 = true from rfl), if_pos (show og K0 7 107 25 = true from rfl), b2.2.2.1, w_p op (by omega), if_pos ⟨by omega, by omega⟩, e161]
      refine ⟨_, _, rfl, b2.opn op, (a2.tr b3).tr rn, fun z => ?_, fun z => b4.2 z⟩
      obtain ⟨iy, ly, c, ec, lc, hc⟩ := b4.1 z
      have hy := iy.1
      have hy2 := iy.2.1
      have hy3 := iy.2.2.1
      have eC : pC (stp b x) = pC x := rfl
      rw [eC] at ec
      have hx0 := iv.1
      have hlen : (pC (G5 (stp b x))).length + 1 ≤ pS (G5 (stp b x)) := by
        rw [ec, List.length_append]
        omega
      have e2 := emt_C (k := 4) (v := 0) (x := G5 (stp b x)) (by omega)
      have hsz : pS (emt 4 0 (G5 (stp b x))) = pS (G5 (stp b x)) := rfl
      have hn5 := h5n q
      refine ⟨⟨by rw [e2, List.length_append]; exact hlen, iy.2.1, iy.2.2.1, iy.2.2.2⟩, by rw [hsz]; omega, c ++ [(4, 0)], by rw [e2, ec]; simp, by rw [List.length_append, hsz]; simp; omega, fun st hst => ?_⟩
      rw [ev_app, hc st (by omega)]
      rfl
    · rw [if_neg q, if_pos rfl, if_neg (show ¬ (pK x = 45 ∧ op < 5) from fun z => q z.2), if_neg (show ¬ (pK x = 40 ∧ op < 5) from fun z => q z.2), e161]
      exact ⟨M1, 0, rfl, a4 q, a2, Out.bad fai_F rfl _⟩
  rw [bi_f (fun z => k45 z.2), if_pos rfl, if_pos rg1, sign_r (d := d + 3) h (by decide), Option.bind_some, if_neg (show ¬ (pK x = 45 ∧ op < 5) from fun z => k45 z.1)]
  show ∃ M' v, vr sc (d + 4) c_X7_atom (43, [(2, 107), (0, 0)], [(0, bi (pF x = -1 ∧ pK x = 40))], (K0, M)) = _ ∧ _
  rw [e_X7_atom_43]
  by_cases k40 : pK x = 40
  · have hx : nxt (pK x) := by rw [k40]; exact ⟨by decide, by decide⟩
    obtain ⟨M1, a1, a2, a3, a4⟩ := opens_r (sc := sc) (d := d + 1) ht hb hop h g hx
    rw [bi_t ⟨g, k40⟩, if_neg (by decide), if_pos rg1, a1, Option.bind_some, if_neg (show ¬ (pK x = 2 ∨ pK x = 3) by omega)]
    show ∃ M' v, vr sc (d + 4) c_X7_atom (50, [(2, 107), (0, 0)], [(0, if op < 5 then 1 else 0)], (K0, M1)) = _ ∧ _
    rw [e_X7_atom_50]
    by_cases q : op < 5
    · rw [if_pos q, if_neg (by decide), if_pos rg1, if_pos (show pK x = 40 ∧ op < 5 from ⟨k40, q⟩)]
      have iv' := Iv_stp iv hx.1
      obtain ⟨M2, v, b1, b2, b3, b4⟩ := hE q M1 (stp b x) (a3 q) g iv'.1
      rw [b1, Option.bind_some]
      generalize hG : G0 (stp b x) = y at *
      show ∃ M' v', vr sc (d + 4) c_X7_atom (57, [(2, 107), (0, 0)], [(0, v)], (K0, M2)) = _ ∧ _
      rw [e_X7_atom_57, if_pos rg1, sign_r (d := d + 3) b2 (by decide), Option.bind_some]
      show ∃ M' v', vr sc (d + 4) c_X7_atom (64, [(2, 107), (0, v)], [(0, bi (pF y = -1 ∧ pK y = 41))], (K0, M2)) = _ ∧ _
      rw [e_X7_atom_64]
      by_cases k41 : pF y = -1 ∧ pK y = 41
      · have hy : nxt (pK y) := by rw [k41.2]; exact ⟨by decide, by decide⟩
        have b2' := b2.opn op
        have rn : RN M2 (d_up M2 107 25 (op : Int)) := RN.up (by decide) _
        rw [bi_t k41, if_pos (by decide), e_X7_atom_71, if_pos (show og K0 7 107 25 = true from rfl), if_pos (show og K0 7 107 25 = true from rfl), b2.2.2.1, w_p op (by omega), if_pos ⟨by omega, by omega⟩, if_pos (show og K0 7 107 26 = true from rfl), (b2'.good k41.1).1, if_neg (fun z => z rfl), if_pos rg1]
        obtain ⟨M3, c1, c2, c3⟩ := next_q (sc := sc) (d := d + 2) ht hb b2' k41.1 hy
        rw [c1, Option.bind_some]
        show ∃ M' v', vr sc (d + 4) c_X7_atom (92, [(2, 107), (0, v)], [], (K0, M3)) = _ ∧ _
        have en : ned b 41 y = stp b y := if_pos k41.2
        rw [e_X7_atom_92, e161, en]
        obtain ⟨iy, ly, c, ec, lc, hc⟩ := b4.1 k41.1
        have iz := Iv_stp iy hy.1
        have hn0 := h0n q
        refine ⟨M3, v, rfl, c2, ((a2.tr b3).tr rn).tr c3, fun _ => ⟨iz.1, by omega, c, ec, by omega, fun st hst => hc st (by omega)⟩, fun z => absurd k41.1 z⟩
      · obtain ⟨M3, c1, c2, c3⟩ := fail_r (sc := sc) (d := d + 3) hb b2
        rw [bi_f k41, if_neg (fun z => z rfl), if_pos rg1, c1, Option.bind_some]
        show ∃ M' v', vr sc (d + 4) c_X7_atom (71, [(2, 107), (0, v)], [], (K0, M3)) = _ ∧ _
        have c2' := c2.opn op
        have rn : RN M3 (d_up M3 107 25 (op : Int)) := RN.up (by decide) _
        have en : ned b 41 y = fai y := if_neg (fun z => by
          by_cases gy : pF y = -1
          · exact k41 ⟨gy, z⟩
          · have := b4.2 gy
            omega)
        rw [e_X7_atom_71, if_pos (show og K0 7 107 25 = true from rfl), if_pos (show og K0 7 107 25 = true from rfl), c2.2.2.1, w_p op (by omega), if_pos ⟨by omega, by omega⟩, if_pos (show og K0 7 107 26 = true from rfl), (c2'.bad fai_F).1, if_pos (by decide), e161, en]
        exact ⟨_, v, rfl, c2', ((a2.tr b3).tr c3).tr rn, Out.bad fai_F rfl _⟩
    · rw [if_neg q, if_pos rfl, if_neg (show ¬ (pK x = 40 ∧ op < 5) from fun z => q z.2), e161]
      exact ⟨M1, 0, rfl, a4 q, a2, Out.bad fai_F rfl _⟩
  rw [bi_f (fun z => k40 z.2), if_pos rfl, if_pos (show og K0 7 107 26 = true from rfl), h26, if_neg (fun z => z rfl), if_pos (show og K0 7 107 22 = true from rfl), if_neg (show ¬ (pK x = 40 ∧ op < 5) from fun z => k40 z.1)]
  have hemt : (pK x = 2 ∨ pK x = 3) → Iv b (stp b (emt (pK x) (pV x) x)) ∧ pS x < pS (stp b (emt (pK x) (pV x) x)) ∧ pC (stp b (emt (pK x) (pV x) x)) = pC x ++ [(pK x, pV x)] := by
    intro z
    have i0 := iv.1
    have i1 := iv.2.1
    have i2 := iv.2.2.1
    have i3 := iv.2.2.2 (by omega)
    have is := Iv_stp iv (by omega)
    have e2 := emt_C (k := pK x) (v := pV x) (x := x) (by omega)
    have e3 : pC (stp b (emt (pK x) (pV x) x)) = pC x ++ [(pK x, pV x)] := e2
    have e4 : pS (stp b (emt (pK x) (pV x) x)) = pS (stp b x) := rfl
    refine ⟨⟨?_, is.1.2.1, is.1.2.2.1, is.1.2.2.2⟩, is.2, e3⟩
    rw [e3, e4, List.length_append]
    have := is.2
    simp
    omega
  by_cases k2 : pK x = 2
  · have hx : nxt (pK x) := by rw [k2]; exact ⟨by decide, by decide⟩
    rcases rK_tok hK with z | z | z | z | z
    · omega
    · omega
    · rw [if_neg (by rw [z.1]; decide), if_pos (show og K0 7 107 24 = true from rfl), if_pos rg1, z.2.2.1, show w32 (pV x) = pV x from w32_i (by omega) (by omega)]
      obtain ⟨M1, a1, a2, a3⟩ := next_q (sc := sc) (d := d + 2) ht hb h g hx
      rw [a1, Option.bind_some]
      show ∃ M' v, vr sc (d + 4) c_X7_atom (120, [(2, 107), (0, pV x)], [], (K0, M1)) = _ ∧ _
      have he := hemt (Or.inl k2)
      rw [e_X7_atom_120, e161, if_pos (show pK x = 2 ∨ pK x = 3 from Or.inl k2)]
      refine ⟨M1, pV x, rfl, a2, a3, fun _ => ⟨he.1, he.2.1, [(pK x, pV x)], he.2.2, by have := he.2.1; simp; omega, fun st hst => ?_⟩, fun y => absurd g y⟩
      show evs ns st (pK x, pV x) = _
      unfold evs
      rw [if_pos (show pK x = 2 ∨ pK x = 3 from Or.inl k2), if_pos (by omega), if_pos k2]
    · omega
    · omega
  have h22 : ¬ M 107 22 = 2 := fun z => by
    rcases rK_tok hK with y | y | y | y | y
    · omega
    · omega
    · exact k2 y.2.1
    · omega
    · omega
  rw [if_pos h22, if_pos (show og K0 7 107 26 = true from rfl), if_neg (fun z => z rfl), if_pos (show og K0 7 107 22 = true from rfl)]
  by_cases t1 : M 107 22 = 1
  · obtain ⟨M1, v, a1, a2, a3, a4⟩ := name_r (sc := sc) (d := d) ht hb h g t1
    rw [if_neg (fun z => z t1), if_pos rg1, a1, Option.bind_some]
    show ∃ M' v', vr sc (d + 4) c_X7_atom (142, [(2, 107), (0, 0)], [(0, v)], (K0, M1)) = _ ∧ _
    rw [e_X7_atom_142, if_pos (show og K0 7 107 26 = true from rfl)]
    by_cases k3 : pK x = 3
    · obtain ⟨em, l0, l1, evn⟩ := a3 k3
      subst em
      have hx : nxt (pK x) := by rw [k3]; exact ⟨by decide, by decide⟩
      obtain ⟨M2, b1, b2, b3⟩ := next_q (sc := sc) (d := d + 2) ht hb h g hx
      rw [h26, if_neg (fun z => z rfl), if_pos rg1, b1, Option.bind_some]
      show ∃ M' v', vr sc (d + 4) c_X7_atom (154, [(2, 107), (0, v)], [], (K0, M2)) = _ ∧ _
      have he := hemt (Or.inr k3)
      rw [e_X7_atom_154, e161, if_pos (show pK x = 2 ∨ pK x = 3 from Or.inr k3)]
      refine ⟨M2, v, rfl, b2, b3, fun _ => ⟨he.1, he.2.1, [(pK x, pV x)], he.2.2, by have := he.2.1; simp; omega, fun st hst => ?_⟩, fun y => absurd g y⟩
      show evs ns st (pK x, pV x) = _
      unfold evs
      rw [if_pos (show pK x = 2 ∨ pK x = 3 from Or.inr k3), if_pos (by omega), if_neg k2, if_pos ⟨l0, l1⟩, evn]
    · have b2 := a4 k3
      rw [(b2.bad fai_F).1, if_pos (by decide), e161, if_neg (show ¬ (pK x = 2 ∨ pK x = 3) from fun z => z.elim k2 k3)]
      exact ⟨M1, v, rfl, b2, a2, Out.bad fai_F rfl _⟩
  · have k3 : ¬ pK x = 3 := fun z => by
      rcases rK_tok hK with y | y | y | y | y
      · omega
      · exact t1 y.1
      · omega
      · omega
      · omega
    obtain ⟨M1, a1, a2, a3⟩ := fail_r (sc := sc) (d := d + 3) hb h
    rw [if_pos t1, if_pos rg1, a1, Option.bind_some, if_neg (show ¬ (pK x = 2 ∨ pK x = 3) from fun z => z.elim k2 k3)]
    show ∃ M' v', vr sc (d + 4) c_X7_atom (161, [(2, 107), (0, 0)], [], (K0, M1)) = _ ∧ _
    rw [e161]
    exact ⟨M1, 0, rfl, a2, a3, Out.bad fai_F rfl _⟩
