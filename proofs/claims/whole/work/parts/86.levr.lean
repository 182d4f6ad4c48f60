/-! the reference reads a whole text -/
def DDf (r o : Nat) : Nat := (5 - r) + 1 + 5 * (5 - o)
theorem SimR.mono {sc : dS} {D : Nat} {ns : Nat → Int} {t : Nat} {b : List Int} {m op n n' : Nat} {F : Ps → Ps} (h : SimR sc D ns t b m op n F) (hn : n ≤ n') : SimR sc D ns t b m op n' F := by
  intro M x h1 g iv
  obtain ⟨M', v, a1, a2, a3, a4⟩ := h M x h1 g iv
  refine ⟨M', v, a1, a2, a3, fun z => ?_, a4.2⟩
  obtain ⟨iy, ly, c, ec, lc, hc⟩ := a4.1 z
  exact ⟨iy, ly, c, ec, lc, fun st hst => hc st (by omega)⟩
theorem lev_r {sc : dS} {ns : Nat → Int} {t : Nat} {b : List Int} (ht : t < 6) (hb : okB b) : ∀ (n r o : Nat), r ≤ 5 → o ≤ 5 → nL r o ≤ n → ∀ d : Nat, SimR sc (d + n + 8) ns t b (140 - r) o (DDf r o) (lev b n r o) := by
  intro n
  induction n with
  | zero => intro r o _ _ h; unfold nL at h; omega
  | succ n ih =>
    intro r o hr ho hn d
    unfold nL at hn
    have es : d + n + 4 + 4 = d + n + 8 := by omega
    have er : d + n + 4 + 5 = d + (n + 1) + 8 := by omega
    rcases (show r = 0 ∨ r = 1 ∨ r = 2 ∨ r = 3 ∨ r = 4 ∨ r = 5 by omega) with rfl | rfl | rfl | rfl | rfl | rfl
    · have k := either_r (sc := sc) (d := d + n + 4) (ns := ns) ht hb (by rw [es]; exact ih 1 o (by omega) ho (by unfold nL; omega) d)
      rw [er] at k
      exact k.mono (by unfold DDf; omega)
    · have k := both_r (sc := sc) (d := d + n + 4) (ns := ns) ht hb (by rw [es]; exact ih 2 o (by omega) ho (by unfold nL; omega) d)
      rw [er] at k
      exact k.mono (by unfold DDf; omega)
    · have eF : lev b (n + 1) 2 o = fun x => if pK x = 15 then (if o < 5 then emt 15 0 (lev b n 2 (o + 1) (stp b x)) else fai x) else lp b (lev b n 3 o) 2 1 (lev b n 3 o x) := by
        funext x
        show (if 5 ≤ 2 then _ else if 2 = 2 ∧ pK x = 15 then _ else lp b (lev b n 3 o) 2 (if 2 = 2 then 1 else 160) (lev b n 3 o x)) = _
        rw [if_neg (by decide), if_pos (show 2 = 2 from rfl)]
        by_cases z : pK x = 15
        · rw [if_pos ⟨rfl, z⟩, if_pos z]
        · rw [if_neg (fun y => z y.2), if_neg z]
      have k := not_r (sc := sc) (d := d + n + 4) (ns := ns) (n := DDf 3 o) ht hb ho (by unfold DDf; omega) (by rw [es]; exact ih 3 o (by omega) ho (by unfold nL; omega) d) (fun q => by rw [es]; exact (ih 2 (o + 1) (by omega) (by omega) (by unfold nL; omega) d).mono (by unfold DDf; omega))
      rw [er] at k
      rw [eF]
      exact k.mono (by unfold DDf; omega)
    · have k := added_r (sc := sc) (d := d + n + 4) (ns := ns) ht hb (by rw [es]; exact ih 4 o (by omega) ho (by unfold nL; omega) d)
      rw [er] at k
      exact k.mono (by unfold DDf; omega)
    · have k := term_r (sc := sc) (d := d + n + 4) (ns := ns) ht hb (by rw [es]; exact ih 5 o (by omega) ho (by unfold nL; omega) d)
      rw [er] at k
      exact k.mono (by unfold DDf; omega)
    · have k := atom_r (sc := sc) (d := d + n + 4) (ns := ns) (n := DDf 5 o) (n5 := DDf 5 (o + 1)) (n0 := DDf 0 (o + 1)) ht hb ho (by unfold DDf; omega) (fun q => by unfold DDf; omega) (fun q => by unfold DDf; omega) (fun q => by rw [es]; exact ih 5 (o + 1) (by omega) (by omega) (by unfold nL; omega) d) (fun q => by rw [es]; exact ih 0 (o + 1) (by omega) (by omega) (by unfold nL; omega) d)
      rw [er] at k
      exact k
theorem fai_id {x : Ps} (h : pK x = 1) (g : pF x ≠ -1) : fai x = x := by
  unfold fai
  rw [if_neg g]
  obtain ⟨k, r⟩ := x
  have : k = 1 := h
  subst this
  rfl
theorem lev_bad {b : List Int} {x : Ps} (h : pK x = 1) (g : pF x ≠ -1) : ∀ (n r o : Nat), lev b n r o x = x := by
  intro n
  induction n with
  | zero => intro r o; rfl
  | succ n ih =>
    intro r o
    unfold lev
    rw [h]
    by_cases q : 5 ≤ r
    · rw [if_pos q, if_neg (by decide), if_neg (fun z => absurd z.1 (by decide)), if_neg (fun z => absurd z.1 (by decide))]
      exact fai_id h g
    · rw [if_neg q, if_neg (fun z => absurd z.2 (by decide)), ih]
      exact lp_1 h _
def Ext (x y : Ps) : Prop := ∃ c : List (Int × Int), pC y = pC x ++ c
theorem Ext.rf (x : Ps) : Ext x x := ⟨[], by simp⟩
theorem Ext.tr {x y z : Ps} (h1 : Ext x y) (h2 : Ext y z) : Ext x z := by
  obtain ⟨c, hc⟩ := h1
  obtain ⟨e, he⟩ := h2
  exact ⟨c ++ e, by rw [he, hc]; simp⟩
theorem Ext.stp (b : List Int) (x : Ps) : Ext x (stp b x) := ⟨[], by rw [List.append_nil]; rfl⟩
theorem Ext.fai (x : Ps) : Ext x (fai x) := ⟨[], by rw [List.append_nil]; rfl⟩
theorem Ext.emt (k v : Int) (x : Ps) : Ext x (emt k v x) := by
  by_cases h : (pC x).length < 160
  · exact ⟨[(k, v)], if_pos h⟩
  · exact ⟨[], by rw [List.append_nil]; exact if_neg h⟩
theorem Ext.ned (b : List Int) (w : Int) (x : Ps) : Ext x (ned b w x) := ⟨[], by rw [List.append_nil]; exact ned_pC b w x⟩
theorem Ext.lp {b : List Int} {F : Ps → Ps} (hF : ∀ x, Ext x (F x)) (r : Nat) : ∀ (k : Nat) (x : Ps), Ext x (lp b F r k x) := by
  intro k
  induction k with
  | zero => intro x; exact Ext.rf x
  | succ k ih =>
    intro x
    show Ext x (if jn r (pK x) = true then _ else _)
    split
    · exact ((Ext.stp b x).tr (hF _)).tr ((Ext.emt _ _ _).tr (ih _))
    · exact Ext.rf x
theorem Ext.lev {b : List Int} : ∀ (n r o : Nat) (x : Ps), Ext x (lev b n r o x) := by
  intro n
  induction n with
  | zero => intro r o x; exact Ext.rf x
  | succ n ih =>
    intro r o x
    show Ext x (if 5 ≤ r then _ else _)
    split
    · split
      · exact (Ext.emt _ _ _).tr (Ext.stp _ _)
      · split
        · exact ((Ext.stp b x).tr (ih _ _ _)).tr (Ext.emt _ _ _)
        · split
          · exact ((Ext.stp b x).tr (ih _ _ _)).tr (Ext.ned _ _ _)
          · exact Ext.fai x
    · split
      · split
        · exact ((Ext.stp b x).tr (ih _ _ _)).tr (Ext.emt _ _ _)
        · exact Ext.fai x
      · exact (ih _ _ _).tr (Ext.lp (fun y => ih _ _ y) _ _ _)
theorem Ext.rdp (b : List Int) (k : Nat) (x : Ps) : Ext x (rdp b k x) := ((Ext.ned b _ x).tr (Ext.lev _ _ _ _)).tr (Ext.ned b _ _)
def en (b : List Int) : Nat → Nat
  | 0 => (pC (rd1 b)).length
  | 1 => (pC (rd2 b)).length
  | _ => (pC (rd3 b)).length
def bg (b : List Int) : Nat → Nat
  | 0 => 0
  | w + 1 => en b w
def seg (b : List Int) (w : Nat) : List (Int × Int) := ((pC (rd b)).take (en b w)).drop (bg b w)
def vl (ns : Nat → Int) (b : List Int) (w : Nat) : Int := (ev ns (seg b w) []).headD 0
theorem part_r {sc : dS} {d : Nat} {ns : Nat → Int} {t : Nat} {b : List Int} (ht : t < 6) (hb : okB b) {M : dM} {x : Ps} (h : RQ ns t b M x 0) (g : pF x = -1) (iv : Iv b x) {k : Nat} (hk : k < 3) : ∃ (M' : dM) (v : Int), vc sc (d + 45) 141 [(2, 107), (0, bi (pF x = -1 ∧ pK x = ((10 + k : Nat) : Int)))] (K0, M) = some ([(0, v)], (K0, M')) ∧ RQ ns t b M' (rdp b k x) 0 ∧ RN M M' ∧ Out ns b 31 x (rdp b k x) v := by
  have rg1 : rg K0 7 107 = true := rfl
  have hbl := hb.1
  rw [vc_s (md := m_X7_part) (L := [(2, 107), (0, bi (pF x = -1 ∧ pK x = ((10 + k : Nat) : Int))), (3, 0)]) rfl (Nat.le_of_ble_eq_true rfl) rfl]
  show ∃ M' v, vr sc (d + 44) c_X7_part (0, [(2, 107), (0, bi (pF x = -1 ∧ pK x = ((10 + k : Nat) : Int))), (3, 0)], [], (K0, M)) = _ ∧ _
  rw [e_X7_part_0]
  unfold rdp
  by_cases kk : pK x = ((10 + k : Nat) : Int)
  · have hx : nxt (pK x) := by rw [kk]; unfold nxt; omega
    obtain ⟨M1, a1, a2, a3⟩ := next_q (sc := sc) (d := d + 42) ht hb h g hx
    have iv' := Iv_stp iv hx.1
    rw [bi_t ⟨g, kk⟩, if_pos (by decide), e_X7_part_8, if_pos (show og K0 7 107 26 = true from rfl), (h.good g).1, if_neg (fun z => z rfl), if_pos rg1, a1, Option.bind_some, show ned b ((10 + k : Nat) : Int) x = stp b x from if_pos kk]
    show ∃ M' v, vr sc (d + 44) c_X7_part (19, [(2, 107), (0, 1), (3, 0)], [], (K0, M1)) = _ ∧ _
    obtain ⟨M2, v, b1, b2, b3, b4⟩ := lev_r (sc := sc) (ns := ns) ht hb 36 0 0 (by omega) (by omega) (by unfold nL; omega) d M1 (stp b x) a2 g iv'.1
    rw [e_X7_part_19, if_pos (show og K0 7 107 26 = true from rfl), (a2.good g).1, if_pos rfl, if_pos rg1, show vc sc (d + 44) 140 [(2, 107)] (K0, M1) = _ from b1, Option.bind_some]
    show ∃ M' v', vr sc (d + 44) c_X7_part (34, [(2, 107), (0, 1), (3, 0)], [(0, v)], (K0, M2)) = _ ∧ _
    generalize lev b 36 0 0 (stp b x) = y at *
    rw [e_X7_part_34, if_pos rg1, sign_r (d := d + 43) b2 (by decide), Option.bind_some]
    show ∃ M' v', vr sc (d + 44) c_X7_part (41, [(2, 107), (0, 1), (0, v)], [(0, bi (pF y = -1 ∧ pK y = 59))], (K0, M2)) = _ ∧ _
    rw [e_X7_part_41]
    by_cases k59 : pF y = -1 ∧ pK y = 59
    · have hy : nxt (pK y) := by rw [k59.2]; exact ⟨by decide, by decide⟩
      obtain ⟨M3, c1, c2, c3⟩ := next_q (sc := sc) (d := d + 42) ht hb b2 k59.1 hy
      rw [bi_t k59, if_pos (by decide), e_X7_part_48, if_pos (show og K0 7 107 26 = true from rfl), (b2.good k59.1).1, if_neg (fun z => z rfl), if_pos rg1, c1, Option.bind_some, show ned b 59 y = stp b y from if_pos k59.2]
      show ∃ M' v', vr sc (d + 44) c_X7_part (59, [(2, 107), (0, 1), (0, v)], [], (K0, M3)) = _ ∧ _
      rw [e_X7_part_59]
      obtain ⟨iy, ly, c, ec, lc, hc⟩ := b4.1 k59.1
      have iz := Iv_stp iy hy.1
      exact ⟨M3, v, rfl, c2, (a3.tr b3).tr c3, fun _ => ⟨iz.1, by omega, c, ec, by omega, fun st hst => hc st hst⟩, fun z => absurd k59.1 z⟩
    · obtain ⟨M3, c1, c2, c3⟩ := fail_r (sc := sc) (d := d + 43) hb b2
      have en : ned b 59 y = fai y := if_neg (fun z => by
        by_cases gy : pF y = -1
        · exact k59 ⟨gy, z⟩
        · have := b4.2 gy
          omega)
      rw [bi_f k59, if_neg (fun z => z rfl), if_pos rg1, c1, Option.bind_some, en]
      show ∃ M' v', vr sc (d + 44) c_X7_part (48, [(2, 107), (0, 1), (0, v)], [], (K0, M3)) = _ ∧ _
      rw [e_X7_part_48, if_pos (show og K0 7 107 26 = true from rfl), (c2.bad fai_F).1, if_pos (by decide), e_X7_part_59]
      exact ⟨M3, v, rfl, c2, (a3.tr b3).tr c3, Out.bad fai_F rfl _⟩
  · obtain ⟨M1, a1, a2, a3⟩ := fail_r (sc := sc) (d := d + 43) hb h
    have e1 : ned b ((10 + k : Nat) : Int) x = fai x := if_neg kk
    have e2 : lev b 36 0 0 (fai x) = fai x := lev_bad rfl fai_F _ _ _
    have e3 : ned b 59 (fai x) = fai x := (if_neg (show ¬ (1 : Int) = 59 by decide)).trans (fai_id rfl fai_F)
    obtain ⟨M2, c1, c2, c3⟩ := fail_r (sc := sc) (d := d + 43) hb a2
    rw [fai_id (x := fai x) rfl fai_F] at c2
    rw [bi_f (fun z => kk z.2), if_neg (fun z => z rfl), if_pos rg1, a1, Option.bind_some, e1, e2, e3]
    show ∃ M' v, vr sc (d + 44) c_X7_part (8, [(2, 107), (0, 0), (3, 0)], [], (K0, M1)) = _ ∧ _
    rw [e_X7_part_8, if_pos (show og K0 7 107 26 = true from rfl), (a2.bad fai_F).1, if_pos (by decide), e_X7_part_19, if_pos (show og K0 7 107 26 = true from rfl), (a2.bad fai_F).1, if_neg (by decide), e_X7_part_34, if_pos rg1, sign_r (d := d + 43) a2 (by decide), Option.bind_some]
    show ∃ M' v, vr sc (d + 44) c_X7_part (41, [(2, 107), (0, 0), (0, 0)], [(0, bi (pF (fai x) = -1 ∧ pK (fai x) = 59))], (K0, M1)) = _ ∧ _
    rw [e_X7_part_41, bi_f (fun z => fai_F z.1), if_neg (fun z => z rfl), if_pos rg1, c1, Option.bind_some]
    show ∃ M' v, vr sc (d + 44) c_X7_part (48, [(2, 107), (0, 0), (0, 0)], [], (K0, M2)) = _ ∧ _
    rw [e_X7_part_48, if_pos (show og K0 7 107 26 = true from rfl), (c2.bad fai_F).1, if_pos (by decide), e_X7_part_59]
    exact ⟨M2, 0, rfl, c2, a3.tr c3, Out.bad fai_F rfl _⟩
