/-! calls that leave the state as it is: both sides -/
def Both (kc kr tag : Nat) (av : List dV) : Prop := ∀ (sc : dS) (d : Nat) (M : dM), Inv M → ∃ (v : Int) (M1 M2 : dM), vc sc (d + 100) kc ((2, 0) :: av) (K0, M) = some ([(tag, v)], (K0, M1)) ∧ vc sc (d + 100) kr ((2, 107) :: av) (K0, M1) = some ([(tag, v)], (K0, M2)) ∧ Inv M2
theorem rS_p {M : dM} {so : Nat → Int} {sl : Nat → List Int} (ho : okS so sl) (h : ∀ n : Nat, n < 4 → rS M n (so n) (sl n)) : ∀ n : Nat, n < 4 → -1 ≤ so n ∧ rS M n (so n) (sl n) := fun n hn => ⟨(ho n hn).1, h n hn⟩
theorem B_told (x y : Int) : Both 63 125 0 [(0, x), (0, y)] := fun sc d M h => by
  obtain ⟨t, ko, xs, b, so, sl, hs, ok, hc, hr⟩ := h
  obtain ⟨M1, a1, a2⟩ := told_c (sc := sc) (d := d + 92) hs hc.1 ok.1.1 hc.2.2.1 ok.2.2.1 ok.1.2.2 x y
  have f1 : Fr M M1 := a2.fr
  have r1 := hr.ke f1.ke
  have hs1 := f1.sk hs
  obtain ⟨M2, b1, b2⟩ := told_r (sc := sc) (d := d + 48) hs1 r1.1 ok.1.1 r1.2.2.1 ok.2.2.1 ok.1.2.2 x y
  have f2 : Fr M1 M2 := b2.fr
  exact ⟨_, M1, M2, a1, b1, t, ko, xs, b, so, sl, f2.sk hs1, ok, (hc.ka ok.2.2.1.1 f1.ka).ka ok.2.2.1.1 f2.ka, r1.ke f2.ke⟩
theorem B_read (x : Int) : Both 64 146 0 [(0, x)] := fun sc d M h => by
  obtain ⟨t, ko, xs, b, so, sl, hs, ok, hc, hr⟩ := h
  obtain ⟨M1, a1, a2⟩ := read_c (sc := sc) (d := d + 94) hs hc.1 ok.1.1 hc.2.2.1 ok.2.2.1 ok.1.2.2 x
  have f1 : Fr M M1 := a2.fr
  have r1 := hr.ke f1.ke
  have hs1 := f1.sk hs
  obtain ⟨M2, b1, b2⟩ := read_r (sc := sc) (d := d + 52) hs1 r1.1 ok.1.1 r1.2.2.1 ok.2.2.1 ok.1.2.2 x
  have f2 : Fr M1 M2 := b2.ru.fr
  exact ⟨_, M1, M2, a1, b1, t, ko, xs, b, so, sl, f2.sk hs1, ok, (hc.ka ok.2.2.1.1 f1.ka).ka ok.2.2.1.1 f2.ka, r1.ke f2.ke⟩
theorem B_knot (x y : Int) : Both 69 161 0 [(0, x), (0, y)] := fun sc d M h => by
  obtain ⟨t, ko, xs, b, so, sl, hs, ok, hc, hr⟩ := h
  obtain ⟨M1, a1, a2⟩ := knot_c (sc := sc) (d := d + 95) hs hc.2.2.2.2 x y
  have f1 : Fr M M1 := a2
  have r1 := hr.ke f1.ke
  have hs1 := f1.sk hs
  obtain ⟨M2, b1, b2⟩ := knot_r (sc := sc) (d := d + 95) hs1 (rS_p ok.2.2.2.2 r1.2.2.2.2) x y
  have f2 : Fr M1 M2 := b2
  exact ⟨_, M1, M2, a1, b1, t, ko, xs, b, so, sl, f2.sk hs1, ok, (hc.ka ok.2.2.1.1 f1.ka).ka ok.2.2.1.1 f2.ka, r1.ke f2.ke⟩
theorem B_ties (x y : Int) : Both 71 158 0 [(0, x), (0, y)] := fun sc d M h => by
  obtain ⟨t, ko, xs, b, so, sl, hs, ok, hc, hr⟩ := h
  obtain ⟨M1, a1, a2⟩ := ties_c (sc := sc) (d := d + 96) hs hc.1 ok.1.1 hc.2.2.2.2 x y
  have f1 : Fr M M1 := a2
  have r1 := hr.ke f1.ke
  have hs1 := f1.sk hs
  obtain ⟨M2, b1, b2⟩ := ties_r (sc := sc) (d := d + 96) hs1 r1.1 ok.1.1 (rS_p ok.2.2.2.2 r1.2.2.2.2) x y
  have f2 : Fr M1 M2 := b2
  exact ⟨_, M1, M2, a1, b1, t, ko, xs, b, so, sl, f2.sk hs1, ok, (hc.ka ok.2.2.1.1 f1.ka).ka ok.2.2.1.1 f2.ka, r1.ke f2.ke⟩
theorem B_one (x y : Int) : Both 72 163 0 [(0, x), (0, y)] := fun sc d M h => by
  obtain ⟨t, ko, xs, b, so, sl, hs, ok, hc, hr⟩ := h
  obtain ⟨M1, a1, a2⟩ := one_c (sc := sc) (d := d + 96) hs hc.1 ok.1.1  x y
  have f1 : Fr M M1 := a2
  have r1 := hr.ke f1.ke
  have hs1 := f1.sk hs
  obtain ⟨M2, b1, b2⟩ := one_r (sc := sc) (d := d + 95) hs1 r1.1 ok.1.1  x y
  have f2 : Fr M1 M2 := b2
  exact ⟨_, M1, M2, a1, b1, t, ko, xs, b, so, sl, f2.sk hs1, ok, (hc.ka ok.2.2.1.1 f1.ka).ka ok.2.2.1.1 f2.ka, r1.ke f2.ke⟩
theorem B_holds (x : Int) : Both 73 166 0 [(0, x)] := fun sc d M h => by
  obtain ⟨t, ko, xs, b, so, sl, hs, ok, hc, hr⟩ := h
  obtain ⟨M1, a1, a2⟩ := holds_c (sc := sc) (d := d + 93) hs hc.1 ok.1.1 hc.2.2.1 ok.2.2.1 ok.1.2.2 x
  have f1 : Fr M M1 := a2.fr
  have r1 := hr.ke f1.ke
  have hs1 := f1.sk hs
  obtain ⟨M2, b1, b2⟩ := holds_r (sc := sc) (d := d + 50) hs1 r1.1 ok.1.1 r1.2.2.1 ok.2.2.1 ok.1.2.2 x
  have f2 : Fr M1 M2 := b2.fr
  exact ⟨_, M1, M2, a1, b1, t, ko, xs, b, so, sl, f2.sk hs1, ok, (hc.ka ok.2.2.1.1 f1.ka).ka ok.2.2.1.1 f2.ka, r1.ke f2.ke⟩
theorem B_run (x y z : Int) : Both 76 176 0 [(0, x), (0, y), (0, z)] := fun sc d M h => by
  obtain ⟨t, ko, xs, b, so, sl, hs, ok, hc, hr⟩ := h
  obtain ⟨M1, a1, a2⟩ := run_c (sc := sc) (d := d + 90) hs hc.1 ok.1.1 ok.1.2.1 hc.2.2.1 ok.2.2.1 ok.1.2.2 x y z
  have f1 : Fr M M1 := (FT20_fr a2)
  have r1 := hr.ke f1.ke
  have hs1 := f1.sk hs
  obtain ⟨M2, b1, b2, b3, b4⟩ := run_r (sc := sc) (d := d + 47) hs1 r1.1 ok.1.1 ok.1.2.1 r1.2.2.1 ok.2.2.1 ok.1.2.2 x y z
  obtain ⟨k1, k2, k3, k4, k5⟩ := b3.k
  exact ⟨_, M1, M2, a1, b1, t, ko, xs, b, so, sl, b2, ok, (hc.ka ok.2.2.1.1 f1.ka).ka ok.2.2.1.1 k5, b4, rK_ag k1 r1.2.1, rX_ag k2 r1.2.2.1, rB_ag k3 r1.2.2.2.1, fun n hn => rS_ag k4 (r1.2.2.2.2 n hn)⟩
theorem B_lasts (x : Int) : Both 77 177 0 [(0, x)] := fun sc d M h => by
  obtain ⟨t, ko, xs, b, so, sl, hs, ok, hc, hr⟩ := h
  obtain ⟨M1, a1, a2⟩ := lasts_c (sc := sc) (d := d + 90) hs hc.1 ok.1.1 ok.1.2.1 hc.2.2.1 ok.2.2.1 ok.1.2.2 x
  have f1 : Fr M M1 := (FT20_fr a2)
  have r1 := hr.ke f1.ke
  have hs1 := f1.sk hs
  obtain ⟨M2, b1, b2, b3, b4⟩ := lasts_r (sc := sc) (d := d + 47) hs1 r1.1 ok.1.1 ok.1.2.1 r1.2.2.1 ok.2.2.1 ok.1.2.2 x
  obtain ⟨k1, k2, k3, k4, k5⟩ := b3.k
  exact ⟨_, M1, M2, a1, b1, t, ko, xs, b, so, sl, b2, ok, (hc.ka ok.2.2.1.1 f1.ka).ka ok.2.2.1.1 k5, b4, rK_ag k1 r1.2.1, rX_ag k2 r1.2.2.1, rB_ag k3 r1.2.2.2.1, fun n hn => rS_ag k4 (r1.2.2.2.2 n hn)⟩
theorem B_best (x y : Int) : Both 78 180 0 [(0, x), (0, y)] := fun sc d M h => by
  obtain ⟨t, ko, xs, b, so, sl, hs, ok, hc, hr⟩ := h
  obtain ⟨M1, a1, a2⟩ := best_c (sc := sc) (d := d + 92) hs hc.1 ok.1.1 hc.2.2.1 ok.2.2.1 ok.1.2.2 hc.2.2.2.2 x y
  have f1 : Fr M M1 := a2
  have r1 := hr.ke f1.ke
  have hs1 := f1.sk hs
  obtain ⟨M2, b1, b2⟩ := best_r (sc := sc) (d := d + 50) hs1 r1.1 ok.1.1 r1.2.2.1 ok.2.2.1 ok.1.2.2 ok.2.2.2.2 r1.2.2.2.2 x y
  have f2 : Fr M1 M2 := b2
  exact ⟨_, M1, M2, a1, b1, t, ko, xs, b, so, sl, f2.sk hs1, ok, (hc.ka ok.2.2.1.1 f1.ka).ka ok.2.2.1.1 f2.ka, r1.ke f2.ke⟩
theorem B_shortest (x y z : Int) : Both 83 183 0 [(0, x), (0, y), (0, z)] := fun sc d M h => by
  obtain ⟨t, ko, xs, b, so, sl, hs, ok, hc, hr⟩ := h
  obtain ⟨M1, a1, a2⟩ := shortest_c (sc := sc) (d := d + 92) hs hc.1 ok.1.1 hc.2.2.1 ok.2.2.1 ok.1.2.2 x y z
  have f1 : Fr M M1 := a2
  have r1 := hr.ke f1.ke
  have hs1 := f1.sk hs
  obtain ⟨M2, b1, b2⟩ := shortest_r (sc := sc) (d := d + 50) hs1 r1.1 ok.1.1 r1.2.2.1 ok.2.2.1 ok.1.2.2 x y z
  have f2 : Fr M1 M2 := b2.fr
  exact ⟨_, M1, M2, a1, b1, t, ko, xs, b, so, sl, f2.sk hs1, ok, (hc.ka ok.2.2.1.1 f1.ka).ka ok.2.2.1.1 f2.ka, r1.ke f2.ke⟩
theorem B_share (x y : Int) : Both 85 185 1 [(0, x), (0, y)] := fun sc d M h => by
  obtain ⟨t, ko, xs, b, so, sl, hs, ok, hc, hr⟩ := h
  have a1 := share_c (sc := sc) (d := d + 98) hs hc.1 ok.1.1  x y
  have b1 := share_r (sc := sc) (d := d + 97) hs hr.1 ok.1.1  x y
  exact ⟨_, M, M, a1, b1, t, ko, xs, b, so, sl, hs, ok, hc, hr⟩
theorem B_tells (x y z : Int) : Both 86 188 0 [(0, x), (0, y), (0, z)] := fun sc d M h => by
  obtain ⟨t, ko, xs, b, so, sl, hs, ok, hc, hr⟩ := h
  obtain ⟨M1, a1, a2⟩ := tells_c (sc := sc) (d := d + 91) hs hc.1 ok.1.1 hc.2.2.1 ok.2.2.1 ok.1.2.2 hc.2.2.2.2 x y z
  have f1 : Fr M M1 := (FT20_fr a2)
  have r1 := hr.ke f1.ke
  have hs1 := f1.sk hs
  obtain ⟨M2, b1, b2, b3⟩ := tells_r (sc := sc) (d := d + 47) hs1 r1.1 ok.1.1 r1.2.2.1 ok.2.2.1 ok.1.2.2 ok.2.2.2.2 r1.2.2.2.2 x y z
  obtain ⟨k1, k2, k3, k4, k5⟩ := b2.k
  exact ⟨_, M1, M2, a1, b1, t, ko, xs, b, so, sl, b2.sk hs1, ok, (hc.ka ok.2.2.1.1 f1.ka).ka ok.2.2.1.1 k5, b3, rK_ag k1 r1.2.1, rX_ag k2 r1.2.2.1, rB_ag k3 r1.2.2.2.1, fun n hn => rS_ag k4 (r1.2.2.2.2 n hn)⟩
theorem B_drawn (x y : Int) : Both 94 191 0 [(0, x), (0, y)] := fun sc d M h => by
  obtain ⟨t, ko, xs, b, so, sl, hs, ok, hc, hr⟩ := h
  obtain ⟨M1, a1, a2⟩ := drawn_c (sc := sc) (d := d + 94) hs x y
  have f1 : Fr M M1 := a2
  have r1 := hr.ke f1.ke
  have hs1 := f1.sk hs
  obtain ⟨M2, b1, b2⟩ := drawn_r (sc := sc) (d := d + 94) hs1 x y
  have f2 : Fr M1 M2 := b2
  exact ⟨_, M1, M2, a1, b1, t, ko, xs, b, so, sl, f2.sk hs1, ok, (hc.ka ok.2.2.1.1 f1.ka).ka ok.2.2.1.1 f2.ka, r1.ke f2.ke⟩
theorem B_chance (x y z u : Int) : Both 96 192 1 [(0, x), (0, y), (0, z), (0, u)] := fun sc d M h => by
  obtain ⟨t, ko, xs, b, so, sl, hs, ok, hc, hr⟩ := h
  obtain ⟨M1, a1, a2⟩ := chance_c (sc := sc) (d := d + 94) hs x y z u
  have f1 : Fr M M1 := a2
  have r1 := hr.ke f1.ke
  have hs1 := f1.sk hs
  obtain ⟨M2, b1, b2⟩ := chance_r (sc := sc) (d := d + 94) hs1 x y z u
  have f2 : Fr M1 M2 := b2
  exact ⟨_, M1, M2, a1, b1, t, ko, xs, b, so, sl, f2.sk hs1, ok, (hc.ka ok.2.2.1.1 f1.ka).ka ok.2.2.1.1 f2.ka, r1.ke f2.ke⟩
theorem B_count (x : Int) : Both 100 195 0 [(0, x)] := fun sc d M h => by
  obtain ⟨t, ko, xs, b, so, sl, hs, ok, hc, hr⟩ := h
  have a1 := count_c (sc := sc) (d := d + 97) hs hc.1 ok.1.1 hc.2.2.1 hc.2.2.2.1 x
  have b1 := count_r (sc := sc) (d := d + 97) hs hr.1 ok.1.1 hr.2.2.1 hr.2.2.2.1 x
  exact ⟨_, M, M, a1, b1, t, ko, xs, b, so, sl, hs, ok, hc, hr⟩
theorem B_taken (x y : Int) : Both 105 202 0 [(0, x), (0, y)] := fun sc d M h => by
  obtain ⟨t, ko, xs, b, so, sl, hs, ok, hc, hr⟩ := h
  have a1 := taken_c (sc := sc) (d := d + 97) hs hc.1 ok.1.1  x y
  have b1 := taken_r (sc := sc) (d := d + 97) hs hr.1 ok.1.1  x y
  exact ⟨_, M, M, a1, b1, t, ko, xs, b, so, sl, hs, ok, hc, hr⟩
