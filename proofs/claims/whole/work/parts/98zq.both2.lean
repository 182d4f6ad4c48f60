/-! calls that change the state: both sides -/
def iR (x : Int) : Prop := -2147483648 ≤ x ∧ x < 2147483648
theorem B_set (x y z : Int) : Both 60 122 0 [(0, x), (0, y), (0, z)] := fun sc d M h => by
  obtain ⟨t, ko, xs, b, so, sl, hs, ok, hc, hr⟩ := h
  obtain ⟨M1, a1, a2, a3⟩ := set_c (sc := sc) (d := d + 91) hs hc.1 ok.1.1 hc.2.2.1 ok.2.2.1 ok.1.2.2 x y z
  obtain ⟨f1, f2, f3, f4, f5⟩ := FT1.k a2
  have r1 := hr.ke f5
  have hs1 := a2.sk isT_1 hs
  obtain ⟨M2, b1, b2, b3⟩ := set_r (sc := sc) (d := d + 47) hs1 r1.1 ok.1.1 r1.2.2.1 ok.2.2.1 ok.1.2.2 x y z
  obtain ⟨k1, k2, k3, k4, k5⟩ := b2.k
  have c1 : cA M1 (setS t x y z) ko xs b so sl := ⟨a3, cK_ag f1 hc.2.1, cX_ag f2 ok.2.2.1.1 hc.2.2.1, cB_ag f3 hc.2.2.2.1, fun n hn => cS_ag hn f4 (hc.2.2.2.2 n hn)⟩
  exact ⟨_, M1, M2, a1, b1, setS t x y z, ko, xs, b, so, sl, b2.sk hs1, ⟨okTr_set ok.1 x y z, ok.2⟩, c1.ka ok.2.2.1.1 k5, b3, rK_ag k1 r1.2.1, rX_ag k2 r1.2.2.1, rB_ag k3 r1.2.2.2.1, fun n hn => rS_ag k4 (r1.2.2.2.2 n hn)⟩
theorem B_lad (x y : Int) : Both 62 124 0 [(0, x), (0, y)] := fun sc d M h => by
  obtain ⟨t, ko, xs, b, so, sl, hs, ok, hc, hr⟩ := h
  obtain ⟨M1, a1, a2, a3⟩ := lad_c (sc := sc) (d := d + 98) hs hc.1 ok.1.1 x y
  obtain ⟨f1, f2, f3, f4, f5⟩ := FT1.k a2
  have r1 := hr.ke f5
  have hs1 := a2.sk isT_1 hs
  obtain ⟨M2, b1, b2, b3⟩ := lad_r (sc := sc) (d := d + 98) hs1 r1.1 ok.1.1 x y
  obtain ⟨k1, k2, k3, k4, k5⟩ := b2.k
  have c1 : cA M1 (ladS t x y) ko xs b so sl := ⟨a3, cK_ag f1 hc.2.1, cX_ag f2 ok.2.2.1.1 hc.2.2.1, cB_ag f3 hc.2.2.2.1, fun n hn => cS_ag hn f4 (hc.2.2.2.2 n hn)⟩
  exact ⟨_, M1, M2, a1, b1, ladS t x y, ko, xs, b, so, sl, b2.sk hs1, ⟨okTr_lad ok.1 x y, ok.2⟩, c1.ka ok.2.2.1.1 k5, b3, rK_ag k1 r1.2.1, rX_ag k2 r1.2.2.1, rB_ag k3 r1.2.2.2.1, fun n hn => rS_ag k4 (r1.2.2.2.2 n hn)⟩
theorem B_feed (x : Int) : Both 65 126 0 [(0, x)] := fun sc d M h => by
  obtain ⟨t, ko, xs, b, so, sl, hs, ok, hc, hr⟩ := h
  obtain ⟨M1, a1, a2, a3, a4⟩ := feed_c (sc := sc) (d := d + 98) hs ok.2.2.2.1.1 hc.2.2.2.1 x
  obtain ⟨f1, f2, f3, f4, f5⟩ := WFa.k a3
  have r1 := hr.ke f5
  obtain ⟨M2, b1, b2, b3, b4⟩ := feed_r (sc := sc) (d := d + 98) a2 ok.2.2.2.1.1 r1.2.2.2.1 x
  obtain ⟨k1, k2, k3, k4, k5⟩ := WFe.k b3
  have c1 : cA M1 t ko xs (feedS b x) so sl := ⟨cT_ag f1 hc.1, cK_ag f2 hc.2.1, cX_ag f3 ok.2.2.1.1 hc.2.2.1, a4, fun n hn => cS_ag hn f4 (hc.2.2.2.2 n hn)⟩
  exact ⟨_, M1, M2, a1, b1, t, ko, xs, feedS b x, so, sl, b2, ⟨ok.1, ok.2.1, ok.2.2.1, okB_feed ok.2.2.2.1 x, ok.2.2.2.2⟩, c1.ka ok.2.2.1.1 k5, rT_ag k1 r1.1, rK_ag k2 r1.2.1, rX_ag k3 r1.2.2.1, b4, fun n hn => rS_ag k4 (r1.2.2.2.2 n hn)⟩
theorem B_text : Both 66 143 0 [] := fun sc d M h => by
  obtain ⟨t, ko, xs, b, so, sl, hs, ok, hc, hr⟩ := h
  obtain ⟨M1, a1, a2, a3, a4, a5⟩ := text_c (sc := sc) (d := d + 18) hs hc.2.2.1 ok.2.2.1 ok.2.2.2.1 hc.2.2.2.1
  obtain ⟨f1, f2, f3, f4⟩ := FrX.k a3
  have r1 := hr.ke f4
  obtain ⟨M2, b1, b2, b3, b4, b5⟩ := text_r (sc := sc) (d := d + 53) a2 r1.2.2.1 ok.2.2.1 ok.2.2.2.1 r1.2.2.2.1
  obtain ⟨k1, k2, k3, k4⟩ := FrXr.k b3
  have o2 := okXs_text ok.2.2.1 ok.2.2.2.1
  have tl := text_len xs b
  have c1 : cA M1 t ko (textS xs b).1 (textS xs b).2 so sl := ⟨cT_ag f1 hc.1, cK_ag f2 hc.2.1, a4, a5, fun n hn => cS_ag hn f3 (hc.2.2.2.2 n hn)⟩
  exact ⟨_, M1, M2, a1, b1, t, ko, (textS xs b).1, (textS xs b).2, so, sl, b2, ⟨okTr_mono tl ok.1, fun k hk => okTr_mono tl (ok.2.1 k hk), o2.1, o2.2, ok.2.2.2.2⟩, c1.ka o2.1.1 k4, rT_ag k1 r1.1, rK_ag k2 r1.2.1, b4, b5, fun n hn => rS_ag k3 (r1.2.2.2.2 n hn)⟩
theorem B_force (x : Int) : Both 67 144 0 [(0, x)] := fun sc d M h => by
  obtain ⟨t, ko, xs, b, so, sl, hs, ok, hc, hr⟩ := h
  obtain ⟨M1, a1, a2, a3, a4⟩ := force_c (sc := sc) (d := d + 99) hs hc.1 ok.2.2.1.1 hc.2.2.1.1 x
  obtain ⟨f1, f2, f3, f4, f5⟩ := FrT.k a4
  have r1 := hr.ke f5
  obtain ⟨M2, b1, b2, b3, b4⟩ := force_r (sc := sc) (d := d + 98) a2 r1.1 ok.2.2.1.1 r1.2.2.1.1 x
  obtain ⟨k1, k2, k3, k4, k5⟩ := F74.k b4
  have c1 : cA M1 (forceS xs.length t x) ko xs b so sl := ⟨a3, cK_ag f1 hc.2.1, cX_ag f2 ok.2.2.1.1 hc.2.2.1, cB_ag f3 hc.2.2.2.1, fun n hn => cS_ag hn f4 (hc.2.2.2.2 n hn)⟩
  exact ⟨_, M1, M2, a1, b1, forceS xs.length t x, ko, xs, b, so, sl, b2, ⟨okTr_force ok.2.2.1.1 ok.1 x, ok.2⟩, c1.ka ok.2.2.1.1 k5, b3, rK_ag k1 r1.2.1, rX_ag k2 r1.2.2.1, rB_ag k3 r1.2.2.2.1, fun n hn => rS_ag k4 (r1.2.2.2.2 n hn)⟩
theorem B_tie (x y z : Int) : Both 68 157 0 [(0, x), (0, y), (0, z)] := fun sc d M h => by
  obtain ⟨t, ko, xs, b, so, sl, hs, ok, hc, hr⟩ := h
  obtain ⟨M1, a1, a2, a3, a4⟩ := tie_c (sc := sc) (d := d + 95) hs hc.1 ok.1.1 hc.2.2.2.2 x y z
  obtain ⟨f1, f2, f3, f4, f5⟩ := FrT.k a4
  have r1 := hr.ke f5
  obtain ⟨M2, b1, b2, b3, b4⟩ := tie_r (sc := sc) (d := d + 95) a2 r1.1 ok.1.1 (rS_p ok.2.2.2.2 r1.2.2.2.2) x y z
  obtain ⟨k1, k2, k3, k4, k5⟩ := b4.k
  have c1 : cA M1 (tieS so sl t x y z) ko xs b so sl := ⟨a3, cK_ag f1 hc.2.1, cX_ag f2 ok.2.2.1.1 hc.2.2.1, cB_ag f3 hc.2.2.2.1, fun n hn => cS_ag hn f4 (hc.2.2.2.2 n hn)⟩
  exact ⟨_, M1, M2, a1, b1, tieS so sl t x y z, ko, xs, b, so, sl, b2, ⟨okTr_tie ok.1 x y z, ok.2⟩, c1.ka ok.2.2.1.1 k5, b3, rK_ag k1 r1.2.1, rX_ag k2 r1.2.2.1, rB_ag k3 r1.2.2.2.1, fun n hn => rS_ag k4 (r1.2.2.2.2 n hn)⟩
theorem B_evening : Both 75 171 0 [] := fun sc d M h => by
  obtain ⟨t, ko, xs, b, so, sl, hs, ok, hc, hr⟩ := h
  obtain ⟨M1, a1, a2, a3⟩ := evening_c (sc := sc) (d := d + 91) hs hc.1 ok.1.1 hc.2.2.1 ok.2.2.1 ok.1.2.2
  obtain ⟨f1, f2, f3, f4, f5⟩ := FT1.k a2
  have r1 := hr.ke f5
  have hs1 := a2.sk isT_1 hs
  obtain ⟨M2, b1, b2, b3⟩ := evening_r (sc := sc) (d := d + 48) hs1 r1.1 ok.1.1 ok.1.2.1 r1.2.2.1 ok.2.2.1 ok.1.2.2
  obtain ⟨k1, k2, k3, k4, k5⟩ := b2.fv.k
  have c1 : cA M1 (eveS xs t) ko xs b so sl := ⟨a3, cK_ag f1 hc.2.1, cX_ag f2 ok.2.2.1.1 hc.2.2.1, cB_ag f3 hc.2.2.2.1, fun n hn => cS_ag hn f4 (hc.2.2.2.2 n hn)⟩
  exact ⟨_, M1, M2, a1, b1, eveS xs t, ko, xs, b, so, sl, b2.fv.sk hs1, ⟨okTr_eve ok.1, ok.2⟩, c1.ka ok.2.2.1.1 k5, b3, rK_ag k1 r1.2.1, rX_ag k2 r1.2.2.1, rB_ag k3 r1.2.2.2.1, fun n hn => rS_ag k4 (r1.2.2.2.2 n hn)⟩
theorem B_image : Both 98 193 0 [] := fun sc d M h => by
  obtain ⟨t, ko, xs, b, so, sl, hs, ok, hc, hr⟩ := h
  obtain ⟨M1, a1, a2, a3, a4, a5⟩ := image_c (sc := sc) (d := d + 97) hs hc.1 ok.1.1
  obtain ⟨f1, f2, f3, f4⟩ := FK.k a3
  have r1 := hr.ke f4
  obtain ⟨M2, b1, b2, b3, b4⟩ := image_r (sc := sc) (d := d + 99) a2 r1.1 ok.1.1
  obtain ⟨k1, k2, k3, k4, k5⟩ := FI.k b3
  have c1 : cA M1 t (some t) xs b so sl := ⟨a4, a5, cX_ag f1 ok.2.2.1.1 hc.2.2.1, cB_ag f2 hc.2.2.2.1, fun n hn => cS_ag hn f3 (hc.2.2.2.2 n hn)⟩
  exact ⟨_, M1, M2, a1, b1, t, some t, xs, b, so, sl, b2, ⟨ok.1, fun k hk => by cases hk; exact ok.1, ok.2.2⟩, c1.ka ok.2.2.1.1 k5, rT_ag k1 r1.1, b4, rX_ag k2 r1.2.2.1, rB_ag k3 r1.2.2.2.1, fun n hn => rS_ag k4 (r1.2.2.2.2 n hn)⟩
theorem B_back : Both 99 194 0 [] := fun sc d M h => by
  obtain ⟨t, ko, xs, b, so, sl, hs, ok, hc, hr⟩ := h
  obtain ⟨M1, a1, a2, a3⟩ := back_c (sc := sc) (d := d + 97) hs hc.1 hc.2.1 (fun k hk => (ok.2.1 k hk).1)
  obtain ⟨f1, f2, f3, f4, f5⟩ := FT1.k a2
  have r1 := hr.ke f5
  have hs1 := a2.sk isT_1 hs
  obtain ⟨M2, b1, b2, b3, b4⟩ := back_r (sc := sc) (d := d + 99) hs1 r1.1 r1.2.1 (fun k hk => (ok.2.1 k hk).1)
  obtain ⟨k1, k2, k3, k4, k5⟩ := b3.k
  have c1 : cA M1 (backS ko t) ko xs b so sl := ⟨a3, cK_ag f1 hc.2.1, cX_ag f2 ok.2.2.1.1 hc.2.2.1, cB_ag f3 hc.2.2.2.1, fun n hn => cS_ag hn f4 (hc.2.2.2.2 n hn)⟩
  have okb : okTr xs.length (backS ko t) := by
    cases ko with
    | none => exact ok.1
    | some k => exact ok.2.1 k rfl
  exact ⟨_, M1, M2, a1, b1, backS ko t, ko, xs, b, so, sl, b2, ⟨okb, ok.2⟩, c1.ka ok.2.2.1.1 k5, b4, rK_ag k1 r1.2.1, rX_ag k2 r1.2.2.1, rB_ag k3 r1.2.2.2.1, fun n hn => rS_ag k4 (r1.2.2.2.2 n hn)⟩
theorem B_guild (x y z u : Int) (hz : iR z) : Both 104 200 0 [(0, x), (0, y), (0, z), (0, u)] := fun sc d M h => by
  obtain ⟨t, ko, xs, b, so, sl, hs, ok, hc, hr⟩ := h
  obtain ⟨M1, a1, a2, a3⟩ := guild_c (sc := sc) (d := d + 97) hs hc.1 ok.1.1 ok.2.2.2.2 hc.2.2.2.2 x y z u hz
  obtain ⟨f1, f2, f3, f4, f5⟩ := FT1.k a2
  have r1 := hr.ke f5
  have hs1 := a2.sk isT_1 hs
  obtain ⟨M2, b1, b2, b3⟩ := guild_r (sc := sc) (d := d + 97) hs1 r1.1 ok.1.1 ok.2.2.2.2 r1.2.2.2.2 x y z u
  obtain ⟨k1, k2, k3, k4, k5⟩ := b2.k
  have c1 : cA M1 (guildR so sl t x y z u).2 ko xs b so sl := ⟨a3, cK_ag f1 hc.2.1, cX_ag f2 ok.2.2.1.1 hc.2.2.1, cB_ag f3 hc.2.2.2.1, fun n hn => cS_ag hn f4 (hc.2.2.2.2 n hn)⟩
  exact ⟨_, M1, M2, a1, b1, (guildR so sl t x y z u).2, ko, xs, b, so, sl, b2.sk hs1, ⟨okTr_guild ok.1 x y z u, ok.2⟩, c1.ka ok.2.2.1.1 k5, b3, rK_ag k1 r1.2.1, rX_ag k2 r1.2.2.1, rB_ag k3 r1.2.2.2.1, fun n hn => rS_ag k4 (r1.2.2.2.2 n hn)⟩
theorem B_sheet (x y z : Int) (hz : iR z) : Both 101 197 0 [(0, x), (0, y), (0, z)] := fun sc d M h => by
  obtain ⟨t, ko, xs, b, so, sl, hs, ok, hc, hr⟩ := h
  obtain ⟨M1, a1, a2, a3, a4⟩ := sheet_c (sc := sc) (d := d + 97) hs hc.2.2.2.2 x y z
  obtain ⟨f1, f2, f3, f4, f5⟩ := FSAs.k a3.s
  have r1 := hr.ke f5
  obtain ⟨M2, b1, b2, b3, b4⟩ := sheet_r (sc := sc) (d := d + 97) a2 ok.2.2.2.2 r1.2.2.2.2 x y z hz
  obtain ⟨k1, k2, k3, k4, k5⟩ := FSRs.k b3.s
  have c1 : cA M1 t ko xs b (sheetO so x y z) (sheetL sl x y z) := ⟨cT_ag f1 hc.1, cK_ag f2 hc.2.1, cX_ag f3 ok.2.2.1.1 hc.2.2.1, cB_ag f4 hc.2.2.2.1, a4⟩
  exact ⟨_, M1, M2, a1, b1, t, ko, xs, b, sheetO so x y z, sheetL sl x y z, b2, ⟨ok.1, ok.2.1, ok.2.2.1, ok.2.2.2.1, okS_sheet ok.2.2.2.2 x y z⟩, c1.ka ok.2.2.1.1 k5, rT_ag k1 r1.1, rK_ag k2 r1.2.1, rX_ag k3 r1.2.2.1, rB_ag k4 r1.2.2.2.1, b4⟩
theorem B_cell (x y z : Int) : Both 102 198 0 [(0, x), (0, y), (0, z)] := fun sc d M h => by
  obtain ⟨t, ko, xs, b, so, sl, hs, ok, hc, hr⟩ := h
  obtain ⟨M1, a1, a2, a3, a4⟩ := cell_c (sc := sc) (d := d + 98) hs ok.2.2.2.2 hc.2.2.2.2 x y z
  obtain ⟨f1, f2, f3, f4, f5⟩ := FSAs.k a3.s
  have r1 := hr.ke f5
  obtain ⟨M2, b1, b2, b3, b4⟩ := cell_r (sc := sc) (d := d + 97) a2 ok.2.2.2.2 r1.2.2.2.2 x y z
  obtain ⟨k1, k2, k3, k4, k5⟩ := FSRs.k b3.s
  have c1 : cA M1 t ko xs b (so) (cellL so sl x y z) := ⟨cT_ag f1 hc.1, cK_ag f2 hc.2.1, cX_ag f3 ok.2.2.1.1 hc.2.2.1, cB_ag f4 hc.2.2.2.1, a4⟩
  exact ⟨_, M1, M2, a1, b1, t, ko, xs, b, so, cellL so sl x y z, b2, ⟨ok.1, ok.2.1, ok.2.2.1, ok.2.2.2.1, okS_cell ok.2.2.2.2 x y z⟩, c1.ka ok.2.2.1.1 k5, rT_ag k1 r1.1, rK_ag k2 r1.2.1, rX_ag k3 r1.2.2.1, rB_ag k4 r1.2.2.2.1, b4⟩
theorem B_copy (x y z u v : Int) (hv : iR v) : Both 103 199 0 [(0, x), (0, y), (0, z), (0, u), (0, v)] := fun sc d M h => by
  obtain ⟨t, ko, xs, b, so, sl, hs, ok, hc, hr⟩ := h
  obtain ⟨M1, a1, a2, a3, a4⟩ := copy_c (sc := sc) (d := d + 98) hs ok.2.2.2.2 hc.2.2.2.2 x y z u v hv
  obtain ⟨f1, f2, f3, f4, f5⟩ := FSAs.k a3.s
  have r1 := hr.ke f5
  obtain ⟨M2, b1, b2, b3, b4⟩ := copy_r (sc := sc) (d := d + 97) a2 ok.2.2.2.2 r1.2.2.2.2 x y z u v hv
  obtain ⟨k1, k2, k3, k4, k5⟩ := FSRs.k b3.s
  have c1 : cA M1 t ko xs b (so) (copyL so sl x y z u v) := ⟨cT_ag f1 hc.1, cK_ag f2 hc.2.1, cX_ag f3 ok.2.2.1.1 hc.2.2.1, cB_ag f4 hc.2.2.2.1, a4⟩
  exact ⟨_, M1, M2, a1, b1, t, ko, xs, b, so, copyL so sl x y z u v, b2, ⟨ok.1, ok.2.1, ok.2.2.1, ok.2.2.2.1, okS_copy ok.2.2.2.2 x y z u v⟩, c1.ka ok.2.2.1.1 k5, rT_ag k1 r1.1, rK_ag k2 r1.2.1, rX_ag k3 r1.2.2.1, rB_ag k4 r1.2.2.2.1, b4⟩
theorem B_film (x y : Int) : Both 93 189 0 [(0, x), (0, y)] := fun sc d M h => by
  obtain ⟨t, ko, xs, b, so, sl, hs, ok, hc, hr⟩ := h
  obtain ⟨M1, a1, a2, a3, a4⟩ := film_c (sc := sc) (d := d + 93) hs hc.1 ok.1.1 hc.2.2.1 ok.2.2.1 ok.1.2.2 hc.2.2.2.2 x y
  obtain ⟨f1, f2, f3, f4, f5⟩ := FSAs.k a3
  have r1 := hr.ke f5
  obtain ⟨M2, b1, b2, b3, b4⟩ := film_r (sc := sc) (d := d + 51) a2 r1.1 ok.1.1 r1.2.2.1 ok.2.2.1 ok.1.2.2 ok.2.2.2.2 r1.2.2.2.2 x y
  obtain ⟨k1, k2, k3, k4, k5⟩ := FSRs.k b3
  have c1 : cA M1 t ko xs b (filmO t so x y) (filmL xs t sl x y) := ⟨cT_ag f1 hc.1, cK_ag f2 hc.2.1, cX_ag f3 ok.2.2.1.1 hc.2.2.1, cB_ag f4 hc.2.2.2.1, a4⟩
  exact ⟨_, M1, M2, a1, b1, t, ko, xs, b, filmO t so x y, filmL xs t sl x y, b2, ⟨ok.1, ok.2.1, ok.2.2.1, ok.2.2.2.1, okS_film ok.2.2.2.2 x y⟩, c1.ka ok.2.2.1.1 k5, rT_ag k1 r1.1, rK_ag k2 r1.2.1, rX_ag k3 r1.2.2.1, rB_ag k4 r1.2.2.2.1, b4⟩
