/-! what a rule says of a lad: class side -/
def skv (x k : Int) : Int := ((SKL.find? (fun q => q.1 == x && q.2.1 == k)).map (fun q => q.2.2)).getD 0
theorem skv_ok : ∀ q ∈ SKL, skv q.1 q.2.1 = q.2.2 := by decide +kernel
def memB (b : List Int) (ns : Nat → Int) : dM := fun x k =>
  if isRf x k = true then skv x k else if x = 109 then b.length else if x = 108 then b.getD k.toNat 0 else if x = 107 then ns (k - 13).toNat else 0
theorem isRf_in : ∀ q ∈ SKL, isRf q.1 q.2.1 = true := by decide +kernel
theorem ev_one {b : List Int} (hb : okB b) (hg : pF (rd b) = -1) (ns : Nat → Int) {w : Nat} (hw : w < 3) : ev ns (seg b w) [] = [vl ns b w] := by
  have hs : Sk (memB b ns) := fun q hq => by
    show (if isRf q.1 q.2.1 = true then _ else _) = _
    rw [if_pos (isRf_in q hq)]
    exact skv_ok q hq
  have hx : rX 0 b (memB b ns) := by
    refine ⟨?_, fun i hi => ?_⟩
    · show (if isRf 109 ((0 : Nat) : Int) = true then _ else _) = _
      rw [rf_108.2, if_neg (by decide), if_pos rfl]
    · show (if isRf 108 _ = true then _ else _) = _
      rw [rf_108.1, if_neg (by decide), if_neg (by decide), if_pos rfl, show ((160 * 0 + i : Nat) : Int).toNat = i by omega, gdx_0 hi]
  have hn : ∀ i : Nat, i < 6 → memB b ns 107 (13 + (i : Int)) = ns i := fun i hi => by
    show (if isRf 107 _ = true then _ else _) = _
    rw [rf_107 _ (by omega) (by omega), if_neg (by decide), if_neg (by decide), if_neg (by decide), if_pos rfl, show (13 + (i : Int) - 13).toNat = i by omega]
  obtain ⟨M', v, _, _, a3, _⟩ := readText_r (sc := (0, fun _ => 0)) (d := 0) (t := 0) (by decide) hb hs hx hn hw
  have e := (a3 hg).2
  unfold vl
  rw [e]
  rfl
def nsT (t : Tn) (l : Nat) (turns walk : Int) (i : Nat) : Int := match i with
  | 0 => turns
  | 1 => tSkl t l
  | 2 => walk
  | 3 => tWet t
  | 4 => tNum t l
  | 5 => tDay t
  | _ => 0
def sayF (xs : List (List Int)) (t : Tn) (w l : Nat) (turns walk : Int) : Int := bnd (vl (nsT t l turns walk) (xs.getD (tRule t).toNat []) w) (if w = 0 then 0 else -99) 99
def FS (M M' : dM) : Prop := ∀ x k : Int, x ≠ 60 → x ≠ 61 → x ≠ 63 → ¬ (x = 62 ∧ k = 1) → M' x k = M x k
theorem FS.rf (M : dM) : FS M M := fun _ _ _ _ _ _ => rfl
theorem FS.tr {M M1 M2 : dM} (h1 : FS M M1) (h2 : FS M1 M2) : FS M M2 := fun x k g1 g2 g3 g4 => (h2 x k g1 g2 g3 g4).trans (h1 x k g1 g2 g3 g4)
theorem S61.fs {M M' : dM} (h : S61 M M') : FS M M' := fun x k _ g _ _ => h x k g
theorem WF.fs {M M' : dM} (h : WF 62 1 63 M M') : FS M M' := fun x k _ _ g1 g2 => h x k g2 g1
theorem FS.up (M : dM) (k v : Int) : FS M (d_up M 60 k v) := fun x j g _ _ _ => d_up_n1 _ g
theorem FS.fr {M M' : dM} (h : FS M M') : Fr M M' := fun x k g => h x k
  (fun z => by rw [z, scr_o (by decide +kernel)] at g; cases g) (fun z => by rw [z, scr_o (by decide +kernel)] at g; cases g) (fun z => by rw [z, scr_o (by decide +kernel)] at g; cases g)
  (fun z => by rw [z.1, z.2, show scr 62 1 = true by decide +kernel] at g; cases g)
theorem FS.sk {M M' : dM} (h : FS M M') (hs : Sk M) : Sk M' := h.fr.sk hs
theorem isT_c {T : Int} (h : isT T) : T = 1 ∨ T = 20 ∨ T = 39 := by
  have : T ∈ TNL := h
  unfold TNL at this
  simp at this
  exact this
theorem cT.fs {M M' : dM} {T : Int} {t : Tn} (hT : isT T) (h : cT M T t) (hf : FS M M') : cT M' T t := by
  have b := isT_c hT
  have e : ∀ x : Int, (x < 58) → ∀ k, M' x k = M x k := fun x hx k => hf x k (by omega) (by omega) (by omega) (by omega)
  refine ⟨⟨(e T (by omega) _).trans h.1.1, (e T (by omega) _).trans h.1.2.1, (e T (by omega) _).trans h.1.2.2.1, (e T (by omega) _).trans h.1.2.2.2⟩, fun l hl => ?_, fun f hq => ?_⟩
  · have g := h.2.1 l hl
    exact ⟨(e _ (by omega) _).trans g.1, (e _ (by omega) _).trans g.2.1, (e _ (by omega) _).trans g.2.2⟩
  · have g := h.2.2 f hq
    exact ⟨(e _ (by omega) _).trans g.1, (e _ (by omega) _).trans g.2.1, g.2.2.up (e _ (by omega) _) fun j _ _ => e _ (by omega) _⟩
theorem cXs.fs {M M' : dM} {xs : List (List Int)} (h : cXs M xs) (hl : xs.length ≤ 6) (hf : FS M M') : cXs M' xs := by
  refine ⟨(hf 58 1 (by decide) (by decide) (by decide) (by decide)).trans h.1, fun t ht => (h.2 t ht).fr (fun k => ?_) (fun k => ?_) (fun k => ?_) (fun k => ?_)⟩ <;> exact hf _ _ (by omega) (by omega) (by omega) (by omega)
theorem say_ok {sc : dS} {d : Nat} {M : dM} (hs : Sk M) {T : Int} (hT : isT T) {t : Tn} (ht : cT M T t) (hok : okT t) {xs : List (List Int)} (hx : cXs M xs) (hxs : okXs xs) (hr : (tRule t).toNat < xs.length) {w : Nat} (hw : w < 3) {l : Nat} (hl : l < tMany t) (turns walk : Int) : ∃ M' : dM, vc sc (d + 5) 34 [(2, 58), (2, T), (0, (w : Int)), (0, (l : Int)), (0, turns), (0, walk)] (K0, M) = some ([(0, sayF xs t w l turns walk)], (K0, M')) ∧ FS M M' := by
  have hb := hxs.2 _ (List.getElem_mem hr)
  have hxr := hx.2 _ hr
  have hC : (pC (rd xs[(tRule t).toNat])).length ≤ 160 := by
    have e := hxr.1.1
    by_cases z : (pC (rd xs[(tRule t).toNat])).length ≤ 160
    · exact z
    · exfalso
      obtain ⟨M', _, _, _, a4, _⟩ := readInto_ok (sc := (0, fun _ => 0)) (d := 0) (o := 64) (M := fun x k => if x = 88 ∧ k = 1 then (xs[(tRule t).toNat].length : Int) else if x = 89 then xs[(tRule t).toNat].getD k.toNat 0 else M x k) (by unfold isX; decide) hb.1.1 (Sk_of hs fun x k hq => by
        rw [if_neg, if_neg]
        · rintro rfl
          rw [isRf_cell (a := 89) (by decide +kernel)] at hq
          cases hq
        · rintro ⟨rfl, rfl⟩
          rw [show isRf 88 1 = false by decide +kernel] at hq
          cases hq) (b := xs[(tRule t).toNat]) ⟨if_pos ⟨rfl, rfl⟩, lst_of fun i hi => by
        dsimp only
        rw [if_neg (fun z => absurd z.1 (by decide)), if_pos rfl, Int.toNat_natCast, gdx_0 hi]⟩
      exact z a4
  have o1 := hok.1
  have hT3 := isT_c hT
  have hrr : ((tRule t).toNat : Int) = tRule t := by omega
  have hl5 : l < 5 := by omega
  rw [vc_s (md := m_X2_say) (L := [(2, 58), (2, T), (0, (w : Int)), (0, (l : Int)), (0, turns), (0, walk)]) rfl (Nat.le_of_ble_eq_true rfl) rfl]
  show ∃ M', vr sc (d + 4) c_X2_say (0, [(2, 58), (2, T), (0, (w : Int)), (0, (l : Int)), (0, turns), (0, walk)], [], (K0, M)) = _ ∧ _
  rw [e_X2_say_0, if_pos (rg_tn hT), hasLad_ok hT, Option.bind_some, ht.1.2.2.2, bi_t (by omega)]
  show ∃ M', vr sc (d + 4) c_X2_say (5, [(2, 58), (2, T), (0, (w : Int)), (0, (l : Int)), (0, turns), (0, walk)], [(0, 1)], (K0, M)) = _ ∧ _
  rw [e_X2_say_5, if_neg (by decide), if_pos (og_tn hT (by decide)), ht.1.2.2.1, isWithin_ok, Option.bind_some, bi_t (by omega)]
  show ∃ M', vr sc (d + 4) c_X2_say (16, [(2, 58), (2, T), (0, (w : Int)), (0, (l : Int)), (0, turns), (0, walk)], [(0, 1)], (K0, M)) = _ ∧ _
  have g2 : og K0 2 58 2 = true := rfl
  have step : ∀ (N : dM) (k v : Int), Sk N → cT N T t → FS M N → Sk (d_up N 60 k v) ∧ cT (d_up N 60 k v) T t ∧ FS M (d_up N 60 k v) := fun N k v h1 h2 h3 => ⟨(FS.up N k v).sk h1, h2.fs hT (FS.up N k v), h3.tr (FS.up N k v)⟩
  rw [e_X2_say_16, if_pos (by decide), if_pos g2, (Sk_58b hs).1, if_pos (ag_60 (by decide) (by decide)), if_pos g2]
  have k1 := step M 0 turns hs ht (FS.rf M)
  have n1 : (d_up M 60 0 turns) 60 0 = turns := d_up_at _ _ _ _
  generalize d_up M 60 0 turns = M1 at *
  rw [if_pos (og_tn hT (by decide)), (Sk_T k1.1 hT).2.2.1, if_pos (ag_t3 hT (by omega) (by omega)), (Sk_58b k1.1).1, if_pos (ag_60 (by decide) (by decide)), if_pos g2, (k1.2.1.2.1 l hl5).2.2]
  have k2 := step M1 1 (tSkl t l) k1.1 k1.2.1 k1.2.2
  have n20 : (d_up M1 60 1 (tSkl t l)) 60 0 = turns := by rw [d_up_n2 _ (by decide)]; exact n1
  have n21 : (d_up M1 60 1 (tSkl t l)) 60 1 = tSkl t l := d_up_at _ _ _ _
  generalize d_up M1 60 1 (tSkl t l) = M2 at *
  rw [(Sk_58b k2.1).1, if_pos (ag_60 (by decide) (by decide)), if_pos g2]
  have k3 := step M2 2 walk k2.1 k2.2.1 k2.2.2
  have n30 : (d_up M2 60 2 walk) 60 0 = turns := by rw [d_up_n2 _ (by decide)]; exact n20
  have n31 : (d_up M2 60 2 walk) 60 1 = tSkl t l := by rw [d_up_n2 _ (by decide)]; exact n21
  have n32 : (d_up M2 60 2 walk) 60 2 = walk := d_up_at _ _ _ _
  generalize d_up M2 60 2 walk = M3 at *
  rw [if_pos (og_tn hT (by decide)), (Sk_58b k3.1).1, if_pos (ag_60 (by decide) (by decide)), if_pos g2, k3.2.1.1.2.1]
  have k4 := step M3 3 (tWet t) k3.1 k3.2.1 k3.2.2
  have n40 : (d_up M3 60 3 (tWet t)) 60 0 = turns := by rw [d_up_n2 _ (by decide)]; exact n30
  have n41 : (d_up M3 60 3 (tWet t)) 60 1 = tSkl t l := by rw [d_up_n2 _ (by decide)]; exact n31
  have n42 : (d_up M3 60 3 (tWet t)) 60 2 = walk := by rw [d_up_n2 _ (by decide)]; exact n32
  have n43 : (d_up M3 60 3 (tWet t)) 60 3 = tWet t := d_up_at _ _ _ _
  generalize d_up M3 60 3 (tWet t) = M4 at *
  rw [if_pos (og_tn hT (by decide)), (Sk_T k4.1 hT).2.1, if_pos (ag_t2 hT (by omega) (by omega)), (Sk_58b k4.1).1, if_pos (ag_60 (by decide) (by decide)), if_pos g2, (k4.2.1.2.1 l hl5).2.1]
  have k5 := step M4 4 (tNum t l) k4.1 k4.2.1 k4.2.2
  have n50 : (d_up M4 60 4 (tNum t l)) 60 0 = turns := by rw [d_up_n2 _ (by decide)]; exact n40
  have n51 : (d_up M4 60 4 (tNum t l)) 60 1 = tSkl t l := by rw [d_up_n2 _ (by decide)]; exact n41
  have n52 : (d_up M4 60 4 (tNum t l)) 60 2 = walk := by rw [d_up_n2 _ (by decide)]; exact n42
  have n53 : (d_up M4 60 4 (tNum t l)) 60 3 = tWet t := by rw [d_up_n2 _ (by decide)]; exact n43
  have n54 : (d_up M4 60 4 (tNum t l)) 60 4 = tNum t l := d_up_at _ _ _ _
  generalize d_up M4 60 4 (tNum t l) = M5 at *
  rw [if_pos (og_tn hT (by decide)), (Sk_58b k5.1).1, if_pos (ag_60 (by decide) (by decide)), k5.2.1.1.1]
  have k6 := step M5 5 (tDay t) k5.1 k5.2.1 k5.2.2
  have hn : ∀ i : Nat, i < 6 → (d_up M5 60 5 (tDay t)) 60 i = nsT t l turns walk i := fun i hi => by
    rcases (show i = 0 ∨ i = 1 ∨ i = 2 ∨ i = 3 ∨ i = 4 ∨ i = 5 by omega) with rfl | rfl | rfl | rfl | rfl | rfl
    · exact (d_up_n2 _ (by decide)).trans n50
    · exact (d_up_n2 _ (by decide)).trans n51
    · exact (d_up_n2 _ (by decide)).trans n52
    · exact (d_up_n2 _ (by decide)).trans n53
    · exact (d_up_n2 _ (by decide)).trans n54
    · exact d_up_at _ _ _ _
  generalize d_up M5 60 5 (tDay t) = M6 at *
  rw [if_pos (show og K0 2 58 0 = true from rfl), if_pos (og_tn hT (by decide)), (Sk_04r k6.1).2, k6.2.1.1.2.2.1, if_pos (ag_of (n := 6) rfl (by omega) (by omega)), if_pos (show rg K0 2 58 = true from rfl)]
  have hx6 := hx.fs hxs.1 k6.2.2
  have e59 := Sk_59 k6.1 (t := (tRule t).toNat) (by omega)
  rw [hrr] at e59
  have hv := ev_one hb.1 hb.2 (nsT t l turns walk) hw
  obtain ⟨M7, a1, a2⟩ := compute_ok (sc := sc) (d := d + 1) k6.1 (t := (tRule t).toNat) (by omega) (hx6.2 _ hr) hC hn hw hv
  rw [hrr] at a1
  rw [e59, a1, Option.bind_some]
  show ∃ M', vr sc (d + 4) c_X2_say (95, [(2, 58), (2, T), (0, (w : Int)), (0, (l : Int)), (0, turns), (0, walk)], [(0, vl (nsT t l turns walk) xs[(tRule t).toNat] w)], (K0, M7)) = _ ∧ _
  have exs : xs.getD (tRule t).toNat [] = xs[(tRule t).toNat] := by rw [List.getD_eq_getElem?_getD, List.getElem?_eq_getElem hr]; rfl
  have e110 : ∀ v : Int, vr sc (d + 4) c_X2_say (110, [(2, 58), (2, T), (0, (w : Int)), (0, (l : Int)), (0, turns), (0, walk)], [(0, v)], (K0, M7)) = some ([(0, v)], (K0, M7)) := fun v => by rw [e_X2_say_110]
  rw [e_X2_say_95]
  unfold sayF
  rw [exs]
  by_cases w0 : w = 0
  · rw [if_neg (by omega), bounded_ok, Option.bind_some, if_pos w0]
    exact ⟨M7, e110 _, k6.2.2.tr a2.fs⟩
  · rw [if_pos (by omega), bounded_ok, Option.bind_some, if_neg w0]
    exact ⟨M7, e110 _, k6.2.2.tr a2.fs⟩
