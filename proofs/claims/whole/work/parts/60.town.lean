/-! towns as values; both sides' memory of one -/
abbrev Tn : Type := (Int × Int × Int × Nat) × (Nat → Int) × (Nat → Int) × (Nat → Int) × (Nat → Int) × (Nat → Int) × (Nat → List Int)
def tDay (t : Tn) : Int := t.1.1
def tWet (t : Tn) : Int := t.1.2.1
def tRule (t : Tn) : Int := t.1.2.2.1
def tMany (t : Tn) : Nat := t.1.2.2.2
def tKind (t : Tn) : Nat → Int := t.2.1
def tNum (t : Tn) : Nat → Int := t.2.2.1
def tSkl (t : Tn) : Nat → Int := t.2.2.2.1
def tWlk (t : Tn) : Nat → Int := t.2.2.2.2.1
def tBy (t : Tn) : Nat → Int := t.2.2.2.2.2.1
def tKn (t : Tn) : Nat → List Int := t.2.2.2.2.2.2
def cT (M : dM) (T : Int) (t : Tn) : Prop := (M T 0 = tDay t ∧ M T 1 = tWet t ∧ M T 2 = tRule t ∧ M T 3 = (tMany t : Int)) ∧
  (∀ l : Nat, l < 5 → M (T + 1) l = tKind t l ∧ M (T + 2) l = tNum t l ∧ M (T + 3) l = tSkl t l) ∧
  ∀ f : Nat, f < 6 → M (T + 4) f = tWlk t f ∧ M (T + 5) f = tBy t f ∧ KV (T + 7 + 2 * (f : Int)) 1 (T + 7 + 2 * (f : Int) + 1) M (tKn t f)
def rT (M : dM) (t : Tn) : Prop := (M 107 7 = tDay t ∧ M 107 8 = tWet t ∧ M 107 4 = tRule t ∧ M 107 12 = (tMany t : Int)) ∧
  (∀ l : Nat, l < 5 → M 111 ((3 * l : Nat) : Int) = tNum t l ∧ M 111 ((3 * l + 1 : Nat) : Int) = tSkl t l ∧ M 111 ((3 * l + 2 : Nat) : Int) = tKind t l) ∧
  ∀ f : Nat, f < 6 → M 112 ((3 * f : Nat) : Int) = tWlk t f ∧ M 112 ((3 * f + 1 : Nat) : Int) = tBy t f ∧ M 112 ((3 * f + 2 : Nat) : Int) = (tKn t f).length ∧ ∀ (k : Nat) (h : k < (tKn t f).length), M 113 ((12 * f + k : Nat) : Int) = (tKn t f)[k]
def okT (t : Tn) : Prop := (0 ≤ tDay t ∧ tDay t ≤ 99999 ∧ (tWet t = 0 ∨ tWet t = 1) ∧ 0 ≤ tRule t ∧ tRule t < 6 ∧ tMany t ≤ 5) ∧
  (∀ l : Nat, l < 5 → 0 ≤ tKind t l ∧ tKind t l < 6 ∧ 0 ≤ tNum t l ∧ tNum t l ≤ 9 ∧ 0 ≤ tSkl t l ∧ tSkl t l ≤ 99) ∧
  ∀ f : Nat, f < 6 → 0 ≤ tWlk t f ∧ tWlk t f ≤ 99 ∧ -1 ≤ tBy t f ∧ tBy t f < (tMany t : Int) ∧ (tKn t f).length ≤ 12 ∧ ∀ y ∈ tKn t f, y ∈ CL4
theorem scr_T {T : Int} (h : T = 1 ∨ T = 39) : (∀ k, scr T k = false) ∧ (∀ k, scr (T + 1) k = false) ∧ (∀ k, scr (T + 2) k = false) ∧ (∀ k, scr (T + 3) k = false) ∧ (∀ k, scr (T + 4) k = false) ∧ (∀ k, scr (T + 5) k = false) ∧ (∀ k, scr (T + 6) k = false) ∧ ∀ f : Nat, f < 6 → (∀ k, scr (T + 7 + 2 * (f : Int)) k = false) ∧ ∀ k, scr (T + 7 + 2 * (f : Int) + 1) k = false := by
  have key : ∀ T ∈ ([1, 39] : List Int), (∀ j ∈ List.range 7, SCO.elem (T + ((j : Nat) : Int)) = false ∧ SCS.all (fun q => !(q.1 == T + ((j : Nat) : Int))) = true) ∧ ∀ f ∈ List.range 6, SCO.elem (T + 7 + 2 * ((f : Nat) : Int)) = false ∧ SCS.all (fun q => !(q.1 == T + 7 + 2 * ((f : Nat) : Int))) = true ∧ SCO.elem (T + 7 + 2 * ((f : Nat) : Int) + 1) = false ∧ SCS.all (fun q => !(q.1 == T + 7 + 2 * ((f : Nat) : Int) + 1)) = true := by decide +kernel
  have k := key T (by rcases h with rfl | rfl <;> simp)
  have k0 := k.1 0 (by decide)
  rw [show T + ((0 : Nat) : Int) = T by omega] at k0
  have g : ∀ j : Nat, j < 7 → ∀ k, scr (T + (j : Int)) k = false := fun j hj => scr_no (k.1 j (List.mem_range.mpr hj)).1 (k.1 j (List.mem_range.mpr hj)).2
  exact ⟨scr_no k0.1 k0.2, g 1 (by decide), g 2 (by decide), g 3 (by decide), g 4 (by decide), g 5 (by decide), g 6 (by decide), fun f hf => ⟨scr_no (k.2 f (List.mem_range.mpr hf)).1 (k.2 f (List.mem_range.mpr hf)).2.1, scr_no (k.2 f (List.mem_range.mpr hf)).2.2.1 (k.2 f (List.mem_range.mpr hf)).2.2.2⟩⟩
theorem cT.fr {M M' : dM} {T : Int} {t : Tn} (hT : T = 1 ∨ T = 39) (h : cT M T t) (hf : Fr M M') : cT M' T t := by
  have k := scr_T hT
  refine ⟨⟨(hf _ _ (k.1 _)).trans h.1.1, (hf _ _ (k.1 _)).trans h.1.2.1, (hf _ _ (k.1 _)).trans h.1.2.2.1, (hf _ _ (k.1 _)).trans h.1.2.2.2⟩, fun l hl => ?_, fun f hq => ?_⟩
  · have g := h.2.1 l hl
    exact ⟨(hf _ _ (k.2.1 _)).trans g.1, (hf _ _ (k.2.2.1 _)).trans g.2.1, (hf _ _ (k.2.2.2.1 _)).trans g.2.2⟩
  · have g := h.2.2 f hq
    have kk := k.2.2.2.2.2.2.2 f hq
    exact ⟨(hf _ _ (k.2.2.2.2.1 _)).trans g.1, (hf _ _ (k.2.2.2.2.2.1 _)).trans g.2.1, g.2.2.up (hf _ _ (kk.1 _)) fun j _ _ => hf _ _ (kk.2 _)⟩
theorem scr_rt : (∀ k, scr 111 k = false) ∧ (∀ k, scr 112 k = false) ∧ ∀ k, scr 113 k = false :=
  ⟨scr_no (by decide +kernel) (by decide +kernel), scr_no (by decide +kernel) (by decide +kernel), scr_no (by decide +kernel) (by decide +kernel)⟩
theorem rT.fr {M M' : dM} {t : Tn} (h : rT M t) (hf : Fr M M') : rT M' t := by
  have k := scr_rt
  refine ⟨⟨(hf _ _ (by decide +kernel)).trans h.1.1, (hf _ _ (by decide +kernel)).trans h.1.2.1, (hf _ _ (by decide +kernel)).trans h.1.2.2.1, (hf _ _ (by decide +kernel)).trans h.1.2.2.2⟩, fun l hl => ?_, fun f hq => ?_⟩
  · have g := h.2.1 l hl
    exact ⟨(hf _ _ (k.1 _)).trans g.1, (hf _ _ (k.1 _)).trans g.2.1, (hf _ _ (k.1 _)).trans g.2.2⟩
  · have g := h.2.2 f hq
    exact ⟨(hf _ _ (k.2.1 _)).trans g.1, (hf _ _ (k.2.1 _)).trans g.2.1, (hf _ _ (k.2.1 _)).trans g.2.2.1, fun i hi => (hf _ _ (k.2.2 _)).trans (g.2.2.2 i hi)⟩
theorem Sk_m10 {M : dM} (h : Sk M) : M 107 10 = 112 ∧ M 107 11 = 113 := by
  have key : ((107, 10, 112) : Int × Int × Int) ∈ SKL ∧ (107, 11, 113) ∈ SKL := by decide +kernel
  exact ⟨h _ key.1, h _ key.2⟩
theorem ag_112 {i : Int} (h0 : 0 ≤ i) (h1 : i < 18) : ag K0 8 112 i = true := ag_of (n := 18) rfl h0 h1
theorem ag_113 {i : Int} (h0 : 0 ≤ i) (h1 : i < 72) : ag K0 8 113 i = true := ag_of (n := 72) rfl h0 h1
theorem w_t12 (s k : Nat) (h : s < 1000) (hc : k < 1000) : w32 (w32 (12 * (s : Int)) + (k : Int)) = ((12 * s + k : Nat) : Int) := by
  have e : w32 (12 * (s : Int)) = ((12 * s : Nat) : Int) := w32_e (by omega) (by omega) (by omega)
  rw [e]
  clear e
  exact w32_e (by omega) (by omega) (by omega)
theorem takesFoot_loop {sc : dS} {d : Nat} {f : Nat} (h : f < 6) {l : List Int} (hl : l.length ≤ 12) : ∀ (m i : Nat) (M : dM), l.length - i = m → i ≤ l.length → Sk M → M 107 29 = l.length → (∀ (i : Nat) (h : i < l.length), M 113 ((12 * f + i : Nat) : Int) = l[i]) → (∀ (j : Nat) (h : j < l.length), j < i → M 114 j = l[j]) →
    ∃ M' : dM, vr sc d c_X7_takesFoot (16, [(2, 107), (0, (f : Int)), (0, (i : Int))], [], (K0, M)) = some ([], (K0, M')) ∧ WF 107 29 114 M M' ∧ KV 107 29 114 M' l := by
  intro m
  induction m with
  | zero =>
    intro i M hm hi hs hM h4 h1
    have c1 : (l.length : Int) ≤ i := by omega
    rw [e_X7_takesFoot_16, if_pos (show og K0 7 107 29 = true from rfl), hM, if_pos c1]
    exact ⟨M, rfl, WF.rf _ _ _ _, hM, lst_of fun j hj => h1 j hj (by omega)⟩
  | succ m ih =>
    intro i M hm hi hs hM h4 h1
    have c1 : ¬ (l.length : Int) ≤ i := by omega
    have hi' : i < l.length := by omega
    have k := Sk_m10 hs
    rw [e_X7_takesFoot_16, if_pos (show og K0 7 107 29 = true from rfl), hM, if_neg c1, if_pos (show og K0 7 107 28 = true from rfl), if_pos (show og K0 7 107 11 = true from rfl), k.2, Sk_m28 hs, w_t12 f i (by omega) (by omega), if_pos (ag_113 (by omega) (by omega)), if_pos (ag_wd (by omega) (by omega)), h4 i hi', w_s i (by omega)]
    obtain ⟨M', g1, g2, g3⟩ := ih (i + 1) (d_up M 114 i l[i]) (by omega) (by omega) ((WF.row 107 29 114 _ _ _).sk Wok_wd hs) (by rw [d_up_n1 _ (by decide)]; exact hM) (fun j hj => by rw [d_up_n1 _ (by decide)]; exact h4 j hj) (fun j hj hji => by
      by_cases q : j = i
      · subst q; rw [d_up_at]
      · rw [d_up_n2 _ (by omega)]; exact h1 j hj (by omega))
    exact ⟨M', g1, (WF.row _ _ _ _ _ _).tr g2, g3⟩
theorem takesFoot_ok {sc : dS} {d : Nat} {M : dM} (hs : Sk M) {t : Tn} (ht : rT M t) (hok : okT t) {f : Nat} (h : f < 6) : ∃ M' : dM, vc sc (d + 1) 147 [(2, 107), (0, (f : Int))] (K0, M) = some ([], (K0, M')) ∧ WF 107 29 114 M M' ∧ KV 107 29 114 M' (tKn t f) := by
  rw [vc_s (md := m_X7_takesFoot) (L := [(2, 107), (0, (f : Int)), (3, 0)]) rfl (Nat.le_of_ble_eq_true rfl) rfl]
  show ∃ M', vr sc d c_X7_takesFoot (0, [(2, 107), (0, (f : Int)), (3, 0)], [], (K0, M)) = _ ∧ _
  have k := Sk_m10 hs
  have g := ht.2.2 f h
  have hl := (hok.2.2 f h).2.2.2.2.1
  have w := w_t3 f 2 (by omega) (by omega)
  rw [e_X7_takesFoot_0, if_pos (show og K0 7 107 10 = true from rfl), k.1, show w32 (w32 (3 * (f : Int)) + 2) = ((3 * f + 2 : Nat) : Int) from w]
  clear w
  rw [if_pos (ag_112 (by omega) (by omega)), if_pos (show og K0 7 107 29 = true from rfl), g.2.2.1, if_pos ⟨by omega, by omega⟩]
  have hw : WF 107 29 114 M (d_up M 107 29 ((tKn t f).length : Int)) := WF.sz _ _ _ _ _
  obtain ⟨M', g1, g2, g3⟩ := takesFoot_loop (sc := sc) (d := d) h hl (tKn t f).length 0 (d_up M 107 29 ((tKn t f).length : Int)) rfl (by omega) (hw.sk Wok_wd hs) (d_up_at _ _ _ _) (fun i hi => by rw [d_up_n1 _ (by decide)]; exact g.2.2.2 i hi) (fun j hj hji => absurd hji (by omega))
  exact ⟨M', g1, hw.tr g2, g3⟩
