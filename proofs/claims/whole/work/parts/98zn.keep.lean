/-! what a call keeps of either side; the relation of the two sides -/
def aT (M M' : dM) : Prop := ∀ x k : Int, 1 ≤ x → x ≤ 19 → M' x k = M x k
def aK (M M' : dM) : Prop := M' 0 3 = M 0 3 ∧ ∀ x k : Int, 39 ≤ x → x ≤ 57 → M' x k = M x k
def aX (M M' : dM) : Prop := M' 58 1 = M 58 1 ∧ ∀ x k : Int, 64 ≤ x → x ≤ 87 → M' x k = M x k
def aB (M M' : dM) : Prop := M' 88 1 = M 88 1 ∧ ∀ k : Int, M' 89 k = M 89 k
def aS (M M' : dM) : Prop := ∀ x k : Int, 99 ≤ x → x ≤ 106 → M' x k = M x k
def eT (M M' : dM) : Prop := (M' 107 7 = M 107 7 ∧ M' 107 8 = M 107 8 ∧ M' 107 4 = M 107 4 ∧ M' 107 12 = M 107 12) ∧ ∀ x k : Int, 111 ≤ x → x ≤ 113 → M' x k = M x k
def eK (M M' : dM) : Prop := (M' 107 38 = M 107 38 ∧ M' 107 39 = M 107 39 ∧ M' 107 40 = M 107 40 ∧ M' 107 41 = M 107 41) ∧ ∀ x k : Int, 118 ≤ x → x ≤ 120 → M' x k = M x k
def eX (M M' : dM) : Prop := M' 107 3 = M 107 3 ∧ ∀ x k : Int, 108 ≤ x → x ≤ 109 → M' x k = M x k
def eB (M M' : dM) : Prop := M' 107 6 = M 107 6 ∧ ∀ k : Int, M' 110 k = M 110 k
def eS (M M' : dM) : Prop := ∀ x k : Int, 121 ≤ x → x ≤ 124 → M' x k = M x k
def KPa (M M' : dM) : Prop := aT M M' ∧ aK M M' ∧ aX M M' ∧ aB M M' ∧ aS M M'
def KPe (M M' : dM) : Prop := eT M M' ∧ eK M M' ∧ eX M M' ∧ eB M M' ∧ eS M M'
theorem scr_cl : (∀ n ∈ List.range 125, ((1 ≤ n ∧ n ≤ 19) ∨ (39 ≤ n ∧ n ≤ 57) ∨ (64 ≤ n ∧ n ≤ 87) ∨ n = 89 ∨ (99 ≤ n ∧ n ≤ 106) ∨ (108 ≤ n ∧ n ≤ 113) ∨ (118 ≤ n ∧ n ≤ 124)) → SCO.elem ((n : Nat) : Int) = false ∧ SCS.all (fun q => !(q.1 == ((n : Nat) : Int))) = true) := by decide +kernel
theorem scr_in {x : Int} (h : (1 ≤ x ∧ x ≤ 19) ∨ (39 ≤ x ∧ x ≤ 57) ∨ (64 ≤ x ∧ x ≤ 87) ∨ x = 89 ∨ (99 ≤ x ∧ x ≤ 106) ∨ (108 ≤ x ∧ x ≤ 113) ∨ (118 ≤ x ∧ x ≤ 124)) (k : Int) : scr x k = false := by
  obtain ⟨n, rfl⟩ : ∃ n : Nat, x = n := ⟨x.toNat, by omega⟩
  have g := scr_cl n (List.mem_range.mpr (by omega)) (by omega)
  exact scr_no g.1 g.2 k
theorem scr_sg : scr 0 3 = false ∧ scr 58 1 = false ∧ scr 88 1 = false ∧ scr 107 3 = false ∧ scr 107 4 = false ∧ scr 107 6 = false ∧ scr 107 7 = false ∧ scr 107 8 = false ∧ scr 107 12 = false ∧ scr 107 38 = false ∧ scr 107 39 = false ∧ scr 107 40 = false ∧ scr 107 41 = false := by decide +kernel
theorem KPa.of {M M' : dM} (h : ∀ x k : Int, scr x k = false → x < 107 → M' x k = M x k) : KPa M M' :=
  ⟨fun x k h0 h1 => h x k (scr_in (by omega) k) (by omega), ⟨h _ _ scr_sg.1 (by decide), fun x k h0 h1 => h x k (scr_in (by omega) k) (by omega)⟩, ⟨h _ _ scr_sg.2.1 (by decide), fun x k h0 h1 => h x k (scr_in (by omega) k) (by omega)⟩, ⟨h _ _ scr_sg.2.2.1 (by decide), fun k => h 89 k (scr_in (by omega) k) (by decide)⟩, fun x k h0 h1 => h x k (scr_in (by omega) k) (by omega)⟩
theorem KPe.of {M M' : dM} (h : ∀ x k : Int, scr x k = false → 107 ≤ x → M' x k = M x k) : KPe M M' := by
  obtain ⟨-, -, -, s3, s4, s6, s7, s8, s12, s38, s39, s40, s41⟩ := scr_sg
  exact ⟨⟨⟨h _ _ s7 (by decide), h _ _ s8 (by decide), h _ _ s4 (by decide), h _ _ s12 (by decide)⟩, fun x k h0 h1 => h x k (scr_in (by omega) k) (by omega)⟩, ⟨⟨h _ _ s38 (by decide), h _ _ s39 (by decide), h _ _ s40 (by decide), h _ _ s41 (by decide)⟩, fun x k h0 h1 => h x k (scr_in (by omega) k) (by omega)⟩, ⟨h _ _ s3 (by decide), fun x k h0 h1 => h x k (scr_in (by omega) k) (by omega)⟩, ⟨h _ _ s6 (by decide), fun k => h 110 k (scr_in (by omega) k) (by decide)⟩, fun x k h0 h1 => h x k (scr_in (by omega) k) (by omega)⟩
theorem Fr.ka {M M' : dM} (h : Fr M M') : KPa M M' := KPa.of fun x k g _ => h x k g
theorem Fr.ke {M M' : dM} (h : Fr M M') : KPe M M' := KPe.of fun x k g _ => h x k g
theorem cT_ag {M M' : dM} {t : Tn} (h : aT M M') (ht : cT M 1 t) : cT M' 1 t :=
  ⟨⟨(h _ _ (by omega) (by omega)).trans ht.1.1, (h _ _ (by omega) (by omega)).trans ht.1.2.1, (h _ _ (by omega) (by omega)).trans ht.1.2.2.1, (h _ _ (by omega) (by omega)).trans ht.1.2.2.2⟩, fun l hl => ⟨(h _ _ (by omega) (by omega)).trans (ht.2.1 l hl).1, (h _ _ (by omega) (by omega)).trans (ht.2.1 l hl).2.1, (h _ _ (by omega) (by omega)).trans (ht.2.1 l hl).2.2⟩, fun f hf => ⟨(h _ _ (by omega) (by omega)).trans (ht.2.2 f hf).1, (h _ _ (by omega) (by omega)).trans (ht.2.2 f hf).2.1, (ht.2.2 f hf).2.2.up (h _ _ (by omega) (by omega)) fun j _ _ => h _ _ (by omega) (by omega)⟩⟩
theorem cK_ag {M M' : dM} {ko : Option Tn} (h : aK M M') (hk : cKp M ko) : cKp M' ko := by
  obtain ⟨h0, h⟩ := h
  cases ko with
  | none => exact h0.trans hk
  | some t =>
    obtain ⟨hk0, ht⟩ := hk
    exact ⟨h0.trans hk0, ⟨(h _ _ (by omega) (by omega)).trans ht.1.1, (h _ _ (by omega) (by omega)).trans ht.1.2.1, (h _ _ (by omega) (by omega)).trans ht.1.2.2.1, (h _ _ (by omega) (by omega)).trans ht.1.2.2.2⟩, fun l hl => ⟨(h _ _ (by omega) (by omega)).trans (ht.2.1 l hl).1, (h _ _ (by omega) (by omega)).trans (ht.2.1 l hl).2.1, (h _ _ (by omega) (by omega)).trans (ht.2.1 l hl).2.2⟩, fun f hf => ⟨(h _ _ (by omega) (by omega)).trans (ht.2.2 f hf).1, (h _ _ (by omega) (by omega)).trans (ht.2.2 f hf).2.1, (ht.2.2 f hf).2.2.up (h _ _ (by omega) (by omega)) fun j _ _ => h _ _ (by omega) (by omega)⟩⟩
theorem cX_ag {M M' : dM} {xs : List (List Int)} (h : aX M M') (hl : xs.length ≤ 6) (hx : cXs M xs) : cXs M' xs :=
  ⟨h.1.trans hx.1, fun t ht => (hx.2 t ht).fr (fun k => h.2 _ _ (by omega) (by omega)) (fun k => h.2 _ _ (by omega) (by omega)) (fun k => h.2 _ _ (by omega) (by omega)) (fun k => h.2 _ _ (by omega) (by omega))⟩
theorem cB_ag {M M' : dM} {b : List Int} (h : aB M M') (hb : KV 88 1 89 M b) : KV 88 1 89 M' b := hb.up h.1 fun j _ _ => h.2 j
theorem cS_ag {M M' : dM} {n : Nat} (hn : n < 4) {o : Int} {l : List Int} (h : aS M M') (hc : cS M n o l) : cS M' n o l :=
  ⟨(h _ _ (by unfold sO; omega) (by unfold sO; omega)).trans hc.1, hc.2.up (h _ _ (by unfold sO; omega) (by unfold sO; omega)) fun j _ _ => h _ _ (by unfold sO; omega) (by unfold sO; omega)⟩
theorem rT_ag {M M' : dM} {t : Tn} (h : eT M M') (ht : rT M t) : rT M' t :=
  ⟨⟨h.1.1.trans ht.1.1, h.1.2.1.trans ht.1.2.1, h.1.2.2.1.trans ht.1.2.2.1, h.1.2.2.2.trans ht.1.2.2.2⟩, fun l hl => ⟨(h.2 _ _ (by omega) (by omega)).trans (ht.2.1 l hl).1, (h.2 _ _ (by omega) (by omega)).trans (ht.2.1 l hl).2.1, (h.2 _ _ (by omega) (by omega)).trans (ht.2.1 l hl).2.2⟩, fun f hf => ⟨(h.2 _ _ (by omega) (by omega)).trans (ht.2.2 f hf).1, (h.2 _ _ (by omega) (by omega)).trans (ht.2.2 f hf).2.1, (h.2 _ _ (by omega) (by omega)).trans (ht.2.2 f hf).2.2.1, fun k hk => (h.2 _ _ (by omega) (by omega)).trans ((ht.2.2 f hf).2.2.2 k hk)⟩⟩
theorem rX_ag {M M' : dM} {xs : List (List Int)} (h : eX M M') (hx : rXs M xs) : rXs M' xs :=
  ⟨h.1.trans hx.1, fun t ht => ⟨(h.2 _ _ (by omega) (by omega)).trans (hx.2 t ht).1, fun i hi => (h.2 _ _ (by omega) (by omega)).trans ((hx.2 t ht).2 i hi)⟩⟩
theorem rB_ag {M M' : dM} {b : List Int} (h : eB M M') (hb : KV 107 6 110 M b) : KV 107 6 110 M' b := hb.up h.1 fun j _ _ => h.2 j
theorem rS_ag {M M' : dM} {n : Nat} {o : Int} {l : List Int} (h : eS M M') (hc : rS M n o l) : rS M' n o l :=
  ⟨(h _ _ (by omega) (by omega)).trans hc.1, fun ho => ⟨(h _ _ (by omega) (by omega)).trans (hc.2 ho).1, (h _ _ (by omega) (by omega)).trans (hc.2 ho).2.1, fun i hi => (h _ _ (by omega) (by omega)).trans ((hc.2 ho).2.2 i hi)⟩⟩
theorem rK_ag {M M' : dM} {ko : Option Tn} (h : eK M M') (hk : rKp M ko) : rKp M' ko := by
  obtain ⟨h0, h⟩ := h
  cases ko with
  | none => exact h0.1.trans hk
  | some t => exact ⟨⟨h0.2.1.trans hk.1.1, h0.2.2.1.trans hk.1.2.1, h0.2.2.2.trans hk.1.2.2.1, h0.1.trans hk.1.2.2.2⟩, fun l hl => ⟨(h _ _ (by omega) (by omega)).trans (hk.2.1 l hl).1, (h _ _ (by omega) (by omega)).trans (hk.2.1 l hl).2.1, (h _ _ (by omega) (by omega)).trans (hk.2.1 l hl).2.2⟩, fun f hf => ⟨(h _ _ (by omega) (by omega)).trans (hk.2.2 f hf).1, (h _ _ (by omega) (by omega)).trans (hk.2.2 f hf).2.1, (h _ _ (by omega) (by omega)).trans (hk.2.2 f hf).2.2.1, fun k hk2 => (h _ _ (by omega) (by omega)).trans ((hk.2.2 f hf).2.2.2 k hk2)⟩⟩
def okTr (n : Nat) (t : Tn) : Prop := okT t ∧ tDay t ≤ 999 ∧ (tRule t).toNat < n
def okA (t : Tn) (ko : Option Tn) (xs : List (List Int)) (b : List Int) (so : Nat → Int) (sl : Nat → List Int) : Prop := okTr xs.length t ∧ (∀ k, ko = some k → okTr xs.length k) ∧ okXs xs ∧ okB b ∧ okS so sl
def cA (M : dM) (t : Tn) (ko : Option Tn) (xs : List (List Int)) (b : List Int) (so : Nat → Int) (sl : Nat → List Int) : Prop := cT M 1 t ∧ cKp M ko ∧ cXs M xs ∧ KV 88 1 89 M b ∧ ∀ n : Nat, n < 4 → cS M n (so n) (sl n)
def rA (M : dM) (t : Tn) (ko : Option Tn) (xs : List (List Int)) (b : List Int) (so : Nat → Int) (sl : Nat → List Int) : Prop := rT M t ∧ rKp M ko ∧ rXs M xs ∧ KV 107 6 110 M b ∧ ∀ n : Nat, n < 4 → rS M n (so n) (sl n)
theorem cA.ka {M M' : dM} {t : Tn} {ko : Option Tn} {xs : List (List Int)} {b : List Int} {so : Nat → Int} {sl : Nat → List Int} (hl : xs.length ≤ 6) (h : KPa M M') (hc : cA M t ko xs b so sl) : cA M' t ko xs b so sl :=
  ⟨cT_ag h.1 hc.1, cK_ag h.2.1 hc.2.1, cX_ag h.2.2.1 hl hc.2.2.1, cB_ag h.2.2.2.1 hc.2.2.2.1, fun n hn => cS_ag hn h.2.2.2.2 (hc.2.2.2.2 n hn)⟩
theorem rA.ke {M M' : dM} {t : Tn} {ko : Option Tn} {xs : List (List Int)} {b : List Int} {so : Nat → Int} {sl : Nat → List Int} (h : KPe M M') (hr : rA M t ko xs b so sl) : rA M' t ko xs b so sl :=
  ⟨rT_ag h.1 hr.1, rK_ag h.2.1 hr.2.1, rX_ag h.2.2.1 hr.2.2.1, rB_ag h.2.2.2.1 hr.2.2.2.1, fun n hn => rS_ag h.2.2.2.2 (hr.2.2.2.2 n hn)⟩
def Inv (M : dM) : Prop := ∃ (t : Tn) (ko : Option Tn) (xs : List (List Int)) (b : List Int) (so : Nat → Int) (sl : Nat → List Int), Sk M ∧ okA t ko xs b so sl ∧ cA M t ko xs b so sl ∧ rA M t ko xs b so sl
/-- class frames -/
theorem FT1.k {M M' : dM} (h : FT 1 M M') : aK M M' ∧ aX M M' ∧ aB M M' ∧ aS M M' ∧ KPe M M' := by
  have g : ∀ x k : Int, (x = 0 ∨ 19 < x) → x ≠ 60 → x ≠ 61 → x ≠ 62 → x ≠ 63 → M' x k = M x k := fun x k h0 h1 h2 h3 h4 => h x k (fun z => by unfold tslot at z; omega) h1 h2 h4 (fun z => h3 z.1)
  exact ⟨⟨g _ _ (by omega) (by omega) (by omega) (by omega) (by omega), fun x k _ _ => g _ _ (by omega) (by omega) (by omega) (by omega) (by omega)⟩, ⟨g _ _ (by omega) (by omega) (by omega) (by omega) (by omega), fun x k _ _ => g _ _ (by omega) (by omega) (by omega) (by omega) (by omega)⟩, ⟨g _ _ (by omega) (by omega) (by omega) (by omega) (by omega), fun k => g _ _ (by omega) (by omega) (by omega) (by omega) (by omega)⟩, fun x k _ _ => g _ _ (by omega) (by omega) (by omega) (by omega) (by omega), KPe.of fun x k _ _ => g _ _ (by omega) (by omega) (by omega) (by omega) (by omega)⟩
theorem FrT.k {M M' : dM} (h : FrT M M') : aK M M' ∧ aX M M' ∧ aB M M' ∧ aS M M' ∧ KPe M M' := by
  have g : ∀ x k : Int, scr x k = false → (x = 0 ∨ 19 < x) → M' x k = M x k := fun x k h0 h1 => h x k h0 (by omega)
  exact ⟨⟨g _ _ scr_sg.1 (by omega), fun x k _ _ => g _ _ (scr_in (by omega) k) (by omega)⟩, ⟨g _ _ scr_sg.2.1 (by omega), fun x k _ _ => g _ _ (scr_in (by omega) k) (by omega)⟩, ⟨g _ _ scr_sg.2.2.1 (by omega), fun k => g _ _ (scr_in (by omega) k) (by omega)⟩, fun x k _ _ => g _ _ (scr_in (by omega) k) (by omega), KPe.of fun x k s _ => g _ _ s (by omega)⟩
theorem FV.k {M M' : dM} (h : FV M M') : eK M M' ∧ eX M M' ∧ eB M M' ∧ eS M M' ∧ KPa M M' := by
  have g : ∀ x k : Int, x ≠ 111 → x ≠ 112 → x ≠ 113 → x ≠ 114 → x ≠ 107 → M' x k = M x k := fun x k h1 h2 h3 h4 h5 => h x k h1 h2 h3 h4 (fun z => absurd z h5)
  have g7 : ∀ k : Int, (k = 38 ∨ k = 39 ∨ k = 40 ∨ k = 41 ∨ k = 3 ∨ k = 6) → M' 107 k = M 107 k := fun k hk => h _ _ (by decide) (by decide) (by decide) (by decide) (fun _ => by omega)
  exact ⟨⟨⟨g7 _ (by omega), g7 _ (by omega), g7 _ (by omega), g7 _ (by omega)⟩, fun x k _ _ => g _ _ (by omega) (by omega) (by omega) (by omega) (by omega)⟩, ⟨g7 _ (by omega), fun x k _ _ => g _ _ (by omega) (by omega) (by omega) (by omega) (by omega)⟩, ⟨g7 _ (by omega), fun k => g _ _ (by omega) (by omega) (by omega) (by omega) (by omega)⟩, fun x k _ _ => g _ _ (by omega) (by omega) (by omega) (by omega) (by omega), KPa.of fun x k _ hx => g _ _ (by omega) (by omega) (by omega) (by omega) (by omega)⟩
theorem FW.k {M M' : dM} (h : FW M M') : eK M M' ∧ eX M M' ∧ eB M M' ∧ eS M M' ∧ KPa M M' := by
  have g : ∀ x k : Int, x ≠ 111 → x ≠ 112 → x ≠ 114 → x ≠ 116 → x ≠ 107 → M' x k = M x k := fun x k h1 h2 h3 h4 h5 => h x k h1 h2 h3 h4 (fun z => absurd z h5)
  have g7 : ∀ k : Int, (k = 38 ∨ k = 39 ∨ k = 40 ∨ k = 41 ∨ k = 3 ∨ k = 6) → M' 107 k = M 107 k := fun k hk => h _ _ (by decide) (by decide) (by decide) (by decide) (fun _ => by omega)
  exact ⟨⟨⟨g7 _ (by omega), g7 _ (by omega), g7 _ (by omega), g7 _ (by omega)⟩, fun x k _ _ => g _ _ (by omega) (by omega) (by omega) (by omega) (by omega)⟩, ⟨g7 _ (by omega), fun x k _ _ => g _ _ (by omega) (by omega) (by omega) (by omega) (by omega)⟩, ⟨g7 _ (by omega), fun k => g _ _ (by omega) (by omega) (by omega) (by omega) (by omega)⟩, fun x k _ _ => g _ _ (by omega) (by omega) (by omega) (by omega) (by omega), KPa.of fun x k _ hx => g _ _ (by omega) (by omega) (by omega) (by omega) (by omega)⟩
theorem FrM.k {M M' : dM} (h : FrM M M') : eK M M' ∧ eX M M' ∧ eB M M' ∧ eS M M' ∧ KPa M M' := by
  obtain ⟨-, -, -, s3, s4, s6, s7, s8, s12, s38, s39, s40, s41⟩ := scr_sg
  have g : ∀ x k : Int, scr x k = false → ¬ (111 ≤ x ∧ x ≤ 113) → M' x k = M x k := h
  exact ⟨⟨⟨g _ _ s38 (by decide), g _ _ s39 (by decide), g _ _ s40 (by decide), g _ _ s41 (by decide)⟩, fun x k _ _ => g _ _ (scr_in (by omega) k) (by omega)⟩, ⟨g _ _ s3 (by decide), fun x k _ _ => g _ _ (scr_in (by omega) k) (by omega)⟩, ⟨g _ _ s6 (by decide), fun k => g _ _ (scr_in (by omega) k) (by decide)⟩, fun x k _ _ => g _ _ (scr_in (by omega) k) (by omega), KPa.of fun x k s hx => g _ _ s (by omega)⟩
