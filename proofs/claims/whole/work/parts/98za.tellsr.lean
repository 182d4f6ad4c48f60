/-! tells, reference side: the loop -/
def rIs (M : dM) (t : Tn) (w of : Int) : Prop := ∃ s : Tn, rT M s ∧ okT s ∧ ∀ v : Int, tLay s w of v = tLay t w of v
def ofOk (l : Nat) (w of : Int) : Prop := ((w = 5 ∨ w = 2 ∨ w = 3 ∨ w = 6) ∧ of = (l : Int)) ∨ (w = 4 ∧ of = 0)
theorem lays_v {sc : dS} {d : Nat} {t : Tn} {l : Nat} (hl : l < 5) {w of : Int} (hw : ofOk l w of) {M : dM} (hs : Sk M) (ht : rIs M t w of) {v : Int} (hv : -2147483648 ≤ v ∧ v < 2147483648) : ∃ M' : dM, vc sc (d + 1) 123 [(2, 107), (0, w), (0, of), (0, v)] (K0, M) = some ([], (K0, M')) ∧ FV M M' ∧ rT M' (tLay t w of v) := by
  obtain ⟨s, h1, h2, h3⟩ := ht
  unfold ofOk at hw
  obtain ⟨M1, a1, a2, a3⟩ := lays_ok (sc := sc) (d := d) hs h1 h2 (w := w) (of := of) (v := v) (by omega) (by omega) (by omega) hv
  rw [h3] at a3
  exact ⟨M1, a1, a2, a3⟩
theorem tl_loop {sc : dS} {d : Nat} {t : Tn} (hok : okT t) {xs : List (List Int)} (hxs : okXs xs) (hr : (tRule t).toNat < xs.length) {n : Nat} (hn : n < 4) {o : Int} (ho : 0 ≤ o) {L : List Int} (hL : L.length ≤ 13) {l : Nat} (hl : l < tMany t) {w of : Int} (hw : ofOk l w of) {wh bef last : Int} (hb : -2147483648 ≤ bef ∧ bef < 2147483648) (hbt : tLay t w of bef = t) : ∀ (m : Nat) (a : Int) (c : Nat) (le : Int) (M : dM), (∀ v : Nat, v < m → vOk xs w v) → c + m ≤ 1000 → Sk M → rIs M t w of → rXs M xs → rS M n o L →
    ∃ M' : dM, vr sc (d + 50) c_X7_tells (217, [(2, 107), (0, (n : Int)), (0, (l : Int)), (0, wh), (0, w), (0, of), (0, bef), (0, last), (0, a), (0, (c : Int)), (0, le), (0, (m : Int) - 1)], [], (K0, M)) = vr sc (d + 50) c_X7_tells (285, [(2, 107), (0, (n : Int)), (0, (l : Int)), (0, wh), (0, w), (0, of), (0, bef), (0, last), (0, dnS (fv xs t w of l L) m a), (0, ((c + cnt (fv xs t w of l L) m : Nat) : Int)), (0, dnL (fv xs t w of l L) m le), (0, -1)], [], (K0, M')) ∧ FV M M' ∧ rT M' t := by
  have hl5 : l < 5 := by have := hok.1.2.2.2.2.2; omega
  intro m
  induction m with
  | zero =>
    intro a c le M hv hc hs ht hx hcs
    obtain ⟨M1, a1, a2, a3⟩ := lays_v (sc := sc) (d := d + 49) hl5 hw hs ht hb
    rw [hbt] at a3
    refine ⟨M1, ?_, a2, a3⟩
    rw [e_X7_tells_217, if_pos (show ((0 : Nat) : Int) - 1 < 0 by decide), if_pos (show rg K0 7 107 = true from rfl), a1, Option.bind_some]
    rfl
  | succ m ih =>
    intro a c le M hv hc hs ht hx hcs
    have hvm := hv m (by omega)
    have h2w : 2 ≤ w := by unfold vOk at hvm; omega
    have h100 : m < 100 := by unfold vOk at hvm; have := hxs.1; omega
    obtain ⟨M1, a1, a2, a3⟩ := lays_v (sc := sc) (d := d + 49) hl5 hw hs ht (v := (m : Int)) ⟨by omega, by omega⟩
    have hs1 := a2.sk hs
    have ok1 := okT_lay hok hxs.1 (of := of) hvm
    obtain ⟨M2, b1, b2⟩ := firstOther_ok (sc := sc) (d := d + 1) ok1 hxs (rule_lay hr hvm) hn ho hL (l := l) (by rw [many_lay]; exact hl) hs1 a3 (hx.fv a2) (rS_fv a2 hcs)
    have f2 := a2.tr b2.fv
    have hs2 := b2.sk hs1
    have hi : rIs M2 t w of := ⟨_, a3.ru b2, ok1, fun u => lay_lay t h2w _ _ _⟩
    rw [e_X7_tells_217, if_neg (by omega), if_pos (show rg K0 7 107 = true from rfl), show ((m + 1 : Nat) : Int) - 1 = (m : Int) by omega, a1, Option.bind_some]
    show ∃ M', vr sc (d + 50) c_X7_tells (232, [(2, 107), (0, (n : Int)), (0, (l : Int)), (0, wh), (0, w), (0, of), (0, bef), (0, last), (0, a), (0, (c : Int)), (0, le), (0, (m : Int))], [], (K0, M1)) = _ ∧ _
    rw [e_X7_tells_232, if_pos (show rg K0 7 107 = true from rfl), b1, Option.bind_some]
    show ∃ M', vr sc (d + 50) c_X7_tells (238, [(2, 107), (0, (n : Int)), (0, (l : Int)), (0, wh), (0, w), (0, of), (0, bef), (0, last), (0, a), (0, (c : Int)), (0, le), (0, (m : Int))], [(0, fo xs (tLay t w of (m : Int)) l L)], (K0, M2)) = _ ∧ _
    rw [e_X7_tells_238, show w32 ((m : Int) + (-1)) = (m : Int) - 1 from w32_e (by omega) (by omega) (by omega), w_s c (by omega)]
    by_cases z : fo xs (tLay t w of (m : Int)) l L = -1
    · have zb : fv xs t w of l L m = true := decide_eq_true z
      obtain ⟨M3, c1, c2, c3⟩ := ih (if (10 : Int) ≤ (m : Int) then i_or a 0 else i_or a (i_shl 1 m)) (c + 1) (m : Int) M2 (fun v h => hv v (by omega)) (by omega) hs2 hi ((hx.fv a2).ru b2) ((rS_fv a2 hcs).fr b2.fr)
      refine ⟨M3, ?_, f2.tr c2, c3⟩
      rw [if_neg (fun y => y z)]
      unfold dnS dnL cnt
      rw [if_pos zb, if_pos zb, if_pos zb, show c + (cnt (fv xs t w of l L) m + 1) = c + 1 + cnt (fv xs t w of l L) m by omega, ← c1]
      by_cases t10 : (10 : Int) ≤ (m : Int)
      · rw [if_pos t10, if_pos t10]
      · rw [if_neg t10, if_neg t10]
    · have zb : ¬ fv xs t w of l L m = true := fun y => z (of_decide_eq_true y)
      obtain ⟨M3, c1, c2, c3⟩ := ih a c le M2 (fun v h => hv v (by omega)) (by omega) hs2 hi ((hx.fv a2).ru b2) ((rS_fv a2 hcs).fr b2.fr)
      refine ⟨M3, ?_, f2.tr c2, c3⟩
      rw [if_pos z]
      unfold dnS dnL cnt
      rw [if_neg zb, if_neg zb, if_neg zb, ← c1]
theorem lay_id (t : Tn) {xs : List (List Int)} {w of : Int} (l : Nat) (hl : l < tMany t) (hw : ofOk l w of) : tLay t w of (if w = 6 then tRule t else toldF xs t of w) = t := by
  have e : ∀ (i : Nat) (f : Nat → Int), (fun j => if j = i then f i else f j) = f := fun i f => by
    funext j
    by_cases q : j = i
    · rw [if_pos q, q]
    · rw [if_neg q]
  unfold ofOk at hw
  have hl2 : (0 : Int) ≤ (l : Int) ∧ (l : Int) < (tMany t : Int) := ⟨by omega, by omega⟩
  rcases hw with ⟨w5 | w2 | w3 | w6, rfl⟩ | ⟨w4, rfl⟩
  · subst w5
    show tKd t l (toldF xs t (l : Int) 5) = t
    have g : toldF xs t (l : Int) 5 = tKind t l := (if_pos hl2 : (if 0 ≤ (l : Int) ∧ (l : Int) < (tMany t : Int) then tKind t l else -1000) = tKind t l)
    rw [g]
    exact congrArg (fun f => (t.1, f, tNum t, tSkl t, tWlk t, tBy t, tKn t)) (e l (tKind t))
  · subst w2
    show tNm t l (toldF xs t (l : Int) 2) = t
    have g : toldF xs t (l : Int) 2 = tNum t l := (if_pos hl2 : (if 0 ≤ (l : Int) ∧ (l : Int) < (tMany t : Int) then tNum t l else -1000) = tNum t l)
    rw [g]
    exact congrArg (fun f => (t.1, tKind t, f, tSkl t, tWlk t, tBy t, tKn t)) (e l (tNum t))
  · subst w3
    show tSk t l (toldF xs t (l : Int) 3) = t
    have g : toldF xs t (l : Int) 3 = tSkl t l := (if_pos hl2 : (if 0 ≤ (l : Int) ∧ (l : Int) < (tMany t : Int) then tSkl t l else -1000) = tSkl t l)
    rw [g]
    exact congrArg (fun f => (t.1, tKind t, tNum t, f, tWlk t, tBy t, tKn t)) (e l (tSkl t))
  · subst w6
    rfl
  · subst w4
    show tWk t 0 (tWlk t 0) = t
    exact congrArg (fun f => (t.1, tKind t, tNum t, tSkl t, f, tBy t, tKn t)) (e 0 (tWlk t))
theorem bef_r {t : Tn} (hok : okT t) {xs : List (List Int)} {w of : Int} {l : Nat} (hl : l < tMany t) (hw : ofOk l w of) : -2147483648 ≤ (if w = 6 then tRule t else toldF xs t of w) ∧ (if w = 6 then tRule t else toldF xs t of w) < 2147483648 := by
  have o1 := hok.1
  have o2 := hok.2.1 l (by omega)
  have o3 := hok.2.2 0 (by decide)
  unfold ofOk at hw
  have hl2 : (0 : Int) ≤ (l : Int) ∧ (l : Int) < (tMany t : Int) := ⟨by omega, by omega⟩
  rcases hw with ⟨w5 | w2 | w3 | w6, rfl⟩ | ⟨w4, rfl⟩
  · subst w5
    have g : toldF xs t (l : Int) 5 = tKind t l := (if_pos hl2 : (if 0 ≤ (l : Int) ∧ (l : Int) < (tMany t : Int) then tKind t l else -1000) = tKind t l)
    rw [if_neg (by decide), g]
    omega
  · subst w2
    have g : toldF xs t (l : Int) 2 = tNum t l := (if_pos hl2 : (if 0 ≤ (l : Int) ∧ (l : Int) < (tMany t : Int) then tNum t l else -1000) = tNum t l)
    rw [if_neg (by decide), g]
    omega
  · subst w3
    have g : toldF xs t (l : Int) 3 = tSkl t l := (if_pos hl2 : (if 0 ≤ (l : Int) ∧ (l : Int) < (tMany t : Int) then tSkl t l else -1000) = tSkl t l)
    rw [if_neg (by decide), g]
    omega
  · subst w6
    rw [if_pos rfl]
    omega
  · subst w4
    have g : toldF xs t 0 4 = tWlk t 0 := rfl
    rw [if_neg (by decide), g]
    omega
def bndN (xs : List (List Int)) (w : Int) : Nat := if w = 6 then xs.length else if w = 5 then 6 else if w = 2 then 10 else 100
theorem tl_124 {sc : dS} {d : Nat} {t : Tn} (hok : okT t) {xs : List (List Int)} (hxs : okXs xs) (hr : (tRule t).toNat < xs.length) {n : Nat} (hn : n < 4) {o : Int} (ho : 0 ≤ o) {L : List Int} (hL : L.length ≤ 13) {l : Nat} (hl : l < tMany t) {w of : Int} (hw : ofOk l w of) {wh : Int} {q4 q5 q6 q7 q8 q9 q10 q11 : dV} {M : dM} (hs : Sk M) (ht : rT M t) (hx : rXs M xs) (hc : rS M n o L) : ∃ (M' : dM) (b e : Int), vr sc (d + 52) c_X7_tells (124, [(2, 107), (0, (n : Int)), (0, (l : Int)), (0, wh), q4, q5, q6, q7, q8, q9, q10, q11], [(0, w)], (K0, M)) = vr sc (d + 52) c_X7_tells (285, [(2, 107), (0, (n : Int)), (0, (l : Int)), (0, wh), (0, w), (0, of), (0, b), (0, e), (0, dnS (fv xs t w of l L) (bndN xs w) 0), (0, ((cnt (fv xs t w of l L) (bndN xs w) : Nat) : Int)), (0, lea (fv xs t w of l L) (bndN xs w)), (0, -1)], [], (K0, M')) ∧ FV M M' ∧ rT M' t := by
  have hx6 := hxs.1
  have hbr := bef_r hok (xs := xs) hl hw
  have hid := lay_id t (xs := xs) l hl hw
  have hv : ∀ v : Nat, v < bndN xs w → vOk xs w v := fun v h => by
    unfold bndN at h
    unfold ofOk at hw
    unfold vOk
    by_cases k6 : w = 6
    · rw [if_pos k6] at h; omega
    · rw [if_neg k6] at h
      by_cases k5 : w = 5
      · rw [if_pos k5] at h; omega
      · rw [if_neg k5] at h
        by_cases k2 : w = 2
        · rw [if_pos k2] at h; omega
        · rw [if_neg k2] at h; omega
  have hN : bndN xs w ≤ 1000 := by
    unfold bndN
    repeat' split
    all_goals omega
  have s161 : ∀ (q6 : dV) (M1 : dM), Sk M1 → rT M1 t → rXs M1 xs → rS M1 n o L → ∃ (M' : dM) (b e : Int), vr sc (d + 52) c_X7_tells (161, [(2, 107), (0, (n : Int)), (0, (l : Int)), (0, wh), (0, w), (0, of), q6, q7, q8, q9, q10, q11], [(0, if w = 6 then tRule t else toldF xs t of w)], (K0, M1)) = vr sc (d + 52) c_X7_tells (285, [(2, 107), (0, (n : Int)), (0, (l : Int)), (0, wh), (0, w), (0, of), (0, b), (0, e), (0, dnS (fv xs t w of l L) (bndN xs w) 0), (0, ((cnt (fv xs t w of l L) (bndN xs w) : Nat) : Int)), (0, lea (fv xs t w of l L) (bndN xs w)), (0, -1)], [], (K0, M')) ∧ FV M1 M' ∧ rT M' t := by
    intro q6 M1 hs ht hx hc
    generalize (if w = 6 then tRule t else toldF xs t of w) = bf at *
    have e202 : vr sc (d + 52) c_X7_tells (161, [(2, 107), (0, (n : Int)), (0, (l : Int)), (0, wh), (0, w), (0, of), q6, q7, q8, q9, q10, q11], [(0, bf)], (K0, M1)) = vr sc (d + 52) c_X7_tells (202, [(2, 107), (0, (n : Int)), (0, (l : Int)), (0, wh), (0, w), (0, of), (0, bf), q7, q8, q9, q10, q11], [(0, ((bndN xs w : Nat) : Int) - 1)], (K0, M1)) := by
      rw [e_X7_tells_161]
      unfold bndN
      by_cases k6 : w = 6
      · rw [if_neg (fun y => y k6), if_pos (show og K0 7 107 3 = true from rfl), if_pos k6, hx.1, show w32 ((xs.length : Int) - 1) = (xs.length : Int) - 1 from w32_e rfl (by omega) (by omega)]
      · rw [if_pos k6, if_neg k6]
        by_cases k5 : w = 5
        · rw [if_neg (fun y => y k5), if_pos k5]; rfl
        · rw [if_pos k5, if_neg k5]
          by_cases k2 : w = 2
          · rw [if_neg (fun y => y k2), if_pos k2]; rfl
          · rw [if_pos k2, if_neg k2]; rfl
    rw [e202, e_X7_tells_202]
    obtain ⟨M2, a1, a2, a3⟩ := tl_loop (sc := sc) (d := d + 2) hok hxs hr hn ho hL hl hw (wh := wh) (bef := bf) (last := ((bndN xs w : Nat) : Int) - 1) hbr hid (bndN xs w) 0 0 (-1) M1 hv (by omega) hs ⟨t, ht, hok, fun _ => rfl⟩ hx hc
    have el : dnL (fv xs t w of l L) (bndN xs w) (-1) = lea (fv xs t w of l L) (bndN xs w) := by
      rw [dnL_lea]
      by_cases y : lea (fv xs t w of l L) (bndN xs w) = -1
      · rw [if_pos y, y]
      · rw [if_neg y]
    rw [el, Nat.zero_add] at a1
    exact ⟨M2, bf, ((bndN xs w : Nat) : Int) - 1, a1, a2, a3⟩
  rw [e_X7_tells_124]
  have hw' := hw
  unfold ofOk at hw'
  have told : ¬ w = 6 → ∃ (M' : dM) (b e : Int), ((vc sc (d + 52) 125 [(2, 107), (0, of), (0, w)] (K0, M)).bind fun r => vr sc (d + 52) c_X7_tells (161, [(2, 107), (0, (n : Int)), (0, (l : Int)), (0, wh), (0, w), (0, of), q6, q7, q8, q9, q10, q11], r.1 ++ [], r.2)) = vr sc (d + 52) c_X7_tells (285, [(2, 107), (0, (n : Int)), (0, (l : Int)), (0, wh), (0, w), (0, of), (0, b), (0, e), (0, dnS (fv xs t w of l L) (bndN xs w) 0), (0, ((cnt (fv xs t w of l L) (bndN xs w) : Nat) : Int)), (0, lea (fv xs t w of l L) (bndN xs w)), (0, -1)], [], (K0, M')) ∧ FV M M' ∧ rT M' t := fun k6 => by
    obtain ⟨M1, a1, a2⟩ := told_r (sc := sc) (d := d) hs ht hok hx hxs hr of w
    obtain ⟨M2, b, e, c1, c2, c3⟩ := s161 q6 M1 (a2.sk hs) (ht.ru a2) (hx.ru a2) (hc.fr a2.fr)
    rw [if_neg k6] at c1
    rw [a1, Option.bind_some]
    exact ⟨M2, b, e, c1, a2.fv.tr c2, c3⟩
  rcases hw' with ⟨w', e2⟩ | ⟨w4, e2⟩
  · subst e2
    rw [if_pos (by omega)]
    by_cases k6 : w = 6
    · obtain ⟨M2, b, e, c1, c2, c3⟩ := s161 q6 M hs ht hx hc
      rw [if_pos k6] at c1
      rw [if_neg (fun y => y k6), if_pos (show og K0 7 107 4 = true from rfl), ht.1.2.2.1]
      exact ⟨M2, b, e, c1, c2, c3⟩
    · rw [if_pos k6, if_pos (show rg K0 7 107 = true from rfl)]
      exact told k6
  · subst e2
    rw [if_neg (fun y => y w4), if_pos (by omega), if_pos (show rg K0 7 107 = true from rfl)]
    exact told (by omega)
