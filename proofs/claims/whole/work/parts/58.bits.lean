/-! what neither side keeps from call to call -/
def SCO : List Int := [60, 61, 63, 92, 94, 96, 97, 98, 21, 22, 23, 24, 25, 28, 30, 32, 34, 36, 38, 114, 115, 116, 117]
def SCS : List (Int × Int) := [(62, 1), (91, 1), (93, 1), (95, 1), (20, 0), (20, 1), (20, 2), (20, 3), (27, 1), (29, 1), (31, 1), (33, 1), (35, 1), (37, 1), (88, 2), (88, 3), (88, 4), (88, 5), (88, 6), (88, 7), (107, 13), (107, 14), (107, 15), (107, 16), (107, 17), (107, 18), (107, 19), (107, 20), (107, 21), (107, 22), (107, 23), (107, 24), (107, 25), (107, 26), (107, 27), (107, 29), (107, 33), (107, 34)]
def scr (x k : Int) : Bool := SCO.elem x || SCS.any (fun q => q.1 == x && q.2 == k)
def Fr (M M' : dM) : Prop := ∀ x k : Int, scr x k = false → M' x k = M x k
theorem Fr.rf (M : dM) : Fr M M := fun _ _ _ => rfl
theorem Fr.tr {M M1 M2 : dM} (h1 : Fr M M1) (h2 : Fr M1 M2) : Fr M M2 := fun x k g => (h2 x k g).trans (h1 x k g)
theorem scr_o {x : Int} (h : SCO.elem x = true) (k : Int) : scr x k = true := by unfold scr; rw [h, Bool.true_or]
theorem scr_no {x : Int} (h : SCO.elem x = false) (h2 : SCS.all (fun q => !(q.1 == x)) = true) (k : Int) : scr x k = false := by
  unfold scr
  rw [h, Bool.false_or, List.any_eq_false]
  intro q hq
  have := List.all_eq_true.mp h2 q hq
  simp at this ⊢
  intro z
  exact absurd z this
theorem scr_rf : ∀ q ∈ SKL, scr q.1 q.2.1 = false := by decide +kernel
theorem Fr.sk {M M' : dM} (h : Fr M M') (hs : Sk M) : Sk M' := fun q hq => (h _ _ (scr_rf q hq)).trans (hs q hq)
theorem WF.scr {o s a : Int} {M M' : dM} (h : WF o s a M M') (h1 : scr o s = true) (h2 : SCO.elem a = true) : Fr M M' := fun x k g => h x k (fun z => by rw [z.1, z.2, h1] at g; cases g) (fun z => by rw [z, scr_o h2] at g; cases g)
theorem WF.s91 {M M' : dM} (h : WF 91 1 92 M M') : Fr M M' := h.scr (by decide +kernel) (by decide +kernel)
theorem WF.s93 {M M' : dM} (h : WF 93 1 94 M M') : Fr M M' := h.scr (by decide +kernel) (by decide +kernel)
theorem WF.s95 {M M' : dM} (h : WF 95 1 96 M M') : Fr M M' := h.scr (by decide +kernel) (by decide +kernel)
theorem WF.s62 {M M' : dM} (h : WF 62 1 63 M M') : Fr M M' := h.scr (by decide +kernel) (by decide +kernel)
theorem WF.s107 {M M' : dM} (h : WF 107 29 114 M M') : Fr M M' := h.scr (by decide +kernel) (by decide +kernel)
theorem scr_sh {s : Nat} (h : s < 4) : (∀ k, scr (sO s) k = false) ∧ ∀ k, scr (sO s + 1) k = false := by
  have key : ∀ s ∈ List.range 4, SCO.elem (sO s) = false ∧ SCS.all (fun q => !(q.1 == sO s)) = true ∧ SCO.elem (sO s + 1) = false ∧ SCS.all (fun q => !(q.1 == sO s + 1)) = true := by decide +kernel
  have k := key s (List.mem_range.mpr h)
  exact ⟨scr_no k.1 k.2.1, scr_no k.2.2.1 k.2.2.2⟩
theorem cS.fr {M M' : dM} {s : Nat} (h : s < 4) {o : Int} {l : List Int} (hc : cS M s o l) (hf : Fr M M') : cS M' s o l := by
  have k := scr_sh h
  exact ⟨(hf _ _ (k.1 _)).trans hc.1, hc.2.up (hf _ _ (k.1 _)) fun j _ _ => hf _ _ (k.2 _)⟩
theorem scr_ms : (∀ k, scr 121 k = false) ∧ (∀ k, scr 122 k = false) ∧ (∀ k, scr 123 k = false) ∧ ∀ k, scr 124 k = false :=
  ⟨scr_no (by decide +kernel) (by decide +kernel), scr_no (by decide +kernel) (by decide +kernel), scr_no (by decide +kernel) (by decide +kernel), scr_no (by decide +kernel) (by decide +kernel)⟩
theorem rS.fr {M M' : dM} {s : Nat} {o : Int} {l : List Int} (hc : rS M s o l) (hf : Fr M M') : rS M' s o l := by
  have k := scr_ms
  refine ⟨(hf _ _ (k.1 _)).trans hc.1, fun ho => ?_⟩
  have h := hc.2 ho
  exact ⟨(hf _ _ (k.2.1 _)).trans h.1, (hf _ _ (k.2.2.1 _)).trans h.2.1, fun i hi => (hf _ _ (k.2.2.2 _)).trans (h.2.2 i hi)⟩
/-! which crossings come away -/
def abC (l : List Int) (c : Nat) (acc : Int) : Nat → Int
  | 0 => acc
  | m + 1 => abC l (c + 1) (if awf c l = 0 then acc else i_or acc (i_shl 1 c)) m
def abR (l : List Int) (c : Nat) (acc : Int) : Nat → Int
  | 0 => acc
  | m + 1 => abR l (c + 1) (if awr c l = 0 then i_or acc (i_shl 0 c) else i_or acc (i_shl 1 c)) m
theorem awf_01 (c : Int) (l : List Int) : awf c l = 0 ∨ awf c l = 1 := by
  unfold awf
  split
  · exact Or.inl rfl
  · split
    · exact Or.inr rfl
    · exact Or.inl rfl
def abT (b : Nat → Bool) (c : Nat) (acc : Int) : Nat → Int
  | 0 => acc
  | m + 1 => abT b (c + 1) (if b c = false then acc else i_or acc (i_shl 1 c)) m
def abU (b : Nat → Bool) (c : Nat) (acc : Int) : Nat → Int
  | 0 => acc
  | m + 1 => abU b (c + 1) (if b c = false then i_or acc (i_shl 0 c) else i_or acc (i_shl 1 c)) m
theorem ab_tab : ∀ b0 b1 b2 b3 : Bool, abT (fun n => match n with | 0 => b0 | 1 => b1 | 2 => b2 | _ => b3) 0 0 4 = abU (fun n => match n with | 0 => b0 | 1 => b1 | 2 => b2 | _ => b3) 0 0 4 := by decide +kernel
theorem abC_T (l : List Int) : ∀ (m c : Nat) (acc : Int), abC l c acc m = abT (fun n => decide (awf n l ≠ 0)) c acc m := by
  intro m
  induction m with
  | zero => intro c acc; rfl
  | succ m ih =>
    intro c acc
    unfold abC abT
    rw [ih]
    by_cases p : awf c l = 0
    · rw [if_pos p, if_pos (decide_eq_false (fun z => z p))]
    · rw [if_neg p, if_neg (fun z => of_decide_eq_false z p)]
theorem abR_U (l : List Int) : ∀ (m c : Nat) (acc : Int), abR l c acc m = abU (fun n => decide (awr n l ≠ 0)) c acc m := by
  intro m
  induction m with
  | zero => intro c acc; rfl
  | succ m ih =>
    intro c acc
    unfold abR abU
    rw [ih]
    by_cases p : awr c l = 0
    · rw [if_pos p, if_pos (decide_eq_false (fun z => z p))]
    · rw [if_neg p, if_neg (fun z => of_decide_eq_false z p)]
theorem abT_cg {b b' : Nat → Bool} : ∀ (m c : Nat) (acc : Int), (∀ n, c ≤ n → n < c + m → b n = b' n) → abT b c acc m = abT b' c acc m := by
  intro m
  induction m with
  | zero => intro c acc _; rfl
  | succ m ih =>
    intro c acc h
    unfold abT
    rw [h c (Nat.le_refl _) (by omega), ih (c + 1) _ (fun n h1 h2 => h n (by omega) (by omega))]
theorem abU_cg {b b' : Nat → Bool} : ∀ (m c : Nat) (acc : Int), (∀ n, c ≤ n → n < c + m → b n = b' n) → abU b c acc m = abU b' c acc m := by
  intro m
  induction m with
  | zero => intro c acc _; rfl
  | succ m ih =>
    intro c acc h
    unfold abU
    rw [h c (Nat.le_refl _) (by omega), ih (c + 1) _ (fun n h1 h2 => h n (by omega) (by omega))]
def tab4 (b : Nat → Bool) : Nat → Bool := fun n => match n with | 0 => b 0 | 1 => b 1 | 2 => b 2 | _ => b 3
theorem tab4_eq (b : Nat → Bool) {n : Nat} (h : n < 4) : b n = tab4 b n := by
  have : n = 0 ∨ n = 1 ∨ n = 2 ∨ n = 3 := by omega
  rcases this with rfl | rfl | rfl | rfl <;> rfl
theorem ab_same {l : List Int} (hl : ∀ y ∈ l, y ∈ CL4) : abC l 0 0 4 = abR l 0 0 4 := by
  rw [abC_T, abR_U, abT_cg (b' := tab4 fun n => decide (awf n l ≠ 0)) 4 0 0 (fun n _ h => tab4_eq _ (by omega)), abU_cg (b' := tab4 fun n => decide (awf n l ≠ 0)) 4 0 0 (fun n _ h => by
    have hc : ((n : Nat) : Int) ∈ CL4 := CL4_of ⟨by omega, by omega⟩
    rw [← tab4_eq (fun n => decide (awf n l ≠ 0)) (show n < 4 by omega)]
    show decide (awr n l ≠ 0) = decide (awf n l ≠ 0)
    rw [aw_same hc hl])]
  exact ab_tab _ _ _ _
theorem Sk_09 {M : dM} (h : Sk M) : M 0 9 = 95 := h (0, 9, 95) (by decide +kernel)
theorem awayBits_loop {sc : dS} {d : Nat} {l : List Int} (hl : l.length ≤ 12) : ∀ (m c : Nat) (acc : Int) (M : dM), 4 - c = m → c ≤ 4 → Sk M → KV 91 1 92 M l →
    ∃ M' : dM, vr sc (d + 3) c_X6_awayBits (4, [(2, 0), (0, acc), (0, (c : Int))], [], (K0, M)) = some ([(0, abC l c acc m)], (K0, M')) ∧ Fr M M' := by
  intro m
  induction m with
  | zero =>
    intro c acc M hm hc hs hk
    have c1 : (4 : Int) ≤ c := by omega
    rw [e_X6_awayBits_4, if_pos c1]
    exact ⟨M, rfl, Fr.rf _⟩
  | succ m ih =>
    intro c acc M hm hc hs hk
    have c1 : ¬ (4 : Int) ≤ c := by omega
    obtain ⟨M1, a1, a2⟩ := isAway_ok (sc := sc) (d := d) (c := (c : Int)) isK_91 isK_95 (by decide) hs hl hk
    have hs1 := a2.s95.sk hs
    have hk1 := hk.fr isK_91 isK_95 (by decide) a2
    rw [e_X6_awayBits_4, if_neg c1, if_pos (show og K0 6 0 7 = true from rfl), if_pos (show og K0 6 0 9 = true from rfl), Sk_07 hs, Sk_09 hs, if_pos (rg_kn isK_91), a1, Option.bind_some]
    show ∃ M', vr sc (d + 3) c_X6_awayBits (21, [(2, 0), (0, acc), (0, (c : Int))], [(0, _)], (K0, M1)) = _ ∧ _
    rw [e_X6_awayBits_21, w_s c (by omega)]
    unfold abC
    by_cases p : awf c l = 0
    · rw [if_pos p, if_pos p]
      obtain ⟨M', g1, g2⟩ := ih (c + 1) acc M1 (by omega) (by omega) hs1 hk1
      exact ⟨M', g1, a2.s95.tr g2⟩
    · rw [if_neg p, if_neg p]
      obtain ⟨M', g1, g2⟩ := ih (c + 1) (i_or acc (i_shl 1 c)) M1 (by omega) (by omega) hs1 hk1
      exact ⟨M', g1, a2.s95.tr g2⟩
theorem awayBits_ok {sc : dS} {d : Nat} {M : dM} (hs : Sk M) {l : List Int} (hl : l.length ≤ 12) (hk : KV 91 1 92 M l) : ∃ M' : dM, vc sc (d + 4) 70 [(2, 0)] (K0, M) = some ([(0, abC l 0 0 4)], (K0, M')) ∧ Fr M M' := by
  rw [vc_s (md := m_X6_awayBits) (L := [(2, 0), (3, 0), (3, 0)]) rfl (Nat.le_of_ble_eq_true rfl) rfl]
  show ∃ M', vr sc (d + 3) c_X6_awayBits _ = _ ∧ _
  rw [e_X6_awayBits_0]
  exact awayBits_loop hl 4 0 0 M rfl (by omega) hs hk
theorem awaySet_loop {sc : dS} {d : Nat} {s : Nat} (h : s < 4) {o : Int} {l : List Int} (ho : 0 ≤ o) (hl : l.length ≤ 12) : ∀ (m c : Nat) (acc : Int) (M : dM), 4 - c = m → c ≤ 4 → Sk M → rS M s o l →
    ∃ M' : dM, vr sc (d + 3) c_X7_awaySet (4, [(2, 107), (0, (s : Int)), (0, acc), (0, (c : Int))], [], (K0, M)) = some ([(0, abR l c acc m)], (K0, M')) ∧ Fr M M' := by
  intro m
  induction m with
  | zero =>
    intro c acc M hm hc hs hr
    have c1 : (4 : Int) ≤ c := by omega
    rw [e_X7_awaySet_4, if_pos c1]
    exact ⟨M, rfl, Fr.rf _⟩
  | succ m ih =>
    intro c acc M hm hc hs hr
    have c1 : ¬ (4 : Int) ≤ c := by omega
    obtain ⟨M1, a1, a2, a3⟩ := takesSheet_ok (sc := sc) (d := d + 2) hs h ho hl hr
    have hs1 := a2.s107.sk hs
    obtain ⟨M2, b1, b2⟩ := comesAway_ok (sc := sc) (d := d) (c := (c : Int)) hs1 hl a3
    have f2 := a2.s107.tr b2.s107
    rw [e_X7_awaySet_4, if_neg c1, if_pos (show rg K0 7 107 = true from rfl), a1, Option.bind_some]
    show ∃ M', vr sc (d + 3) c_X7_awaySet (14, [(2, 107), (0, (s : Int)), (0, acc), (0, (c : Int))], [], (K0, M1)) = _ ∧ _
    rw [e_X7_awaySet_14, if_pos (show rg K0 7 107 = true from rfl), b1, Option.bind_some]
    show ∃ M', vr sc (d + 3) c_X7_awaySet (20, [(2, 107), (0, (s : Int)), (0, acc), (0, (c : Int))], [(0, _), (0, acc)], (K0, M2)) = _ ∧ _
    rw [e_X7_awaySet_20, w_s c (by omega)]
    unfold abR
    by_cases p : awr c l = 0
    · rw [if_pos p, if_pos p]
      obtain ⟨M', g1, g2⟩ := ih (c + 1) (i_or acc (i_shl 0 c)) M2 (by omega) (by omega) (f2.sk hs) (hr.fr f2)
      exact ⟨M', g1, f2.tr g2⟩
    · rw [if_neg p, if_neg p]
      obtain ⟨M', g1, g2⟩ := ih (c + 1) (i_or acc (i_shl 1 c)) M2 (by omega) (by omega) (f2.sk hs) (hr.fr f2)
      exact ⟨M', g1, f2.tr g2⟩
theorem awaySet_ok {sc : dS} {d : Nat} {M : dM} (hs : Sk M) {s : Nat} (h : s < 4) {o : Int} {l : List Int} (ho : 0 ≤ o) (hl : l.length ≤ 12) (hr : rS M s o l) : ∃ M' : dM, vc sc (d + 4) 160 [(2, 107), (0, (s : Int))] (K0, M) = some ([(0, abR l 0 0 4)], (K0, M')) ∧ Fr M M' := by
  rw [vc_s (md := m_X7_awaySet) (L := [(2, 107), (0, (s : Int)), (3, 0), (3, 0)]) rfl (Nat.le_of_ble_eq_true rfl) rfl]
  show ∃ M', vr sc (d + 3) c_X7_awaySet _ = _ ∧ _
  rw [e_X7_awaySet_0]
  exact awaySet_loop h ho hl 4 0 0 M rfl (by omega) hs hr
