/-! tie, the class's side -/
def tTie (t : Tn) (f : Nat) (l : Int) (w : List Int) : Tn := (t.1, tKind t, tNum t, tSkl t, tWlk t, fun j => if j = f then l else tBy t j, fun j => if j = f then w else tKn t j)
def tieOk (so : Nat → Int) (sl : Nat → List Int) (t : Tn) (s x y : Int) : Prop := ((0 ≤ s ∧ s < 4) ∧ (0 ≤ x ∧ x < (tMany t : Int)) ∧ (0 ≤ y ∧ y < 6)) ∧ hearc (so s.toNat) (sl s.toNat) = 0
def tieW (sl : Nat → List Int) (t : Tn) (s x : Int) : List Int := tiel (tKind t x.toNat) (sl s.toNat)
def tieF (so : Nat → Int) (sl : Nat → List Int) (t : Tn) (s x y : Int) : Int := if 0 ≤ s ∧ s < 4 then (if 0 ≤ x ∧ x < (tMany t : Int) then (if 0 ≤ y ∧ y < 6 then (if hearc (so s.toNat) (sl s.toNat) = 0 then ((pul (redl (tieW sl t s x))).length : Int) else hearc (so s.toNat) (sl s.toNat)) else -2) else -2) else -2
def tieS (so : Nat → Int) (sl : Nat → List Int) (t : Tn) (s x y : Int) : Tn := if 0 ≤ s ∧ s < 4 then (if 0 ≤ x ∧ x < (tMany t : Int) then (if 0 ≤ y ∧ y < 6 then (if hearc (so s.toNat) (sl s.toNat) = 0 then tTie t y.toNat x (tieW sl t s x) else t) else t) else t) else t
/-- what a change of the town now keeps -/
def FrT (M M' : dM) : Prop := ∀ x k : Int, scr x k = false → ¬ (1 ≤ x ∧ x ≤ 19) → M' x k = M x k
theorem Fr.t {M M' : dM} (h : Fr M M') : FrT M M' := fun x k g _ => h x k g
theorem FrT.tr {M M1 M2 : dM} (h1 : FrT M M1) (h2 : FrT M1 M2) : FrT M M2 := fun x k g q => (h2 x k g q).trans (h1 x k g q)
theorem cT_tie {M M2 : dM} {t : Tn} (ht : cT M 1 t) {f : Nat} (hf : f < 6) {w : List Int} (h2 : WF (1 + 7 + 2 * (f : Int)) 1 (1 + 7 + 2 * (f : Int) + 1) M M2) (h3 : KV (1 + 7 + 2 * (f : Int)) 1 (1 + 7 + 2 * (f : Int) + 1) M2 w) (l : Int) : cT (d_up M2 (1 + 5) f l) 1 (tTie t f l w) := by
  have g : ∀ x k : Int, x ≤ 7 → M2 x k = M x k := fun x k hx => h2 x k (fun z => by omega) (by omega)
  refine ⟨⟨?_, ?_, ?_, ?_⟩, fun j hj => ?_, fun j hj => ?_⟩
  · rw [d_up_n1 _ (by decide), g _ _ (by decide)]; exact ht.1.1
  · rw [d_up_n1 _ (by decide), g _ _ (by decide)]; exact ht.1.2.1
  · rw [d_up_n1 _ (by decide), g _ _ (by decide)]; exact ht.1.2.2.1
  · rw [d_up_n1 _ (by decide), g _ _ (by decide)]; exact ht.1.2.2.2
  · have k := ht.2.1 j hj
    refine ⟨?_, ?_, ?_⟩
    · rw [d_up_n1 _ (by decide), g _ _ (by decide)]; exact k.1
    · rw [d_up_n1 _ (by decide), g _ _ (by decide)]; exact k.2.1
    · rw [d_up_n1 _ (by decide), g _ _ (by decide)]; exact k.2.2
  · have k := ht.2.2 j hj
    refine ⟨?_, ?_, ?_⟩
    · rw [d_up_n1 _ (by decide), g _ _ (by decide)]; exact k.1
    · show _ = if j = f then l else tBy t j
      by_cases q : j = f
      · rw [if_pos q, q, d_up_at]
      · rw [if_neg q, d_up_n2 _ (by omega), g _ _ (by decide)]; exact k.2.1
    · show KV _ _ _ _ (if j = f then w else tKn t j)
      by_cases q : j = f
      · rw [if_pos q, q]
        exact h3.up (d_up_n1 _ (by omega)) fun _ _ _ => d_up_n1 _ (by omega)
      · rw [if_neg q]
        refine k.2.2.up ?_ fun i _ _ => ?_
        · rw [d_up_n1 _ (by omega)]
          exact h2 _ _ (fun z => by omega) (by omega)
        · rw [d_up_n1 _ (by omega)]
          exact h2 _ _ (fun z => by omega) (by omega)
theorem Sk_by {M : dM} (hs : Sk M) (f : Nat) (l : Int) : Sk (d_up M (1 + 5) f l) := Sk_of hs fun x k hq => d_up_n1 M (fun z => by
  rw [z, isRf_cell (by decide +kernel)] at hq
  cases hq)
theorem tie_c {sc : dS} {d : Nat} {M : dM} (hs : Sk M) {t : Tn} (ht : cT M 1 t) (hok : okT t) {so : Nat → Int} {sl : Nat → List Int} (hc : ∀ n, n < 4 → cS M n (so n) (sl n)) (s x y : Int) : ∃ M' : dM, vc sc (d + 5) 68 [(2, 0), (0, s), (0, x), (0, y)] (K0, M) = some ([(0, tieF so sl t s x y)], (K0, M')) ∧ Sk M' ∧ cT M' 1 (tieS so sl t s x y) ∧ FrT M M' := by
  rw [vc_s (md := m_X6_tie) (L := [(2, 0), (0, s), (0, x), (0, y), (3, 0)]) rfl (Nat.le_of_ble_eq_true rfl) rfl]
  show ∃ M', vr sc (d + 4) c_X6_tie (0, [(2, 0), (0, s), (0, x), (0, y), (3, 0)], [], (K0, M)) = _ ∧ _
  rw [e_X6_tie_0, isSheet_ok, Option.bind_some]
  show ∃ M', vr sc (d + 4) c_X6_tie (4, [(2, 0), (0, s), (0, x), (0, y), (3, 0)], [(0, _)], (K0, M)) = _ ∧ _
  rw [e_X6_tie_4]
  unfold tieF tieS
  by_cases p : ¬ (0 ≤ s ∧ s < 4)
  · rw [bi_f p, if_pos rfl, if_neg p, if_neg p]
    exact ⟨M, rfl, hs, ht, (Fr.rf _).t⟩
  have p := Classical.not_not.mp p
  rw [bi_t p, if_neg (by decide), if_pos p, if_pos p, if_pos (show og K0 6 0 0 = true from rfl), (Sk_00 hs).1, if_pos (rg_tn isT_1), hasLad_ok isT_1, Option.bind_some, ht.1.2.2.2]
  show ∃ M', vr sc (d + 4) c_X6_tie (15, [(2, 0), (0, s), (0, x), (0, y), (3, 0)], [(0, _)], (K0, M)) = _ ∧ _
  rw [e_X6_tie_15]
  by_cases q : ¬ (0 ≤ x ∧ x < (tMany t : Int))
  · rw [bi_f q, if_pos rfl, if_neg q, if_neg q]
    exact ⟨M, rfl, hs, ht, (Fr.rf _).t⟩
  have q := Classical.not_not.mp q
  rw [bi_t q, if_neg (by decide), if_pos q, if_pos q, isFoot_ok, Option.bind_some]
  show ∃ M', vr sc (d + 4) c_X6_tie (22, [(2, 0), (0, s), (0, x), (0, y), (3, 0)], [(0, _)], (K0, M)) = _ ∧ _
  rw [e_X6_tie_22]
  by_cases r : ¬ (0 ≤ y ∧ y < 6)
  · rw [bi_f r, if_neg (fun z => z rfl), if_neg r, if_neg r]
    exact ⟨M, rfl, hs, ht, (Fr.rf _).t⟩
  have r := Classical.not_not.mp r
  obtain ⟨n, rfl⟩ : ∃ n : Nat, s = n := ⟨s.toNat, by omega⟩
  obtain ⟨k, rfl⟩ : ∃ n : Nat, x = n := ⟨x.toNat, by omega⟩
  obtain ⟨f, rfl⟩ : ∃ n : Nat, y = n := ⟨y.toNat, by omega⟩
  have hn : n < 4 := by omega
  have hf : f < 6 := by omega
  have hk5 : k < 5 := by have := hok.1.2.2.2.2.2; omega
  have hcn := hc n hn
  unfold tieW
  rw [show ((n : Nat) : Int).toNat = n from rfl, show ((k : Nat) : Int).toNat = k from rfl, show ((f : Nat) : Int).toNat = f from rfl]
  generalize so n = o at hcn ⊢
  generalize sl n = l at hcn ⊢
  obtain ⟨M1, a1, a2, a3⟩ := hear_ok (sc := sc) (d := d + 2) hs hn hcn
  have hs1 := a2.s91.sk hs
  have ht1 := ht.fr (Or.inl rfl) a2.s91
  rw [bi_t r, if_pos (by decide), if_pos (show rg K0 6 0 = true from rfl), a1, Option.bind_some, if_pos r, if_pos r]
  show ∃ M', vr sc (d + 4) c_X6_tie (33, [(2, 0), (0, (n : Int)), (0, (k : Int)), (0, (f : Int)), (3, 0)], [(0, _)], (K0, M1)) = _ ∧ _
  rw [e_X6_tie_33]
  by_cases hh : ¬ hearc o l = 0
  · rw [if_neg hh, if_neg hh, if_neg hh]
    exact ⟨M1, rfl, hs1, ht1, a2.s91.t⟩
  have hh := Classical.not_not.mp hh
  have hl := (hearc_0 hh).2.1
  have hk := a3 hh
  have kf := isT_kn isT_1 hf
  obtain ⟨M2, b1, b2, b3⟩ := becomeTied_ok (sc := sc) (d := d + 1) kf isK_91 (tKind t k) hs1 hl hk
  have hs2 := b2.sk (Wok_kn kf) hs1
  have ht3 := cT_tie ht1 hf b2 b3 (k : Int)
  have hs3 := Sk_by hs2 f (k : Int)
  have k3 : KV (1 + 7 + 2 * (f : Int)) 1 (1 + 7 + 2 * (f : Int) + 1) (d_up M2 (1 + 5) f (k : Int)) (tiel (tKind t k) l) := b3.up (d_up_n1 _ (by omega)) fun _ _ _ => d_up_n1 _ (by omega)
  obtain ⟨M4, c1, c2⟩ := turns_ok (sc := sc) (d := d) kf hs3 (tiel_len hl) k3
  have f3 : FrT M1 (d_up M2 (1 + 5) f (k : Int)) := fun x j _ h => (d_up_n1 _ (by omega)).trans (b2 x j (fun z => by omega) (by omega))
  rw [if_pos hh, if_pos hh, if_pos hh, hh, if_pos (show og K0 6 0 0 = true from rfl), (Sk_00 hs1).1, Sk_07 hs1, if_pos (og_tn isT_1 (by decide)), (Sk_T hs1 isT_1).2.2.2.2.2, if_pos (ag_t6 isT_1 (by omega) (by omega)), if_pos (show og K0 6 0 0 = true from rfl), if_pos (og_tn isT_1 (by decide)), (Sk_T hs1 isT_1).1, if_pos (ag_t1 isT_1 (by omega) (by omega)), if_pos (show og K0 6 0 7 = true from rfl), Sk_Tk hs1 isT_1 hf, if_pos (rg_kn kf), (ht1.2.1 k hk5).1, b1, Option.bind_some]
  show ∃ M', vr sc (d + 4) c_X6_tie (68, [(2, 0), (0, (n : Int)), (0, (k : Int)), (0, (f : Int)), (0, 0)], [], (K0, M2)) = _ ∧ _
  rw [e_X6_tie_68, if_pos (show og K0 6 0 0 = true from rfl), (Sk_00 hs2).1, if_pos (og_tn isT_1 (by decide)), (Sk_T hs2 isT_1).2.2.2.2.1, if_pos (ag_t5 isT_1 (by omega) (by omega)), if_pos (show og K0 6 0 4 = true from rfl), if_pos (show og K0 6 0 0 = true from rfl), (Sk_00 hs3).1, Sk_04 hs3, if_pos (og_tn isT_1 (by decide)), (Sk_T hs3 isT_1).2.2.2.2.2, if_pos (ag_t6 isT_1 (by omega) (by omega)), if_pos (show rg K0 2 58 = true from rfl), Sk_Tk hs3 isT_1 hf, c1, Option.bind_some]
  show ∃ M', vr sc (d + 4) c_X6_tie (94, [(2, 0), (0, (n : Int)), (0, (k : Int)), (0, (f : Int)), (0, 0)], [(0, _)], (K0, M4)) = _ ∧ _
  rw [e_X6_tie_94]
  exact ⟨M4, rfl, c2.s62.sk hs3, ht3.fr (Or.inl rfl) c2.s62, (a2.s91.t.tr f3).tr c2.s62.t⟩
