/-! force, on both sides -/
def forceF (known : Nat) (t : Tn) (x : Int) : Int := if 0 ≤ x ∧ x < (known : Int) then tRule t else -2
def tSetRule (t : Tn) (x : Int) : Tn := ((tDay t, tWet t, x, tMany t), t.2)
def forceS (known : Nat) (t : Tn) (x : Int) : Tn := if 0 ≤ x ∧ x < (known : Int) then tSetRule t x else t
theorem Sk_1 {M : dM} (hs : Sk M) {k v : Int} (h : isRf 1 k = false) : Sk (d_up M 1 k v) := Sk_of hs fun x j hq => by
  unfold d_up
  rw [if_neg (fun z => by rw [z.1, z.2, h] at hq; cases hq)]
theorem force_c {sc : dS} {d : Nat} {M : dM} (hs : Sk M) {t : Tn} (ht : cT M 1 t) {known : Nat} (hk6 : known ≤ 6) (hk : M 58 1 = known) (x : Int) : ∃ M' : dM, vc sc (d + 1) 67 [(2, 0), (0, x)] (K0, M) = some ([(0, forceF known t x)], (K0, M')) ∧ Sk M' ∧ cT M' 1 (forceS known t x) ∧ FrT M M' := by
  rw [vc_s (md := m_X6_force) (L := [(2, 0), (0, x), (3, 0)]) rfl (Nat.le_of_ble_eq_true rfl) rfl]
  show ∃ M', vr sc d c_X6_force (0, [(2, 0), (0, x), (3, 0)], [], (K0, M)) = _ ∧ _
  rw [e_X6_force_0]
  unfold forceF forceS
  by_cases p : x < 0
  · rw [if_pos p, if_neg (by omega), if_neg (by omega)]
    exact ⟨M, rfl, hs, ht, (Fr.rf _).t⟩
  rw [if_neg p, if_pos (show og K0 6 0 4 = true from rfl), Sk_04 hs, if_pos (show og K0 2 58 1 = true from rfl), hk]
  by_cases q : ¬ x < (known : Int)
  · rw [if_neg q, if_neg (by omega), if_neg (by omega)]
    exact ⟨M, rfl, hs, ht, (Fr.rf _).t⟩
  have q := Classical.not_not.mp q
  rw [if_pos q, if_pos (show og K0 6 0 0 = true from rfl), (Sk_00 hs).1, if_pos (og_tn isT_1 (by decide)), if_pos (show og K0 6 0 0 = true from rfl), if_pos (og_tn isT_1 (by decide)), if_pos ⟨by omega, by omega⟩, if_pos ⟨by omega, q⟩, if_pos ⟨by omega, q⟩, ht.1.2.2.1]
  refine ⟨_, rfl, Sk_1 hs (by decide +kernel), ⟨⟨?_, ?_, ?_, ?_⟩, fun j hj => ?_, fun j hj => ?_⟩, fun a k _ h => d_up_n1 _ (by omega)⟩
  · rw [d_up_n2 _ (by decide)]; exact ht.1.1
  · rw [d_up_n2 _ (by decide)]; exact ht.1.2.1
  · rw [d_up_at]; rfl
  · rw [d_up_n2 _ (by decide)]; exact ht.1.2.2.2
  · have k := ht.2.1 j hj
    refine ⟨?_, ?_, ?_⟩
    · rw [d_up_n1 _ (by decide)]; exact k.1
    · rw [d_up_n1 _ (by decide)]; exact k.2.1
    · rw [d_up_n1 _ (by decide)]; exact k.2.2
  · have k := ht.2.2 j hj
    refine ⟨?_, ?_, ?_⟩
    · rw [d_up_n1 _ (by decide)]; exact k.1
    · rw [d_up_n1 _ (by decide)]; exact k.2.1
    · exact k.2.2.up (d_up_n1 _ (by omega)) fun _ _ _ => d_up_n1 _ (by omega)
theorem Sk_107 {M : dM} (hs : Sk M) {k v : Int} (h : isRf 107 k = false) : Sk (d_up M 107 k v) := Sk_of hs fun x j hq => by
  unfold d_up
  rw [if_neg (fun z => by rw [z.1, z.2, h] at hq; cases hq)]
theorem force_r {sc : dS} {d : Nat} {M : dM} (hs : Sk M) {t : Tn} (ht : rT M t) {known : Nat} (hk6 : known ≤ 6) (hk : M 107 3 = known) (x : Int) : ∃ M' : dM, vc sc (d + 2) 144 [(2, 107), (0, x)] (K0, M) = some ([(0, forceF known t x)], (K0, M')) ∧ Sk M' ∧ rT M' (forceS known t x) ∧ ∀ a k : Int, ¬ (a = 107 ∧ k = 4) → M' a k = M a k := by
  rw [vc_s (md := m_X7_force) (L := [(2, 107), (0, x), (3, 0)]) rfl (Nat.le_of_ble_eq_true rfl) rfl]
  show ∃ M', vr sc (d + 1) c_X7_force (0, [(2, 107), (0, x), (3, 0)], [], (K0, M)) = _ ∧ _
  have w : w32 ((known : Int) - 1) = (known : Int) - 1 := w32_e rfl (by omega) (by omega)
  rw [e_X7_force_0, if_pos (show og K0 7 107 3 = true from rfl), hk, w, in_ok, Option.bind_some]
  clear w
  show ∃ M', vr sc (d + 1) c_X7_force (13, [(2, 107), (0, x), (3, 0)], [(0, _)], (K0, M)) = _ ∧ _
  rw [e_X7_force_13]
  unfold forceF forceS
  by_cases p : ¬ (0 ≤ x ∧ x < (known : Int))
  · rw [bi_f (show ¬ (0 ≤ x ∧ x ≤ (known : Int) - 1) by omega), if_neg (fun z => z rfl), if_neg p, if_neg p]
    exact ⟨M, rfl, hs, ht, fun _ _ _ => rfl⟩
  have p := Classical.not_not.mp p
  rw [bi_t (show 0 ≤ x ∧ x ≤ (known : Int) - 1 by omega), if_pos (by decide), if_pos (show og K0 7 107 4 = true from rfl), if_pos (show og K0 7 107 4 = true from rfl), if_pos ⟨by omega, by omega⟩, if_pos p, if_pos p, ht.1.2.2.1]
  refine ⟨_, rfl, Sk_107 hs (by decide +kernel), ⟨⟨?_, ?_, ?_, ?_⟩, fun j hj => ?_, fun j hj => ?_⟩, fun a k h => by unfold d_up; rw [if_neg h]⟩
  · rw [d_up_n2 _ (by decide)]; exact ht.1.1
  · rw [d_up_n2 _ (by decide)]; exact ht.1.2.1
  · rw [d_up_at]; rfl
  · rw [d_up_n2 _ (by decide)]; exact ht.1.2.2.2
  · have k := ht.2.1 j hj
    refine ⟨?_, ?_, ?_⟩
    · rw [d_up_n1 _ (by decide)]; exact k.1
    · rw [d_up_n1 _ (by decide)]; exact k.2.1
    · rw [d_up_n1 _ (by decide)]; exact k.2.2
  · have k := ht.2.2 j hj
    refine ⟨?_, ?_, ?_, fun i hi => ?_⟩
    · rw [d_up_n1 _ (by decide)]; exact k.1
    · rw [d_up_n1 _ (by decide)]; exact k.2.1
    · rw [d_up_n1 _ (by decide)]; exact k.2.2.1
    · rw [d_up_n1 _ (by decide)]; exact k.2.2.2 i hi
