/-! best, class side: the table -/
theorem or_tb : ∀ u ∈ List.range 64, ∀ f ∈ List.range 6, (frB u f = true → i_or ((u : Nat) : Int) (i_shl 1 ((f : Nat) : Int)) = ((u + 2 ^ f : Nat) : Int)) ∧ (i_and ((u : Nat) : Int) (i_shl 1 ((f : Nat) : Int)) = 0 ↔ frB u f = true) ∧ (i_and (i_shr ((u : Nat) : Int) ((f : Nat) : Int)) 1 = 0 ↔ frB u f = true) := by decide +kernel
theorem or_u {u f : Nat} (hu : u < 64) (hf : f < 6) (h : frB u f = true) : i_or (u : Int) (i_shl 1 (f : Int)) = ((u + 2 ^ f : Nat) : Int) := (or_tb u (List.mem_range.mpr hu) f (List.mem_range.mpr hf)).1 h
theorem and_u {u f : Nat} (hu : u < 64) (hf : f < 6) : i_and (u : Int) (i_shl 1 (f : Int)) = 0 ↔ frB u f = true := (or_tb u (List.mem_range.mpr hu) f (List.mem_range.mpr hf)).2.1
theorem shr_u {u f : Nat} (hu : u < 64) (hf : f < 6) : i_and (i_shr (u : Int) (f : Int)) 1 = 0 ↔ frB u f = true := (or_tb u (List.mem_range.mpr hu) f (List.mem_range.mpr hf)).2.2
theorem kn_98 : lg_ K0 98 = true ∧ kn K0 98 = 64 := by decide +kernel
/-- what the table says from some place on -/
def mpS (G : Nat → Nat → Nat) (m n : Nat) (M : dM) : Prop := ∀ u : Nat, n ≤ u → u < 64 → M 98 (u : Int) = ((wv G m (m - popc u) u : Nat) : Int)
def gpS (xs : List (List Int)) (t : Tn) (w : List Int) (M : dM) : Prop := ∀ l : Nat, l < tMany t → M 97 (l : Int) = pset (gdB xs t w l) 6
theorem pass_ok {sc : dS} {d : Nat} {M : dM} (hs : Sk M) {t : Tn} (hok : okT t) {xs : List (List Int)} {w : List Int} (hg : gpS xs t w M) {u f k n : Nat} (hu : u < 64) (hf : f < 6) (hb : frB u f = true) (hk : popc u + (k + 1) = tMany t) (hm : mpS (gdN xs t w) (tMany t) n M) (hn : n ≤ u + 1) : vc sc (d + 2) 81 [(2, 0), (0, (u : Int)), (0, (f : Int))] (K0, M) = some ([(0, ((Wf (gdN xs t w) (tMany t) k u f : Nat) : Int))], (K0, M)) := by
  have o5 := hok.1.2.2.2.2.2
  have nx := fr_nx hu hf hb
  have ou := or_u hu hf hb
  have p2 : 1 ≤ 2 ^ f := Nat.one_le_two_pow
  have hmv := hm (u + 2 ^ f) (by omega) nx.1
  rw [nx.2, show tMany t - (popc u + 1) = k by omega] at hmv
  have wl := wv_le (gdN xs t w) (tMany t) (gdN_le xs t w) k (u + 2 ^ f)
  rw [vc_s (md := m_X6_passWith) (L := [(2, 0), (0, (u : Int)), (0, (f : Int)), (3, 0), (3, 0)]) rfl (Nat.le_of_ble_eq_true rfl) rfl]
  show vr sc (d + 1) c_X6_passWith (0, [(2, 0), (0, (u : Int)), (0, (f : Int)), (3, 0), (3, 0)], [], (K0, M)) = _
  rw [e_X6_passWith_0, bitCount_ok hu, Option.bind_some]
  show vr sc (d + 1) c_X6_passWith (4, [(2, 0), (0, (u : Int)), (0, (f : Int)), (3, 0), (3, 0)], [(0, ((popc u : Nat) : Int))], (K0, M)) = _
  rw [e_X6_passWith_4, ou, if_neg (show ¬ (5 : Int) ≤ ((popc u : Nat) : Int) by omega), if_neg (by omega), if_pos (show og K0 6 0 11 = true from rfl), (Sk_10 hs).2, if_pos kn_98.1, kn_98.2, if_pos (by omega), if_pos (show og K0 6 0 10 = true from rfl), (Sk_10 hs).1, if_pos (ag_97 (by omega) (by omega)), if_pos (show og K0 6 0 11 = true from rfl), if_pos (ag_98 (by omega) (by omega)), hg (popc u) (by omega), pset_bit _ hf, hmv]
  have e : Wf (gdN xs t w) (tMany t) k u f = (if gdB xs t w (popc u) f = true then 1 else 0) + wv (gdN xs t w) (tMany t) k (u + 2 ^ f) := by
    unfold Wf
    rw [show tMany t - (k + 1) = popc u by omega]
    rfl
  rw [e]
  by_cases z : gdB xs t w (popc u) f = true
  · rw [if_pos z, if_pos z]
    exact congrArg (fun x => some ([((0 : Nat), x)], (K0, M))) (w32_e (by omega) (by omega) (by omega))
  · rw [if_neg z, if_neg z]
    exact congrArg (fun x => some ([((0 : Nat), x)], (K0, M))) (w32_e (by omega) (by omega) (by omega))
def enc (b : Nat) : Int := if b = 6 then -1 else (b : Int)
theorem fbf_ok {sc : dS} {d : Nat} {M : dM} (hs : Sk M) {t : Tn} (ht : cT M 1 t) (hok : okT t) {xs : List (List Int)} {w : List Int} (hg : gpS xs t w M) {u n : Nat} (hu : u < 64) (hm : mpS (gdN xs t w) (tMany t) n M) (hn : n ≤ u + 1) : vc sc (d + 3) 80 [(2, 0), (0, (u : Int))] (K0, M) = some ([(0, if popc u < tMany t then ((bf (Wf (gdN xs t w) (tMany t) (tMany t - popc u - 1) u) u 6 : Nat) : Int) else -1)], (K0, M)) := by
  have o5 := hok.1.2.2.2.2.2
  rw [vc_s (md := m_X6_firstBestFoot) (L := [(2, 0), (0, (u : Int)), (3, 0), (3, 0), (3, 0)]) rfl (Nat.le_of_ble_eq_true rfl) rfl]
  show vr sc (d + 2) c_X6_firstBestFoot (0, [(2, 0), (0, (u : Int)), (3, 0), (3, 0), (3, 0)], [], (K0, M)) = _
  rw [e_X6_firstBestFoot_0, bitCount_ok hu, Option.bind_some]
  show vr sc (d + 2) c_X6_firstBestFoot (4, [(2, 0), (0, (u : Int)), (3, 0), (3, 0), (3, 0)], [(0, ((popc u : Nat) : Int))], (K0, M)) = _
  rw [e_X6_firstBestFoot_4, if_pos (show og K0 6 0 0 = true from rfl), (Sk_00 hs).1, if_pos (og_tn isT_1 (by decide)), ht.1.2.2.2]
  by_cases p : ¬ popc u < tMany t
  · rw [if_neg (by omega), if_neg p]
  have p := Classical.not_not.mp p
  rw [if_pos (by omega), if_pos p]
  obtain ⟨k, hk⟩ : ∃ k : Nat, popc u + (k + 1) = tMany t := ⟨tMany t - popc u - 1, by omega⟩
  rw [show tMany t - popc u - 1 = k by omega]
  have key : ∀ (j i : Nat) (q : dV), 6 - i = j → i ≤ 6 → vr sc (d + 2) c_X6_firstBestFoot (20, [(2, 0), (0, (u : Int)), (0, enc (bf (Wf (gdN xs t w) (tMany t) k u) u i)), (0, (i : Int)), q], [], (K0, M)) = some ([(0, enc (bf (Wf (gdN xs t w) (tMany t) k u) u 6))], (K0, M)) := by
    intro j
    induction j with
    | zero =>
      intro i q hj hi
      have e : i = 6 := by omega
      subst e
      rw [e_X6_firstBestFoot_20, if_pos (by decide)]
    | succ j ih =>
      intro i q hj hi
      have hi6 : i < 6 := by omega
      have bl := bf_le (Wf (gdN xs t w) (tMany t) k u) u i hi
      have stp : enc (bf (Wf (gdN xs t w) (tMany t) k u) u (i + 1)) = enc (if frB u i = true ∧ (bf (Wf (gdN xs t w) (tMany t) k u) u i = 6 ∨ Wf (gdN xs t w) (tMany t) k u (bf (Wf (gdN xs t w) (tMany t) k u) u i) < Wf (gdN xs t w) (tMany t) k u i) then i else bf (Wf (gdN xs t w) (tMany t) k u) u i) := rfl
      have ni : enc i = (i : Int) := if_neg (by omega)
      have iha := ih (i + 1) (0, 0) (by omega) (by omega)
      have ihb := ih (i + 1) (0, 1) (by omega) (by omega)
      rw [stp] at iha ihb
      rw [e_X6_firstBestFoot_20, if_neg (by omega), w_s i (by omega)]
      by_cases z : frB u i = true
      · rw [if_neg (show ¬ ¬ i_and (u : Int) (i_shl 1 (i : Int)) = 0 from fun y => y ((and_u hu hi6).mpr z))]
        generalize bf (Wf (gdN xs t w) (tMany t) k u) u i = e at *
        by_cases q6 : e = 6
        · rw [if_pos (show enc e = -1 from if_pos q6)]
          rw [if_pos (show frB u i = true ∧ (e = 6 ∨ _) from ⟨z, Or.inl q6⟩), ni] at ihb
          exact ihb
        have be := bl.resolve_left q6
        have en : enc e = (e : Int) := if_neg q6
        rw [if_neg (show ¬ enc e = -1 by omega), if_pos (show rg K0 6 0 = true from rfl), pass_ok (d := d) hs hok hg hu hi6 z hk hm hn, Option.bind_some, en]
        show vr sc (d + 2) c_X6_firstBestFoot (57, [(2, 0), (0, (u : Int)), (0, (e : Int)), (0, (i : Int)), (0, 1)], [(0, ((Wf (gdN xs t w) (tMany t) k u i : Nat) : Int))], (K0, M)) = _
        rw [e_X6_firstBestFoot_57, if_pos (show rg K0 6 0 = true from rfl), pass_ok (d := d) hs hok hg hu (show e < 6 by omega) be.2 hk hm hn, Option.bind_some]
        show vr sc (d + 2) c_X6_firstBestFoot (63, [(2, 0), (0, (u : Int)), (0, (e : Int)), (0, (i : Int)), (0, 1)], [(0, ((Wf (gdN xs t w) (tMany t) k u e : Nat) : Int)), (0, ((Wf (gdN xs t w) (tMany t) k u i : Nat) : Int))], (K0, M)) = _
        rw [e_X6_firstBestFoot_63, w_s i (by omega)]
        by_cases r : Wf (gdN xs t w) (tMany t) k u e < Wf (gdN xs t w) (tMany t) k u i
        · rw [if_neg (by omega)]
          rw [if_pos (show frB u i = true ∧ (e = 6 ∨ Wf (gdN xs t w) (tMany t) k u e < Wf (gdN xs t w) (tMany t) k u i) from ⟨z, Or.inr r⟩), ni] at ihb
          exact ihb
        · rw [if_pos (by omega)]
          rw [if_neg (show ¬ (frB u i = true ∧ (e = 6 ∨ Wf (gdN xs t w) (tMany t) k u e < Wf (gdN xs t w) (tMany t) k u i)) from fun y => y.2.elim q6 r), en] at ihb
          exact ihb
      · rw [if_pos (fun y => z ((and_u hu hi6).mp y))]
        rw [if_neg (fun y => z y.1)] at iha
        exact iha
  have ex := fr_ex hu (by omega) (Wf (gdN xs t w) (tMany t) k u)
  have k6 := key 6 0 (3, 0) rfl (by omega)
  rw [show enc (bf (Wf (gdN xs t w) (tMany t) k u) u 6) = ((bf (Wf (gdN xs t w) (tMany t) k u) u 6 : Nat) : Int) from if_neg (by omega)] at k6
  exact k6
