/-! what is tied is of crossings again; the town stays in its ranges -/
theorem sw1_mem : ∀ x ∈ CL4, sw1 x ∈ CL4 := by decide +kernel
theorem map_mem {l : List Int} (h : ∀ y ∈ l, y ∈ CL4) : ∀ y ∈ l.map sw1, y ∈ CL4 := fun y hy => by
  obtain ⟨x, hx, e⟩ := List.mem_map.mp hy
  rw [← e]
  exact sw1_mem x (h x hx)
theorem drop_mem {l : List Int} (h : ∀ y ∈ l, y ∈ CL4) : ∀ y ∈ l.dropLast, y ∈ CL4 := fun y hy => h y ((List.dropLast_sublist l).subset hy)
theorem rep1_mem {l : List Int} (h : ∀ y ∈ l, y ∈ CL4) : ∀ y ∈ rep1 l, y ∈ CL4 := by
  cases l with
  | nil => exact h
  | cons x t =>
    intro y hy
    rcases List.mem_append.mp hy with q | q
    · exact h y q
    · rw [List.mem_singleton.mp q]; exact h x List.mem_cons_self
theorem tiel_mem {k : Int} {l : List Int} (h : ∀ y ∈ l, y ∈ CL4) : ∀ y ∈ tiel k l, y ∈ CL4 := by
  unfold tiel
  split
  · exact map_mem h
  split
  · exact drop_mem h
  split
  · exact fun y hy => map_mem h y (List.mem_reverse.mp hy)
  split
  · exact rep1_mem (drop_mem h)
  split
  · exact redl_mem h
  · exact h
theorem okT_tie {t : Tn} (hok : okT t) {f : Nat} {l : Int} {w : List Int} (h0 : -1 ≤ l) (h1 : l < (tMany t : Int)) (hw : w.length ≤ 12) (hm : ∀ y ∈ w, y ∈ CL4) : okT (tTie t f l w) := by
  refine ⟨hok.1, hok.2.1, fun j hj => ?_⟩
  have k := hok.2.2 j hj
  refine ⟨k.1, k.2.1, ?_⟩
  show -1 ≤ (if j = f then l else tBy t j) ∧ (if j = f then l else tBy t j) < (tMany t : Int) ∧ (if j = f then w else tKn t j).length ≤ 12 ∧ ∀ y ∈ (if j = f then w else tKn t j), y ∈ CL4
  by_cases q : j = f
  · rw [if_pos q, if_pos q]; exact ⟨h0, h1, hw, hm⟩
  · rw [if_neg q, if_neg q]; exact k.2.2
theorem okT_tieS {so : Nat → Int} {sl : Nat → List Int} {t : Tn} (hok : okT t) (s x y : Int) : okT (tieS so sl t s x y) := by
  unfold tieS
  split
  · split
    · next hx =>
      split
      · split
        · next hh =>
          have h0 := hearc_0 hh
          exact okT_tie hok (by omega) hx.2 (tiel_len h0.2.1) (tiel_mem h0.2.2)
        · exact hok
      · exact hok
    · exact hok
  · exact hok
