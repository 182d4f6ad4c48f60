section VL2
variable {sc : dS} {d : Nat} {code : Nat → Option dI} {pc len : Nat} {L st : List dV}
theorem v_str {k n : Nat} {r : Int} {av : List dV} {h : dH} (hc : code pc = some (28, len, (k : Int), (n : Int), [(-1, 0)])) (h1 : n ≤ st.length) (h2 : d_cat (st.drop n) ≤ 8) (h3 : (st.take n).reverse = (2, r) :: av) : vr sc d code (pc, L, st, h) = if r = 1000002 ∨ r = 1000003 then (vc sc d k ((2, r) :: av) h).bind (fun r => vr sc d code (pc + len, L, r.1 ++ st.drop n, r.2)) else none := by
  have e1 : d_rcv h [(-1, 0)] (st.take n).reverse = true ↔ (r = 1000002 ∨ r = 1000003) := by
    rw [h3]
    show ((2 == 2) && (if (-1 : Int) = -1 then (r == 1000002 || r == 1000003) else (match d_cell h r with | some c => decide ((c.1 : Int) = -1) | none => false))) = true ↔ _
    rw [if_pos rfl]
    simp
  by_cases hg : r = 1000002 ∨ r = 1000003
  · rw [if_pos hg, ← h3]
    exact vr_call hc h1 h2 (e1.mpr hg)
  · rw [if_neg hg]
    apply vr_none
    intro m q hm
    match m, hm with
    | m + 1, hm =>
      rw [vr_run1 (x := (pc, L, st, h)) hc (Nat.ne_of_beq_eq_false rfl)] at hm
      have e : d_step sc (d_call d_P sc (m + 1) d) (28, len, (k : Int), (n : Int), [(-1, 0)]) (pc, L, st, h) = none := by
        show (if n ≤ st.length ∧ d_cat (st.drop n) ≤ 8 ∧ d_rcv h [(-1, 0)] (st.take n).reverse = true then _ else none) = none
        exact if_neg (fun z => hg (e1.mp z.2.2))
      rw [e] at hm
      cases hm
end VL2
