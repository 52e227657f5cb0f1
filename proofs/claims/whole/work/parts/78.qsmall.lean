section
variable {X : Nat × (Nat → Int32)} {d : Nat} {al : List Nat} {D : Nat → Bool} {I : Nat → Nat → Int32} {L : Nat → Nat → Int64}
theorem in_two {k : Int32} {n : Nat} (hn : n < 2147483648) : pm_in k n = (!decide (k < 0) && decide (k < Int32.ofNat n)) := by
  have h0 : (0 : Int32).toInt = 0 := rfl
  have h1 := n_ti hn
  rw [Bool.eq_iff_iff, in_iff, Bool.and_eq_true, Bool.not_eq_true', decide_eq_false_iff_not, decide_eq_true_iff, t_lt, t_lt]; omega
theorem q_fault {m : Nat → Nat} (what : Int32) (r : RL I m) : Cl X (d + 1) 109 [vr 1, vi what] (pm_mm al D I L) = some (some (vi (vFault I what)), pm_mm al D I L) := by
  rw [Cl_s]
  show Rn X d co_Ch_fault (0, [some (vr 1), some (vi what)], [], pm_mm al D I L) = _
  rw [sg_Ch_fault_0, vFault, r.2.2.2.2.2.2.2.1, r.2.2.2.2.2.2.2.2]
  cases decide (what = 0) <;> cases decide (what = 1) <;> rfl
theorem q_count {m : Nat → Nat} (sort : Int32) (r : RL I m) : Cl X (d + 1) 110 [vr 1, vi sort] (pm_mm al D I L) = some (some (vi (vCount I sort)), pm_mm al D I L) := by
  rw [Cl_s]
  show Rn X d co_Ch_count (0, [some (vr 1), some (vi sort)], [], pm_mm al D I L) = _
  have h4 : pm_in sort 4 = (!decide (sort < 0) && decide (sort < 4)) := in_two (n := 4) (by omega)
  rw [sg_Ch_count_0, vCount]
  simp only [sg_Ch_count_9]
  cases h : pm_in sort 4 with
  | false =>
    rw [h] at h4
    cases h1 : decide (sort < 0) <;> cases h2 : decide (sort < 4) <;> rw [h1, h2] at h4 <;> first | rfl | cases h4
  | true =>
    obtain ⟨q, hq, e⟩ := in_nat h
    rw [h] at h4
    have e4 : I 4 sort.toNatClampNeg = I 86 sort.toNatClampNeg := by rw [e, n_tn (by omega)]; exact r.1 q hq
    cases h1 : decide (sort < 0) <;> cases h2 : decide (sort < 4) <;> rw [h1, h2] at h4 <;> first | (rw [e4]; rfl) | cases h4
theorem q_treads {m : Nat → Nat} (u : Int32) (g : rG I m) (r : RL I m) : Cl X (d + 2) 116 [vr 1, vi u] (pm_mm al D I L) = some (some (vi (vTreads I m u)), pm_mm al D I L) := by
  rw [Cl_s]
  show Rn X (d + 1) co_Ch_treads (0, [some (vr 1), some (vi u)], [], pm_mm al D I L) = _
  have m2 := (g.1 2 (by omega)).1
  have h2 : Cl X (d + 1) 93 [vr 2, vi 2, vi u] (pm_mm al D I L) = _ := k_has (s := 2) (m := m 2) u (by omega) m2 ((r.1 2 (by omega)).trans (g.1 2 (by omega)).2)
  rw [sg_Ch_treads_0, h2, vTreads]
  simp only [Option.bind_some, pm_ai, sg_Ch_treads_9, b01_ne, sg_Ch_treads_25]
  cases h : pm_in u (m 2) with
  | false => rfl
  | true =>
    obtain ⟨q, hq, e⟩ := in_nat h
    have e7 : I 7 u.toNatClampNeg = I 89 u.toNatClampNeg := by rw [e, n_tn (by omega)]; exact r.2.2.2.1 q hq
    have i2 : pm_in u 2 = true := by rw [e, n_in (by omega), decide_eq_true (by omega)]
    rw [i2, e7]; rfl
theorem q_end {m : Nat → Nat} (n : Int32) (r : RL I m) : Cl X (d + 1) 107 [vr 1, vi n] (pm_mm al D I L) = some (some (vi (cond (vEnd I n) n (-1))), pm_mm al D (cond (vEnd I n) (pm_up I 2 1 n) I) L) := by
  rw [Cl_s]
  show Rn X d co_Ch_end (0, [some (vr 1), some (vi n)], [], pm_mm al D I L) = _
  rw [sg_Ch_end_0, vEnd, r.2.2.2.2.2.2.1]
  simp only [sg_Ch_end_15]
  by_cases h1 : n < 0
  · have h : ¬ (0 ≤ n ∧ n ≤ I 83 0) := fun h => Int32.not_lt.mpr h.1 h1
    rw [decide_eq_true h1, decide_eq_false h]; rfl
  · by_cases h2 : n ≤ I 83 0
    · have h : 0 ≤ n ∧ n ≤ I 83 0 := ⟨Int32.not_lt.mp h1, h2⟩
      rw [decide_eq_false h1, decide_eq_true h2, decide_eq_true h]; rfl
    · have h : ¬ (0 ≤ n ∧ n ≤ I 83 0) := fun h => h2 h.2
      rw [decide_eq_false h1, decide_eq_false h2, decide_eq_false h]; rfl
end
