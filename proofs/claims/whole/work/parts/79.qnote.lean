section
variable {X : Nat × (Nat → Int32)} {d : Nat} {al : List Nat} {D : Nat → Bool} {I : Nat → Nat → Int32} {L : Nat → Nat → Int64}
theorem q_note {m : Nat → Nat} (s k w : Int32) (g : rG I m) (r : RL I m) : Cl X (d + 2) 115 [vr 1, vi s, vi k, vi w] (pm_mm al D I L) = some (some (vi (vNote I m s k w)), pm_mm al D I L) := by
  rw [Cl_s]
  show Rn X (d + 1) co_Ch_note (0, [some (vr 1), some (vi s), some (vi k), some (vi w), none], [], pm_mm al D I L) = _
  have m1 := (g.1 1 (by omega)).1
  have h1 : Cl X (d + 1) 93 [vr 2, vi 1, vi s] (pm_mm al D I L) = _ := k_has (s := 1) (m := m 1) s (by omega) m1 ((r.1 1 (by omega)).trans (g.1 1 (by omega)).2)
  rw [sg_Ch_note_x_0, h1, vNote]
  simp only [Option.bind_some, pm_ai]
  cases h : pm_in s (m 1) with
  | false => exact sg_Ch_note_x0_9 ..
  | true =>
    obtain ⟨q, hq, e⟩ := in_nat h
    have s9 : Rn X (d + 1) co_Ch_note (9, [some (vr 1), some (vi s), some (vi k), some (vi w), none], [vi 1], pm_mm al D I L) = cond (decide (k = (-1))) (cond (decide (w = 0)) (some (some (vi (I (19 + 4 * q) 0)), pm_mm al D I L)) (some (some (vi (-2)), pm_mm al D I L))) (cond (decide (k < 0)) (some (some (vi (-2)), pm_mm al D I L)) (cond (decide (k < (I (19 + 4 * q) 0))) (cond (decide (w = 0)) (cond (pm_in k 8) (some (some (vi (I (19 + 4 * q + 1) k.toNatClampNeg)), pm_mm al D I L)) none) (cond (decide (w = 1)) (cond (pm_in k 8) (some (some (vi (I (19 + 4 * q + 2) k.toNatClampNeg)), pm_mm al D I L)) none) (cond (decide (w = 2)) (cond (pm_in k 8) (some (some (vi (I (19 + 4 * q + 3) k.toNatClampNeg)), pm_mm al D I L)) none) (some (some (vi (-2)), pm_mm al D I L))))) (some (some (vi (-2)), pm_mm al D I L)))) := by
      rw [e]
      rcases two (show q < 2 by omega) with rfl | rfl
      · refine (sg_Ch_note_0_9 ..).trans ?_
        simp only [sg_Ch_note_0_45, sg_Ch_note_0_59]; rfl
      · refine (sg_Ch_note_1_9 ..).trans ?_
        simp only [sg_Ch_note_1_45, sg_Ch_note_1_59]; rfl
    obtain ⟨⟨g1, g2⟩, g3, g4⟩ := g.2.2.1 q hq
    have g1 : (I 88 (25 * q)).toNatClampNeg ≤ 8 := g1
    obtain ⟨r1, r2⟩ := r.2.2.1 q hq
    have etn : s.toNatClampNeg = q := by rw [e, n_tn (by omega)]
    have hk : pm_in k (I 88 (25 * q)).toNatClampNeg = (!decide (k < 0) && decide (k < I 88 (25 * q))) := by
      have := in_two (k := k) (n := (I 88 (25 * q)).toNatClampNeg) (by omega)
      rwa [← n_of g3] at this
    refine Eq.trans s9 ?_
    rw [r1, etn, hk]
    simp only [cond_true]
    cases decide (k = -1) with
    | true => cases decide (w = 0) <;> rfl
    | false =>
      simp only [cond_false]
      cases h1 : decide (k < 0) with
      | true => rfl
      | false =>
        cases h2 : decide (k < I 88 (25 * q)) with
        | false => rfl
        | true =>
          have hk' : pm_in k (I 88 (25 * q)).toNatClampNeg = true := by rw [hk, h1, h2]; rfl
          obtain ⟨k', hk2, ek⟩ := in_nat hk'
          obtain ⟨c1, c2, c3⟩ := r2 k' hk2
          have k8 : pm_in k 8 = true := by rw [ek, n_in (by omega), decide_eq_true (by omega)]
          have ktn : k.toNatClampNeg = k' := by rw [ek, n_tn (by omega)]
          rw [k8, ktn, c1, c2, c3]
          simp only [cond_true, cond_false, Bool.not_false, Bool.true_and]
          cases hw : pm_in w 3 with
          | true =>
            obtain ⟨w', hw', ew⟩ := in_nat hw
            have : w' = 0 ∨ w' = 1 ∨ w' = 2 := by omega
            rcases this with rfl | rfl | rfl <;> subst ew <;> rfl
          | false =>
            have n0 : decide (w = 0) = false := decide_eq_false (fun c => by subst c; revert hw; decide)
            have n1 : decide (w = 1) = false := decide_eq_false (fun c => by subst c; revert hw; decide)
            have n2 : decide (w = 2) = false := decide_eq_false (fun c => by subst c; revert hw; decide)
            rw [n0, n1, n2]; rfl
end
