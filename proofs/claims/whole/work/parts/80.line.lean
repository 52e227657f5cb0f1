section
variable {X : Nat × (Nat → Int32)} {d : Nat} {al : List Nat} {D : Nat → Bool} {I : Nat → Nat → Int32} {L : Nat → Nat → Int64}
theorem c_hasLog {m : Nat} (k : Int32) (hm : m ≤ 2) (e : I 86 3 = Int32.ofNat m) : Cl X (d + 3) 244 [vr 81, vi k] (pm_mm al D I L) = some (some (vi (b01 (pm_in k m))), pm_mm al D (pm_up I 81 51 k) L) := by
  rw [Cl_s]
  show Rn X (d + 2) co_Mo_hasLog (0, [some (vr 81), some (vi k)], [], pm_mm al D I L) = _
  have h1 : Cl X (d + 2) 172 [vr 81, vi 3, vi k] (pm_mm al D (pm_up I 81 51 k) L) = _ := c_is (s := 3) (m := m) k (by omega) (by omega) (by rw [pm_up, if_neg (by omega)]; exact e)
  simp only [sg_Mo_hasLog_0, h1, Option.bind_some, pm_ai, sg_Mo_hasLog_11, p01, cond_true]
theorem c_heardLines {s : Nat} (hs : s < 8) (e : I 81 51 = Int32.ofNat s) : Cl X (d + 1) 243 [vr 81] (pm_mm al D I L) = some (some (vi (I 90 (17 * s))), pm_mm al D I L) := by
  rw [Cl_s]
  show Rn X d co_Mo_heardLines (0, [some (vr 81)], [], pm_mm al D I L) = _
  have h : (17 : Int32) * I 81 51 = Int32.ofNat (17 * s) := by rw [e, Int32.ofNat_mul]; rfl
  rw [sg_Mo_heardLines_0, h, n_in (by omega), n_tn (by omega), decide_eq_true (by omega), cond_true]
theorem c_lineOf {s k w : Nat} (hs : s < 8) (hk : k < 8) (hw : w < 2) (e : I 81 51 = Int32.ofNat s) : Cl X (d + 1) 242 [vr 81, vi (Int32.ofNat k), vi (Int32.ofNat w)] (pm_mm al D I L) = some (some (vi (I 90 (17 * s + 1 + 2 * k + w))), pm_mm al D I L) := by
  rw [Cl_s]
  show Rn X d co_Mo_lineOf (0, [some (vr 81), some (vi (Int32.ofNat k)), some (vi (Int32.ofNat w))], [], pm_mm al D I L) = _
  have h : ((17 : Int32) * I 81 51 + 1 + 2 * Int32.ofNat k) + Int32.ofNat w = Int32.ofNat (17 * s + 1 + 2 * k + w) := by
    rw [e, Int32.ofNat_add, Int32.ofNat_add, Int32.ofNat_add, Int32.ofNat_mul, Int32.ofNat_mul]; rfl
  rw [sg_Mo_lineOf_0, h, n_in (by omega), n_tn (by omega), decide_eq_true (by omega), cond_true]
def vLine (I : Nat → Nat → Int32) (m : Nat → Nat) (s k w : Int32) : Int32 := cond (pm_in s (m 3))
  (cond (decide (k = -1)) (cond (decide (w = 0)) (I 90 (17 * s.toNatClampNeg)) (-2)) (cond (pm_in k (I 90 (17 * s.toNatClampNeg)).toNatClampNeg && pm_in w 2) (I 90 (17 * s.toNatClampNeg + 1 + 2 * k.toNatClampNeg + w.toNatClampNeg)) (-2))) (-2)
theorem r_line {m : Nat → Nat} (s k w : Int32) (g : rG I m) : Cl X (d + 4) 245 [vr 81, vi s, vi k, vi w] (pm_mm al D I L) = some (some (vi (vLine I m s k w)), pm_mm al D (pm_up (pm_up I 81 0 0) 81 51 s) L) := by
  rw [Cl_s]
  show Rn X (d + 3) co_Mo_line (0, [some (vr 81), some (vi s), some (vi k), some (vi w)], [], pm_mm al D I L) = _
  obtain ⟨m1, e1⟩ := g.1 3 (by omega)
  have h : Cl X (d + 3) 244 [vr 81, vi s] (pm_mm al D (pm_up I 81 0 0) L) = _ := c_hasLog (m := m 3) s (by omega) e1
  rw [sg_Mo_line_0, h, vLine]
  simp only [Option.bind_some, pm_ai, sg_Mo_line_10, b01_ne]
  cases hs : pm_in s (m 3) with
  | false => rfl
  | true =>
    obtain ⟨q, hq, eq⟩ := in_nat hs
    obtain ⟨g1, g3, g4⟩ := g.2.2.2.2 q hq
    have hn : Cl X (d + 3) 243 [vr 81] (pm_mm al D (pm_up (pm_up I 81 0 0) 81 51 s) L) = some (some (vi (I 90 (17 * q))), _) := c_heardLines (s := q) (by omega) (by rw [eq]; simp [pm_up])
    have h3 : (if 0 ≤ w ∧ w ≤ 1 then (1 : Int32) else 0) = b01 (pm_in w 2) := in_m (m := 2) (by omega)
    have hN : ∀ k : Int32, (if 0 ≤ k ∧ k ≤ I 90 (17 * q) - 1 then (1 : Int32) else 0) = b01 (pm_in k (I 90 (17 * q)).toNatClampNeg) := fun k => by
      have := in_m (k := k) (m := (I 90 (17 * q)).toNatClampNeg) (by omega)
      rwa [← n_of g3] at this
    have etn : s.toNatClampNeg = q := by rw [eq, n_tn (by omega)]
    rw [hn, etn]
    simp only [Option.bind_some, pm_ai, Bool.not_true, cond_false, cond_true, sg_Mo_line_29, sg_Mo_line_34, sg_Mo_line_41, c_in, hN, sg_Mo_line_46, b01_ne, h3, sg_Mo_line_55, sg_Mo_line_67, sg_Mo_line_69]
    cases decide (k = -1) with
    | true => simp only [cond_true]; cases decide (w = 0) <;> rfl
    | false =>
      simp only [cond_false]
      cases hk : pm_in k (I 90 (17 * q)).toNatClampNeg with
      | false => rfl
      | true =>
        cases hw : pm_in w 2 with
        | false => rfl
        | true =>
          obtain ⟨k', hk', ek⟩ := in_nat hk
          obtain ⟨w', hw', ew⟩ := in_nat hw
          have ho : Cl X (d + 3) 242 [vr 81, vi k, vi w] (pm_mm al D (pm_up (pm_up I 81 0 0) 81 51 s) L) = some (some (vi (I 90 (17 * q + 1 + 2 * k' + w'))), pm_mm al D (pm_up (pm_up I 81 0 0) 81 51 s) L) := by
            rw [ek, ew]; exact c_lineOf (s := q) (by omega) (by omega) (by omega) (by rw [eq]; simp [pm_up])
          simp only [Bool.not_true, cond_false, ho, Option.bind_some, pm_ai, sg_Mo_line_64, sg_Mo_line_69, Bool.and_self, cond_true]
          rw [ek, ew, n_tn (by omega), n_tn (by omega)]
theorem q_line {m : Nat → Nat} (s k w : Int32) (g : rG I m) (r : RL I m) : Cl X (d + 2) 117 [vr 1, vi s, vi k, vi w] (pm_mm al D I L) = some (some (vi (vLine I m s k w)), pm_mm al D I L) := by
  rw [Cl_s]
  show Rn X (d + 1) co_Ch_line (0, [some (vr 1), some (vi s), some (vi k), some (vi w), none], [], pm_mm al D I L) = _
  have m1 := (g.1 3 (by omega)).1
  have h1 : Cl X (d + 1) 93 [vr 2, vi 3, vi s] (pm_mm al D I L) = _ := k_has (s := 3) (m := m 3) s (by omega) m1 ((r.1 3 (by omega)).trans (g.1 3 (by omega)).2)
  rw [sg_Ch_line_x_0, h1, vLine]
  simp only [Option.bind_some, pm_ai]
  cases h : pm_in s (m 3) with
  | false => exact sg_Ch_line_x0_9 ..
  | true =>
    obtain ⟨q, hq, e⟩ := in_nat h
    have s9 : Rn X (d + 1) co_Ch_line (9, [some (vr 1), some (vi s), some (vi k), some (vi w), none], [vi 1], pm_mm al D I L) = cond (decide (k = (-1))) (cond (decide (w = 0)) (some (some (vi (I (27 + 3 * q) 0)), pm_mm al D I L)) (some (some (vi (-2)), pm_mm al D I L))) (cond (decide (k < 0)) (some (some (vi (-2)), pm_mm al D I L)) (cond (decide (k < (I (27 + 3 * q) 0))) (cond (decide (w = 0)) (cond (pm_in k 8) (some (some (vi (I (27 + 3 * q + 1) k.toNatClampNeg)), pm_mm al D I L)) none) (cond (decide (w = 1)) (cond (pm_in k 8) (some (some (vi (I (27 + 3 * q + 2) k.toNatClampNeg)), pm_mm al D I L)) none) (some (some (vi (-2)), pm_mm al D I L)))) (some (some (vi (-2)), pm_mm al D I L)))) := by
      rw [e]
      rcases two (show q < 2 by omega) with rfl | rfl
      · refine (sg_Ch_line_0_9 ..).trans ?_
        simp only [sg_Ch_line_0_45, sg_Ch_line_0_59]; rfl
      · refine (sg_Ch_line_1_9 ..).trans ?_
        simp only [sg_Ch_line_1_45, sg_Ch_line_1_59]; rfl
    obtain ⟨g1, g3, g4⟩ := g.2.2.2.2 q hq
    obtain ⟨r1, r2⟩ := r.2.2.2.2.1 q hq
    have etn : s.toNatClampNeg = q := by rw [e, n_tn (by omega)]
    have hk : pm_in k (I 90 (17 * q)).toNatClampNeg = (!decide (k < 0) && decide (k < I 90 (17 * q))) := by
      have := in_two (k := k) (n := (I 90 (17 * q)).toNatClampNeg) (by omega)
      rwa [← n_of g3] at this
    refine Eq.trans s9 ?_
    rw [r1, etn, hk]
    simp only [cond_true]
    cases decide (k = -1) with
    | true => cases decide (w = 0) <;> rfl
    | false =>
      simp only [cond_false]
      cases h1 : decide (k < 0) with
      | true => rfl
      | false =>
        cases h2 : decide (k < I 90 (17 * q)) with
        | false => rfl
        | true =>
          have hk' : pm_in k (I 90 (17 * q)).toNatClampNeg = true := by rw [hk, h1, h2]; rfl
          obtain ⟨k', hk2, ek⟩ := in_nat hk'
          obtain ⟨c1, c2⟩ := r2 k' hk2
          have k8 : pm_in k 8 = true := by rw [ek, n_in (by omega), decide_eq_true (by omega)]
          have ktn : k.toNatClampNeg = k' := by rw [ek, n_tn (by omega)]
          rw [k8, ktn, c1, c2]
          simp only [cond_true, cond_false, Bool.not_false, Bool.true_and]
          cases hw : pm_in w 2 with
          | true =>
            obtain ⟨w', hw', ew⟩ := in_nat hw
            have : w' = 0 ∨ w' = 1 := by omega
            rcases this with rfl | rfl <;> subst ew <;> rfl
          | false =>
            have n0 : decide (w = 0) = false := decide_eq_false (fun c => by subst c; revert hw; decide)
            have n1 : decide (w = 1) = false := decide_eq_false (fun c => by subst c; revert hw; decide)
            rw [n0, n1]; rfl
end
