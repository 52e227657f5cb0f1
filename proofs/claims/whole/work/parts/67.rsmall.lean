section
variable {X : Nat × (Nat → Int32)} {d : Nat} {al : List Nat} {D : Nat → Bool} {I : Nat → Nat → Int32} {L : Nat → Nat → Int64}
def vFault (I : Nat → Nat → Int32) (what : Int32) : Int32 := cond (decide (what = 0)) (I 84 0) (cond (decide (what = 1)) (I 85 0) (-1))
theorem r_fault (what : Int32) : Cl X (d + 1) 194 [vr 81, vi what] (pm_mm al D I L) = some (some (vi (vFault I what)), pm_mm al D (pm_up I 81 0 0) L) := by
  rw [Cl_s]
  show Rn X d co_Mo_fault (0, [some (vr 81), some (vi what)], [], pm_mm al D I L) = _
  rw [sg_Mo_fault_0, vFault]
  simp only [sg_Mo_fault_33]
  cases decide (what = 0) <;> cases decide (what = 1) <;> rfl
def vCount (I : Nat → Nat → Int32) (sort : Int32) : Int32 := cond (pm_in sort 4) (I 86 sort.toNatClampNeg) (-2)
theorem r_count (sort : Int32) : Cl X (d + 2) 281 [vr 81, vi sort] (pm_mm al D I L) = some (some (vi (vCount I sort)), pm_mm al D (pm_up I 81 0 0) L) := by
  rw [Cl_s]
  show Rn X (d + 1) co_Mo_count (0, [some (vr 81), some (vi sort)], [], pm_mm al D I L) = _
  have h : (if 0 ≤ sort ∧ sort ≤ 3 then (1 : Int32) else 0) = b01 (pm_in sort 4) := in_m (m := 4) (by omega)
  rw [sg_Mo_count_0, c_in, h, vCount]
  simp only [Option.bind_some, pm_ai, sg_Mo_count_11, b01_ne, sg_Mo_count_25]
  cases hs : pm_in sort 4 with
  | false => rfl
  | true =>
    obtain ⟨q, hq, eq⟩ := in_nat hs
    rw [eq, n_in (by omega), decide_eq_true (by omega)]; rfl
def vTreads (I : Nat → Nat → Int32) (m : Nat → Nat) (u : Int32) : Int32 := cond (pm_in u (m 2)) (I 89 u.toNatClampNeg) (-1)
theorem r_treads {m : Nat → Nat} (u : Int32) (g : rG I m) : Cl X (d + 3) 206 [vr 81, vi u] (pm_mm al D I L) = some (some (vi (vTreads I m u)), pm_mm al D (pm_up I 81 0 0) L) := by
  rw [Cl_s]
  show Rn X (d + 2) co_Mo_treads (0, [some (vr 81), some (vi u)], [], pm_mm al D I L) = _
  obtain ⟨m2, e2⟩ := g.1 2 (by omega)
  have h : Cl X (d + 2) 172 [vr 81, vi 2, vi u] (pm_mm al D (pm_up I 81 0 0) L) = _ := c_is (s := 2) (m := m 2) u (by omega) (by omega) e2
  rw [sg_Mo_treads_0, h, vTreads]
  simp only [Option.bind_some, pm_ai, sg_Mo_treads_11, b01_ne, sg_Mo_treads_26]
  cases hs : pm_in u (m 2) with
  | false => rfl
  | true =>
    obtain ⟨q, hq, eq⟩ := in_nat hs
    have h1 : (1 : Int32) * Int32.ofNat q = Int32.ofNat q := Int32.one_mul _
    rw [eq, h1, n_in (by omega), decide_eq_true (by omega)]; rfl
def vEnd (I : Nat → Nat → Int32) (n : Int32) : Bool := decide (0 ≤ n ∧ n ≤ I 83 0)
theorem r_end (n : Int32) : Cl X (d + 2) 175 [vr 81, vi n] (pm_mm al D I L) = some (some (vi (cond (vEnd I n) n (-1))), pm_mm al D (cond (vEnd I n) (pm_up (pm_up I 81 0 0) 83 0 n) (pm_up I 81 0 0)) L) := by
  rw [Cl_s]
  show Rn X (d + 1) co_Mo_end (0, [some (vr 81), some (vi n)], [], pm_mm al D I L) = _
  rw [sg_Mo_end_0, c_in]
  simp only [Option.bind_some, pm_ai, sg_Mo_end_16, vEnd]
  by_cases h : 0 ≤ n ∧ n ≤ I 83 0
  · rw [if_pos h, decide_eq_true h]; rfl
  · rw [if_neg h, decide_eq_false h]; rfl
def vNote (I : Nat → Nat → Int32) (m : Nat → Nat) (s k w : Int32) : Int32 := cond (pm_in s (m 1))
  (cond (decide (k = -1)) (cond (decide (w = 0)) (I 88 (25 * s.toNatClampNeg)) (-2)) (cond (pm_in k (I 88 (25 * s.toNatClampNeg)).toNatClampNeg && pm_in w 3) (I 88 (25 * s.toNatClampNeg + 1 + 3 * k.toNatClampNeg + w.toNatClampNeg)) (-2))) (-2)
theorem r_note {m : Nat → Nat} (s k w : Int32) (g : rG I m) : Cl X (d + 4) 205 [vr 81, vi s, vi k, vi w] (pm_mm al D I L) = some (some (vi (vNote I m s k w)), pm_mm al D (pm_up (pm_up I 81 0 0) 81 24 s) L) := by
  rw [Cl_s]
  show Rn X (d + 3) co_Mo_note (0, [some (vr 81), some (vi s), some (vi k), some (vi w)], [], pm_mm al D I L) = _
  obtain ⟨m1, e1⟩ := g.1 1 (by omega)
  have h : Cl X (d + 3) 200 [vr 81, vi s] (pm_mm al D (pm_up I 81 0 0) L) = _ := c_hasScore (m := m 1) s (by omega) e1
  rw [sg_Mo_note_0, h, vNote]
  simp only [Option.bind_some, pm_ai, sg_Mo_note_10, b01_ne]
  cases hs : pm_in s (m 1) with
  | false => rfl
  | true =>
    obtain ⟨q, hq, eq⟩ := in_nat hs
    obtain ⟨⟨g1, g2⟩, g3, g4⟩ := g.2.2.1 q hq
    have g1 : (I 88 (25 * q)).toNatClampNeg ≤ 8 := g1
    have hn : Cl X (d + 3) 198 [vr 81] (pm_mm al D (pm_up (pm_up I 81 0 0) 81 24 s) L) = some (some (vi (I 88 (25 * q))), _) := c_notes (s := q) (by omega) (by rw [eq]; simp [pm_up])
    have h3 : (if 0 ≤ w ∧ w ≤ 2 then (1 : Int32) else 0) = b01 (pm_in w 3) := in_m (m := 3) (by omega)
    have hN : ∀ k : Int32, (if 0 ≤ k ∧ k ≤ I 88 (25 * q) - 1 then (1 : Int32) else 0) = b01 (pm_in k (I 88 (25 * q)).toNatClampNeg) := fun k => by
      have := in_m (k := k) (m := (I 88 (25 * q)).toNatClampNeg) (by omega)
      rwa [← n_of g3] at this
    have etn : s.toNatClampNeg = q := by rw [eq, n_tn (by omega)]
    rw [hn, etn]
    simp only [Option.bind_some, pm_ai, Bool.not_true, cond_false, cond_true, sg_Mo_note_29, sg_Mo_note_34, sg_Mo_note_41, c_in, hN, sg_Mo_note_46, b01_ne, h3, sg_Mo_note_55, sg_Mo_note_67, sg_Mo_note_69]
    cases decide (k = -1) with
    | true => simp only [cond_true]; cases decide (w = 0) <;> rfl
    | false =>
      simp only [cond_false]
      cases hk : pm_in k (I 88 (25 * q)).toNatClampNeg with
      | false => rfl
      | true =>
        cases hw : pm_in w 3 with
        | false => rfl
        | true =>
          obtain ⟨k', hk', ek⟩ := in_nat hk
          obtain ⟨w', hw', ew⟩ := in_nat hw
          have ho : Cl X (d + 3) 199 [vr 81, vi k, vi w] (pm_mm al D (pm_up (pm_up I 81 0 0) 81 24 s) L) = some (some (vi (I 88 (25 * q + 1 + 3 * k' + w'))), pm_mm al D (pm_up (pm_up I 81 0 0) 81 24 s) L) := by
            rw [ek, ew]; exact c_noteOf (s := q) (by omega) (by omega) (by omega) (by rw [eq]; simp [pm_up])
          simp only [Bool.not_true, cond_false, ho, Option.bind_some, pm_ai, sg_Mo_note_64, sg_Mo_note_69, Bool.and_self, cond_true]
          rw [ek, ew, n_tn (by omega), n_tn (by omega)]
end
