section
variable {X : Nat × (Nat → Int32)} {d : Nat} {al : List Nat} {D : Nat → Bool} {I : Nat → Nat → Int32} {L : Nat → Nat → Int64}
theorem k_hasPair {m : Nat → Nat} (b s : Int32) (hm : ∀ i, i < 4 → m i ≤ 2 ∧ I 4 i = Int32.ofNat (m i)) : Cl X (d + 2) 120 [vr 1, vi b, vi s] (pm_mm al D I L) = some (some (vi (b01 (pm_in b (m 0) && pm_in s (m 1)))), pm_mm al D I L) := by
  rw [Cl_s]
  show Rn X (d + 1) co_Ch_hasPair (0, [some (vr 1), some (vi b), some (vi s)], [], pm_mm al D I L) = _
  have h0 : Cl X (d + 1) 93 [vr 2, vi 0, vi b] (pm_mm al D I L) = _ := k_has (s := 0) (m := m 0) b (by omega) (hm 0 (by omega)).1 (hm 0 (by omega)).2
  have h1 : Cl X (d + 1) 93 [vr 2, vi 1, vi s] (pm_mm al D I L) = _ := k_has (s := 1) (m := m 1) s (by omega) (hm 1 (by omega)).1 (hm 1 (by omega)).2
  simp only [sg_Ch_hasPair_0, h0, h1, Option.bind_some, pm_ai, sg_Ch_hasPair_9, b01_ne, sg_Ch_hasPair_21, sg_Ch_hasPair_28, sg_Ch_hasPair_29]
  cases pm_in b (m 0) <;> cases pm_in s (m 1) <;> rfl
theorem k_hasThree {m : Nat → Nat} (b s u : Int32) (hm : ∀ i, i < 4 → m i ≤ 2 ∧ I 4 i = Int32.ofNat (m i)) : Cl X (d + 3) 121 [vr 1, vi b, vi s, vi u] (pm_mm al D I L) = some (some (vi (b01 (pm_in b (m 0) && pm_in s (m 1) && pm_in u (m 2)))), pm_mm al D I L) := by
  rw [Cl_s]
  show Rn X (d + 2) co_Ch_hasThree (0, [some (vr 1), some (vi b), some (vi s), some (vi u)], [], pm_mm al D I L) = _
  have h2 : Cl X (d + 2) 93 [vr 2, vi 2, vi u] (pm_mm al D I L) = _ := k_has (s := 2) (m := m 2) (d := d + 1) u (by omega) (hm 2 (by omega)).1 (hm 2 (by omega)).2
  simp only [sg_Ch_hasThree_0, k_hasPair b s hm, h2, Option.bind_some, pm_ai, sg_Ch_hasThree_6, b01_ne, sg_Ch_hasThree_18, sg_Ch_hasThree_25, sg_Ch_hasThree_26]
  cases (pm_in b (m 0) && pm_in s (m 1)) <;> cases pm_in u (m 2) <;> rfl
theorem k_behind {t : Nat} {s : PS} (what : Int32) (ht : t < 12) (h : stD I (t + 1) s) : Cl X (d + 1) 51 [vr 49, vi (Int32.ofNat t), vi what] (pm_mm al D I L) = some (some (vi (bhd s what)), pm_mm al D I L) := by
  rw [Cl_s]
  show Rn X d co_Pl_behind (0, [some (vr 49), some (vi (Int32.ofNat t)), some (vi what)], [], pm_mm al D I L) = _
  obtain ⟨⟨h1, h2, h3, h4⟩, h5, h6, h7⟩ := h
  have hin : pm_in (Int32.ofNat (t + 1)) 13 = true := (n_in (by omega)).trans (decide_eq_true (by omega))
  rw [sg_Pl_behind_0]
  simp only [n_s, hin, cond_true, n_tn (show t + 1 < 2147483648 by omega), h1, h2, h3, h4, h5, h6, bhd]
  cases decide (what = 0) <;> cases decide (what = 1) <;> cases decide (what = 2) <;> cases decide (what = 3) <;> cases decide (what = 4) <;> cases decide (what = 5) <;> rfl
theorem k_firstRow {q : Nat} (hq : q = 51 ∨ q = 79) : Cl X (d + 1) 161 [vr q] (pm_mm al D I L) = some (none, pm_mm al D (pm_ups I q (fun p => if p < 6 then Int32.ofNat p else I q p)) L) := by
  rw [Cl_s]
  have s2 : ∀ (x1 : Int32) (I : Nat → Nat → Int32), Rn X d co_Ch_firstRow (2, [some (vr q), some (vi x1)], [], pm_mm al D I L) = cond (decide (6 ≤ x1)) (some (none, pm_mm al D I L)) (cond (pm_in x1 6) (Rn X d co_Ch_firstRow (2, [some (vr q), some (vi (x1 + 1))], [], pm_mm al D (pm_up I q x1.toNatClampNeg x1) L)) none) := by
    intro x1 I
    rcases hq with rfl | rfl
    · exact sg_Ch_firstRow_51_2 ..
    · exact sg_Ch_firstRow_79_2 ..
  have s0 : Rn X d (pm_co 161) (0, [some (vr q), none], [], pm_mm al D I L) = Rn X d co_Ch_firstRow (2, [some (vr q), some (vi 0)], [], pm_mm al D I L) := by
    rcases hq with rfl | rfl
    · exact sg_Ch_firstRow_51_0 ..
    · exact sg_Ch_firstRow_79_0 ..
  refine Eq.trans (show _ = Rn X d (pm_co 161) (0, [some (vr q), none], [], pm_mm al D I L) from rfl) ?_
  rw [s0]
  have h : ∀ n k, k + n = 6 → Rn X d co_Ch_firstRow (2, [some (vr q), some (vi (Int32.ofNat k))], [], pm_mm al D (pm_ups I q (fun p => if p < k then Int32.ofNat p else I q p)) L) = some (none, pm_mm al D (pm_ups I q (fun p => if p < 6 then Int32.ofNat p else I q p)) L) := by
    intro n
    induction n with
    | zero => intro k hk; have : k = 6 := by omega
              subst this; rw [s2]; rfl
    | succ n ih =>
      intro k hk
      have h0 : decide ((6 : Int32) ≤ Int32.ofNat k) = false := (n_dle (a := 6) (by decide) (by omega)).trans (decide_eq_false (by omega))
      rw [s2, h0, cond_false, n_in (by omega), decide_eq_true (by omega), cond_true, n_tn (by omega), n_s, ← ih (k + 1) (by omega)]
      refine congrArg (fun g => Rn X d co_Ch_firstRow (2, [some (vr q), some (vi (Int32.ofNat (k + 1)))], [], pm_mm al D g L)) ?_
      funext a j
      simp only [pm_up, pm_ups]
      by_cases ha : a = q
      · by_cases hj : j = k
        · simp [ha, hj]
        · have : (j < k + 1) ↔ j < k := by omega
          simp [ha, hj, this]
      · simp [ha]
  refine Eq.trans ?_ (h 6 0 rfl)
  refine congrArg (fun g => Rn X d co_Ch_firstRow (2, [some (vr q), some (vi 0)], [], pm_mm al D g L)) ?_
  funext a j
  simp only [pm_ups]
  by_cases ha : a = q <;> simp [ha]
end
