section
variable {X : Nat × (Nat → Int32)} {d : Nat} {al : List Nat} {D : Nat → Bool} {I : Nat → Nat → Int32} {L : Nat → Nat → Int64}
def tkS (a j : Nat) : Prop := (a = 49 ∧ j ≤ 4) ∨ a = 50 ∨ a = 51
/-- the play has taken the band in cell q -/
def tkP (I J : Nat → Nat → Int32) (q : Nat) : Prop := J 49 0 = I q 0 ∧ J 49 4 = I q 1 ∧ J 49 1 = I q 2 ∧ J 49 2 = I q 3 ∧ J 49 3 = I q 4 ∧ (∀ p, p < 6 → J 50 p = I (q + 1) p) ∧ ∀ p, p < 6 → J 51 p = Int32.ofNat p
theorem k_takeBand {q : Nat} (hq : q = 9 ∨ q = 14) : ∃ J, Cl X (d + 2) 39 [vr 49, vr q] (pm_mm al D I L) = some (none, pm_mm al D J L) ∧ (∀ a j, ¬ tkS a j → J a j = I a j) ∧ tkP I J q := by
  have s0 : Rn X (d + 1) (pm_co 39) (0, [some (vr 49), some (vr q)], [], pm_mm al D I L) = ((Cl X (d + 1) 161 [vr 51] (pm_mm al D (pm_ups (pm_up (pm_up (pm_up (pm_up (pm_up I 49 0 (I q 0)) 49 4 (I q 1)) 49 1 (I q 2)) 49 2 (I q 3)) 49 3 (I q 4)) 50 (va_cpy (I (q + 1)) (I 50) 0 0 6)) L)).bind pm_av).bind (fun r => Rn X (d + 1) co_Pl_takeBand (62, [some (vr 49), some (vr q)], [], r)) := by
    rcases hq with rfl | rfl
    · exact sg_Pl_takeBand_9_0 ..
    · exact sg_Pl_takeBand_14_0 ..
  have s62 : ∀ I : Nat → Nat → Int32, Rn X (d + 1) co_Pl_takeBand (62, [some (vr 49), some (vr q)], [], pm_mm al D I L) = some (none, pm_mm al D I L) := fun I => sg_Pl_takeBand_9_62 ..
  rw [Cl_s]
  show ∃ J, Rn X (d + 1) (pm_co 39) (0, [some (vr 49), some (vr q)], [], pm_mm al D I L) = _ ∧ _
  rw [s0, k_firstRow (Or.inl rfl)]
  simp only [Option.bind_some, pm_av, s62]
  refine ⟨_, rfl, fun a j h => ?_, ?_, ?_, ?_, ?_, ?_, fun p hp => ?_, fun p hp => ?_⟩
  · unfold tkS at h
    rw [pm_ups, if_neg (by omega), pm_ups, if_neg (by omega), pm_up, if_neg (by omega), pm_up, if_neg (by omega), pm_up, if_neg (by omega), pm_up, if_neg (by omega), pm_up, if_neg (by omega)]
  · simp [pm_ups, pm_up]
  · simp [pm_ups, pm_up]
  · simp [pm_ups, pm_up]
  · simp [pm_ups, pm_up]
  · simp [pm_ups, pm_up]
  · simp [pm_ups, va_cpy, hp]
  · simp [pm_ups, hp]
/-- the pipes that a band has -/
def mk1 (n : Int32) : Int32 := (1 <<< (n &&& 31)) - 1
theorem k_takeScore {q : Nat} (hq : q = 19 ∨ q = 23) (g : gC I q) : Cl X (d + 2) 40 [vr 49, vr q] (pm_mm al D I L) = some (none, pm_mm al D (pm_ups I 52 (fun t => if t < 12 then wn (scC I q) t &&& mk1 (I 49 3) else I 52 t)) L) := by
  have s0 : Rn X (d + 1) (pm_co 40) (0, [some (vr 49), some (vr q), none], [], pm_mm al D I L) = Rn X (d + 1) co_Pl_takeScore (2, [some (vr 49), some (vr q), some (vi 0)], [], pm_mm al D I L) := by
    rcases hq with rfl | rfl
    · exact sg_Pl_takeScore_19_0 ..
    · exact sg_Pl_takeScore_23_0 ..
  have s2 : ∀ (x2 : Int32) (I : Nat → Nat → Int32), Rn X (d + 1) co_Pl_takeScore (2, [some (vr 49), some (vr q), some (vi x2)], [], pm_mm al D I L) = cond (decide (12 ≤ x2)) (some (none, pm_mm al D I L)) (((Cl X (d + 1) 81 [vr q, vi x2] (pm_mm al D I L)).bind pm_ai).bind (fun r => Rn X (d + 1) co_Pl_takeScore (18, [some (vr 49), some (vr q), some (vi x2)], [vi r.1, vi x2, vr 52], r.2))) := by
    intro x2 I
    rcases hq with rfl | rfl
    · exact sg_Pl_takeScore_19_2 ..
    · exact sg_Pl_takeScore_23_2 ..
  have s18 : ∀ (x2 u1 u2 : Int32) (I : Nat → Nat → Int32), Rn X (d + 1) co_Pl_takeScore (18, [some (vr 49), some (vr q), some (vi x2)], [vi u2, vi u1, vr 52], pm_mm al D I L) = cond (pm_in u1 12) (Rn X (d + 1) co_Pl_takeScore (2, [some (vr 49), some (vr q), some (vi (x2 + 1))], [], pm_mm al D (pm_up I 52 u1.toNatClampNeg (u2 &&& mk1 (I 49 3))) L)) none := by
    intro x2 u1 u2 I
    rcases hq with rfl | rfl
    · exact sg_Pl_takeScore_19_18 ..
    · exact sg_Pl_takeScore_23_18 ..
  rw [Cl_s]
  show Rn X (d + 1) (pm_co 40) (0, [some (vr 49), some (vr q), none], [], pm_mm al D I L) = _
  rw [s0]
  have h : ∀ n k, k + n = 12 → Rn X (d + 1) co_Pl_takeScore (2, [some (vr 49), some (vr q), some (vi (Int32.ofNat k))], [], pm_mm al D (pm_ups I 52 (fun t => if t < k then wn (scC I q) t &&& mk1 (I 49 3) else I 52 t)) L) = some (none, pm_mm al D (pm_ups I 52 (fun t => if t < 12 then wn (scC I q) t &&& mk1 (I 49 3) else I 52 t)) L) := by
    intro n
    induction n with
    | zero => intro k hk; have : k = 12 := by omega
              subst this; rw [s2]; rfl
    | succ n ih =>
      intro k hk
      have h0 : decide ((12 : Int32) ≤ Int32.ofNat k) = false := (n_dle (a := 12) (by decide) (by omega)).trans (decide_eq_false (by omega))
      have e1 : ∀ f : Nat → Int32, gC (pm_ups I 52 f) q = gC I q := fun f => by rcases hq with rfl | rfl <;> rfl
      have e2 : ∀ f : Nat → Int32, scC (pm_ups I 52 f) q = scC I q := fun f => by rcases hq with rfl | rfl <;> rfl
      rw [s2, h0, cond_false, k_wanted hq (by rw [e1]; exact g) (show k < 1000 by omega), e2]
      simp only [Option.bind_some, pm_ai, s18]
      rw [n_in (by omega), decide_eq_true (by omega), cond_true, n_tn (by omega), n_s, ← ih (k + 1) (by omega)]
      refine congrArg (fun g => Rn X (d + 1) co_Pl_takeScore (2, [some (vr 49), some (vr q), some (vi (Int32.ofNat (k + 1)))], [], pm_mm al D g L)) ?_
      funext a j
      have e49 : pm_ups I 52 (fun t => if t < k then wn (scC I q) t &&& mk1 (I 49 3) else I 52 t) 49 3 = I 49 3 := rfl
      rw [e49]
      simp only [pm_up, pm_ups]
      by_cases ha : a = 52
      · by_cases hj : j = k
        · simp [ha, hj]
        · have : (j < k + 1) ↔ j < k := by omega
          simp [ha, hj, this]
      · simp [ha]
  refine Eq.trans ?_ (h 12 0 rfl)
  refine congrArg (fun g => Rn X (d + 1) co_Pl_takeScore (2, [some (vr 49), some (vr q), some (vi 0)], [], pm_mm al D g L)) ?_
  funext a j
  simp only [pm_ups]
  by_cases ha : a = 52 <;> simp [ha]
end
