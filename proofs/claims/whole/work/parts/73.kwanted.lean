section
variable {X : Nat × (Nat → Int32)} {d : Nat} {al : List Nat} {D : Nat → Bool} {I : Nat → Nat → Int32} {L : Nat → Nat → Int64}
/-- a score of the class in cell q -/
def scC (I : Nat → Nat → Int32) (q : Nat) : SC := ((I q 0).toNatClampNeg, fun k => (I (q + 1) k).toNatClampNeg, fun k => (I (q + 2) k).toNatClampNeg, fun k => (I (q + 3) k).toNatClampNeg)
def gC (I : Nat → Nat → Int32) (q : Nat) : Prop := scG (scC I q) ∧ 0 ≤ I q 0 ∧ ∀ k, k < (scC I q).1 → 0 ≤ I (q + 1) k ∧ 0 ≤ I (q + 2) k ∧ 0 ≤ I (q + 3) k
theorem sq_wanted_0 {q : Nat} (h : q = 19 ∨ q = 23) (x1 : Int32) (o2 o3 : Option pm_V) : Rn X d co_Sc_wanted (0, [some (vr q), some (vi x1), o2, o3], [], pm_mm al D I L) = Rn X d co_Sc_wanted (4, [some (vr q), some (vi x1), some (vi 0), some (vi 0)], [], pm_mm al D I L) := by
  rcases h with rfl | rfl
  · exact sg_Sc_wanted_19_0 ..
  · exact sg_Sc_wanted_23_0 ..
theorem sq_wanted_4 {q : Nat} (h : q = 19 ∨ q = 23) (x1 x2 x3 : Int32) : Rn X d co_Sc_wanted (4, [some (vr q), some (vi x1), some (vi x2), some (vi x3)], [], pm_mm al D I L) = cond (decide ((I q 0) ≤ x3)) (some (some (vi x2), pm_mm al D I L)) (cond (pm_in x3 8) (cond (decide (x1 < (I (q + 2) x3.toNatClampNeg))) (Rn X d co_Sc_wanted (50, [some (vr q), some (vi x1), some (vi x2), some (vi x3)], [], pm_mm al D I L)) (cond (pm_in x3 8) (cond (pm_in x3 8) (cond (decide (((I (q + 2) x3.toNatClampNeg) + (I (q + 3) x3.toNatClampNeg)) ≤ x1)) (Rn X d co_Sc_wanted (50, [some (vr q), some (vi x1), some (vi x2), some (vi x3)], [], pm_mm al D I L)) (cond (pm_in x3 8) (Rn X d co_Sc_wanted (50, [some (vr q), some (vi x1), some (vi (x2 ||| (1 <<< ((I (q + 1) x3.toNatClampNeg) &&& 31)))), some (vi x3)], [], pm_mm al D I L)) none)) none) none)) none) := by
  rcases h with rfl | rfl
  · exact sg_Sc_wanted_19_4 ..
  · exact sg_Sc_wanted_23_4 ..
theorem sq_wanted_50 {q : Nat} (h : q = 19 ∨ q = 23) (x1 x2 x3 : Int32) : Rn X d co_Sc_wanted (50, [some (vr q), some (vi x1), some (vi x2), some (vi x3)], [], pm_mm al D I L) = Rn X d co_Sc_wanted (4, [some (vr q), some (vi x1), some (vi x2), some (vi (x3 + 1))], [], pm_mm al D I L) := by
  rcases h with rfl | rfl
  · exact sg_Sc_wanted_19_50 ..
  · exact sg_Sc_wanted_23_50 ..
theorem k_wanted {q t : Nat} (h : q = 19 ∨ q = 23) (g : gC I q) (ht : t < 1000) : Cl X (d + 1) 81 [vr q, vi (Int32.ofNat t)] (pm_mm al D I L) = some (some (vi (wn (scC I q) t)), pm_mm al D I L) := by
  obtain ⟨⟨g1, g2⟩, g3, g4⟩ := g
  rw [Cl_s]
  show Rn X d co_Sc_wanted (0, [some (vr q), some (vi (Int32.ofNat t)), none, none], [], pm_mm al D I L) = _
  rw [sq_wanted_0 h]
  have eN : I q 0 = Int32.ofNat (scC I q).1 := n_of g3
  have hl := lf (scC I q).1 (fun k a => Rn X d co_Sc_wanted (4, [some (vr q), some (vi (Int32.ofNat t)), some (vi a), some (vi (Int32.ofNat k))], [], pm_mm al D I L)) (wn1 (scC I q) t) (fun k a hk => by
    show Rn X d co_Sc_wanted _ = Rn X d co_Sc_wanted _
    obtain ⟨r1, r2, r3, r4⟩ := g2 k hk
    obtain ⟨z1, z2, z3⟩ := g4 k hk
    have e1 : I (q + 1) k = Int32.ofNat ((scC I q).2.1 k) := n_of z1
    have e2 : I (q + 2) k = Int32.ofNat ((scC I q).2.2.1 k) := n_of z2
    have e3 : I (q + 3) k = Int32.ofNat ((scC I q).2.2.2 k) := n_of z3
    have h0 : decide (Int32.ofNat (scC I q).1 ≤ Int32.ofNat k) = false := (n_dle (by omega) (by omega)).trans (decide_eq_false (by omega))
    have i8 : pm_in (Int32.ofNat k) 8 = true := (n_in (by omega)).trans (decide_eq_true (by omega))
    rw [sq_wanted_4 h, eN, h0, i8]
    simp only [cond_false, cond_true, n_tn (show k < 2147483648 by omega), e1, e2, e3, n_add, n_dlt (show t < 2147483648 by omega) (show (scC I q).2.2.1 k < 2147483648 by omega), n_dle (show (scC I q).2.2.1 k + (scC I q).2.2.2 k < 2147483648 by omega) (show t < 2147483648 by omega), sq_wanted_50 h, n_s, wn1]
    by_cases c1 : t < (scC I q).2.2.1 k
    · rw [decide_eq_true c1, cond_true, if_neg (by omega)]
    · rw [decide_eq_false c1, cond_false]
      by_cases c2 : (scC I q).2.2.1 k + (scC I q).2.2.2 k ≤ t
      · rw [decide_eq_true c2, cond_true, if_neg (by omega)]
      · rw [decide_eq_false c2, cond_false, if_pos (by omega)]) 0
  refine Eq.trans hl ?_
  show Rn X d co_Sc_wanted _ = _
  rw [sq_wanted_4 h, eN, decide_eq_true (Int32.le_refl _), cond_true]; rfl
theorem k_has {s m : Nat} (k : Int32) (hs : s < 4) (hm : m ≤ 2) (e : I 4 s = Int32.ofNat m) : Cl X (d + 1) 93 [vr 2, vi (Int32.ofNat s), vi k] (pm_mm al D I L) = some (some (vi (b01 (pm_in k m))), pm_mm al D I L) := by
  rw [Cl_s]
  show Rn X d co_To_has (0, [some (vr 2), some (vi (Int32.ofNat s)), some (vi k)], [], pm_mm al D I L) = _
  have i4 : pm_in (Int32.ofNat s) 4 = true := (n_in (by omega)).trans (decide_eq_true (by omega))
  have h0 : (0 : Int32).toInt = 0 := rfl
  have hmi := n_ti (show m < 2147483648 by omega)
  rw [sg_To_has_2_0, i4, cond_true, n_tn (by omega), e]
  simp only [sg_To_has_2_18]
  by_cases c1 : k < 0
  · have : pm_in k m = false := by
      cases hh : pm_in k m with
      | false => rfl
      | true => rw [in_iff] at hh; rw [t_lt] at c1; omega
    rw [decide_eq_true c1, cond_true, sg_To_has_2_19, this]; rfl
  · rw [decide_eq_false c1, cond_false]
    by_cases c2 : Int32.ofNat m ≤ k
    · have : pm_in k m = false := by
        cases hh : pm_in k m with
        | false => rfl
        | true => rw [in_iff] at hh; rw [t_le] at c2; omega
      rw [decide_eq_true c2, cond_true, sg_To_has_2_19, this]; rfl
    · have : pm_in k m = true := by
        rw [in_iff]; rw [t_lt] at c1; rw [t_le] at c2; omega
      rw [decide_eq_false c2, cond_false, sg_To_has_2_19, this]; rfl
end
