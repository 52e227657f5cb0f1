section
variable {X : Nat × (Nat → Int32)} {d : Nat}
theorem law_loop (hN : X.1 < 2147483648) : ∀ n i al D I L, X.1 < i + 6 * n + 6 → (i ≤ X.1 ∨ i = 0) → INV D I L → LE1 al D (Rn X (d + 18) co_La_law (18, [some (vr 900), some (vr 1), some (vr 81), some (vi (Int32.ofNat i))], [], pm_mm al D I L)) := by
  have e6 : (Int32.ofNat X.1 - 6).toInt = X.1 - 6 := by
    have a6 : (6 : Int32).toInt = 6 := rfl
    rw [t_sub (by rw [n_ti hN, a6]; omega) (by rw [n_ti hN, a6]; omega), n_ti hN, a6]
  intro n
  induction n with
  | zero =>
    intro i al D I L h1 h2 iv
    refine ⟨al, D, I, L, ?_, gA_refl⟩
    rw [sg_La_law_18, dt (t_lt.mpr (by rw [e6, n_ti (by omega)]; omega)), cond_true]
  | succ n ih =>
    intro i al D I L h1 h2 iv
    by_cases hc : X.1 < i + 6
    · refine ⟨al, D, I, L, ?_, gA_refl⟩
      rw [sg_La_law_18, dt (t_lt.mpr (by rw [e6, n_ti (by omega)]; omega)), cond_true]
    · have p : ∀ j, j < 6 → pm_in (Int32.ofNat (i + j)) X.1 = true := fun j hj => by rw [n_in (by omega)]; exact dt (by omega)
      have e1 : Int32.ofNat i + 1 = Int32.ofNat (i + 1) := n_add i 1
      have e2 : Int32.ofNat i + 2 = Int32.ofNat (i + 2) := n_add i 2
      have e3 : Int32.ofNat i + 3 = Int32.ofNat (i + 3) := n_add i 3
      have e4 : Int32.ofNat i + 4 = Int32.ofNat (i + 4) := n_add i 4
      have e5 : Int32.ofNat i + 5 = Int32.ofNat (i + 5) := n_add i 5
      have e7 : Int32.ofNat i + 6 = Int32.ofNat (i + 6) := n_add i 6
      refine law_step (p 0 (by omega)) (by rw [e1]; exact p 1 (by omega)) (by rw [e2]; exact p 2 (by omega)) (by rw [e3]; exact p 3 (by omega)) (by rw [e4]; exact p 4 (by omega)) (by rw [e5]; exact p 5 (by omega)) (df (fun c => by rw [t_lt, e6, n_ti (by omega)] at c; omega)) iv (fun al1 D1 I1 L1 iv1 ga => ?_)
      obtain ⟨al2, D2, I2, L2, r1, r2⟩ := ih (i + 6) al1 D1 I1 L1 (by omega) (.inl (by omega)) iv1
      refine ⟨al2, D2, I2, L2, ?_, gA_trans ga r2⟩
      rw [sg_La_law_1902, e7]; exact r1
theorem law_run (hN : X.1 < 2147483648) {al : List Nat} {D : Nat → Bool} {I : Nat → Nat → Int32} {L : Nat → Nat → Int64} {o2 o3 : Option pm_V} (h : INV D I L) : LE1 al D (Rn X (d + 18) co_La_law (15, [some (vr 900), some (vr 1), o2, o3], [vr 81], pm_mm al D I L)) := by
  rw [sg_La_law_15]
  exact law_loop hN X.1 0 al D I L (by omega) (.inr rfl) h
end
