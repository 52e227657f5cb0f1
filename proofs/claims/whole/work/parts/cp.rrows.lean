section
variable {X : Nat × (Nat → Int32)} {d : Nat} {al : List Nat} {D : Nat → Bool} {I : Nat → Nat → Int32} {L : Nat → Nat → Int64}
theorem pw3_le {dd N : Nat} (h : dd ≤ 2) (hN : N ≤ 8) : (dd + 1) ^ N ≤ 6561 := Nat.le_trans (Nat.pow_le_pow_left (show dd + 1 ≤ 3 by omega) N) (Nat.pow_le_pow_right (n := 3) (by omega) hN)
theorem c_rowsOf {s dd N : Nat} (hs : s < 8) (e : I 81 24 = Int32.ofNat s) (eN : I 88 (25 * s) = Int32.ofNat N) (hN : N ≤ 8) : Cl X (d + 2) 219 [vr 81, vi (Int32.ofNat dd)] (pm_mm al D I L) = some (some (vi (Int32.ofNat ((dd + 1) ^ N))), pm_mm al D I L) := by
  have hno := c_notes (X := X) (d := d) (al := al) (D := D) (L := L) (I := I) hs e
  rw [Cl_s]
  show Rn X (d + 1) co_Mo_rowsOf (0, [some (vr 81), some (vi (Int32.ofNat dd)), none, none], [], pm_mm al D I L) = _
  rw [sg_Mo_rowsOf_0]
  have h : ∀ n k, k + n = N → Rn X (d + 1) co_Mo_rowsOf (4, [some (vr 81), some (vi (Int32.ofNat dd)), some (vi (Int32.ofNat ((dd + 1) ^ k))), some (vi (Int32.ofNat k))], [], pm_mm al D I L) = some (some (vi (Int32.ofNat ((dd + 1) ^ N))), pm_mm al D I L) := by
    intro n
    induction n with
    | zero =>
      intro k hk
      obtain rfl : k = N := by omega
      rw [sg_Mo_rowsOf_4, hno]
      simp only [Option.bind_some, pm_ai]
      rw [sg_Mo_rowsOf_9, eN, n_dle (by omega) (by omega), dt (Nat.le_refl _), cond_true]
    | succ n ih =>
      intro k hk
      rw [sg_Mo_rowsOf_4, hno]
      simp only [Option.bind_some, pm_ai]
      rw [sg_Mo_rowsOf_9, eN, n_dle (by omega) (by omega), df (by omega), cond_false, n_s, n_s, n_mul, ← Nat.pow_succ]
      exact ih (k + 1) (by omega)
  exact h N 0 (by omega)
theorem m1_n (c : Nat) : Int32.ofNat (c + 1) - 1 = Int32.ofNat c := by
  have := n_sub (a := c + 1) (b := 1) (by omega)
  exact this.trans (by rw [Nat.add_sub_cancel])
theorem c_layShifts {s dd N n : Nat} (hs : s < 8) (e : I 81 24 = Int32.ofNat s) (eN : I 88 (25 * s) = Int32.ofNat N) (hN : N ≤ 8) (hn : n < 2147483648) (hd : dd ≤ 2) : ∃ M, Cl X (d + 2) 217 [vr 81, vi (Int32.ofNat n), vi (Int32.ofNat dd)] (pm_mm al D I L) = some (none, pm_mm al D M L) ∧ (∀ a j, a ≠ 101 → M a j = I a j) ∧ ∀ j, j < N → M 101 j = Int32.ofNat (sfd (dd + 1) N n j) := by
  have hno := c_notes (X := X) (d := d) (al := al) (D := D) (L := L) (I := I) hs e
  rw [Cl_s]
  show ∃ M, Rn X (d + 1) co_Mo_layShifts (0, [some (vr 81), some (vi (Int32.ofNat n)), some (vi (Int32.ofNat dd)), none, none], [], pm_mm al D I L) = _ ∧ _
  rw [sg_Mo_layShifts_0, hno]
  simp only [Option.bind_some, pm_ai]
  rw [sg_Mo_layShifts_6, eN]
  have h : ∀ c K, c ≤ N → (∀ a j, a ≠ 101 → K a j = I a j) → (∀ j, c ≤ j → j < N → K 101 j = Int32.ofNat (sfd (dd + 1) N n j)) → ∃ M, Rn X (d + 1) co_Mo_layShifts (10, [some (vr 81), some (vi (Int32.ofNat n)), some (vi (Int32.ofNat dd)), some (vi (Int32.ofNat (n / (dd + 1) ^ (N - c)))), some (vi (Int32.ofNat c - 1))], [], pm_mm al D K L) = some (none, pm_mm al D M L) ∧ (∀ a j, a ≠ 101 → M a j = I a j) ∧ ∀ j, j < N → M 101 j = Int32.ofNat (sfd (dd + 1) N n j) := by
    intro c
    induction c with
    | zero =>
      intro K hc k1 k2
      refine ⟨K, ?_, k1, fun j hj => k2 j (by omega) hj⟩
      rw [sg_Mo_layShifts_10, show decide (Int32.ofNat 0 - 1 < 0) = true from rfl, cond_true]
    | succ c ih =>
      intro K hc k1 k2
      have hle : n / (dd + 1) ^ (N - (c + 1)) ≤ n := Nat.div_le_self _ _
      have e1 : decide (Int32.ofNat (dd + 1) = 0) = false := df (fun c => by
        have := (n_eq (a := dd + 1) (b := 0) (by omega) (by omega)).mp c
        omega)
      have e2 : decide (Int32.ofNat c < 0) = false := (n_dlt (a := c) (b := 0) (by omega) (by omega)).trans (df (by omega))
      rw [sg_Mo_layShifts_10, m1_n, e2, cond_false, n_s, e1, Bool.not_false, cond_true, n_in (by omega), dt (show c < 8 by omega), cond_true, cond_true, n_tn (by omega), n_rem (by omega) (by omega) (by omega), n_div (by omega) (by omega) (by omega), Nat.div_div_eq_div_mul, ← Nat.pow_succ, show (N - (c + 1)).succ = N - c by omega]
      have e3 : Int32.ofNat c + (-1) = Int32.ofNat c - 1 := (Int32.sub_eq_add_neg _ _).symm
      rw [e3]
      refine ih _ (by omega) (fun a j ha => by rw [up_ne (by omega)]; exact k1 a j ha) (fun j h1 h2 => ?_)
      by_cases hj : j = c
      · rw [hj, up_eq, sfd, show N - 1 - c = N - (c + 1) by omega]
      · rw [up_ne (by omega)]; exact k2 j (by omega) h2
  have h0 := h N I (Nat.le_refl _) (fun _ _ _ => rfl) (fun j h1 h2 => by omega)
  rw [Nat.sub_self, Nat.pow_zero, Nat.div_one] at h0
  exact h0
theorem c_laterBy {s : Nat} {sh : Nat → Nat} (hs : s < 8) (e : I 81 24 = Int32.ofNat s) (g : gS I s) (h101 : ∀ j, j < (scO I s).1 → I 101 j = Int32.ofNat (sh j)) (h3 : ∀ j, sh j < 3) : ∃ M, Cl X (d + 3) 218 [vr 81] (pm_mm al D I L) = some (some (vi (Int32.ofNat (sfb (scO I s) sh (scO I s).1))), pm_mm al D M L) ∧ (∀ a j, a ≠ 93 → M a j = I a j) ∧ ∀ t, t < 12 → M 93 t = wgs (scO I s) (fun _ => true) sh (scO I s).1 t := by
  obtain ⟨⟨g1, g2⟩, g3, g4⟩ := g
  have eN : I 88 (25 * s) = Int32.ofNat (scO I s).1 := n_of g3
  rw [Cl_s]
  show ∃ M, Rn X (d + 2) co_Mo_laterBy (0, [some (vr 81), none, none, none], [], pm_mm al D I L) = _ ∧ _
  rw [sg_Mo_laterBy_0, c_noNotes]
  simp only [Option.bind_some, pm_av]
  rw [sg_Mo_laterBy_6]
  have h : ∀ n k K o, k + n = (scO I s).1 → (∀ a j, a ≠ 93 → K a j = I a j) → (∀ t, t < 12 → K 93 t = wgs (scO I s) (fun _ => true) sh k t) → ∃ M, Rn X (d + 2) co_Mo_laterBy (8, [some (vr 81), some (vi (Int32.ofNat (sfb (scO I s) sh k))), some (vi (Int32.ofNat k)), o], [], pm_mm al D K L) = some (some (vi (Int32.ofNat (sfb (scO I s) sh (scO I s).1))), pm_mm al D M L) ∧ (∀ a j, a ≠ 93 → M a j = I a j) ∧ ∀ t, t < 12 → M 93 t = wgs (scO I s) (fun _ => true) sh (scO I s).1 t := by
    intro n
    induction n with
    | zero =>
      intro k K o hk k1 k2
      obtain rfl : k = (scO I s).1 := by omega
      have hno := c_notes (X := X) (d := d + 1) (al := al) (D := D) (L := L) (I := K) hs ((k1 81 24 (by omega)).trans e)
      refine ⟨K, ?_, k1, k2⟩
      rw [sg_Mo_laterBy_8, hno]
      simp only [Option.bind_some, pm_ai]
      rw [sg_Mo_laterBy_13, k1 88 _ (by omega), eN, n_dle (by omega) (by omega), dt (Nat.le_refl _), cond_true]
    | succ n ih =>
      intro k K o hk k1 k2
      have hkN : k < (scO I s).1 := by omega
      obtain ⟨q1, q2, q3, q4⟩ := g2 k hkN
      obtain ⟨r1, r2, r3⟩ := g4 k hkN
      have K24 := (k1 81 24 (by omega)).trans e
      have h3k := h3 k
      have hno := c_notes (X := X) (d := d + 1) (al := al) (D := D) (L := L) (I := K) hs K24
      have f0 : K 88 (25 * s + 1 + 3 * k + 0) = Int32.ofNat ((scO I s).2.1 k) := (k1 88 _ (by omega)).trans (n_of r1)
      have f1 : K 88 (25 * s + 1 + 3 * k + 1) = Int32.ofNat ((scO I s).2.2.1 k) := (k1 88 _ (by omega)).trans (n_of r2)
      have f2 : K 88 (25 * s + 1 + 3 * k + 2) = Int32.ofNat ((scO I s).2.2.2 k) := (k1 88 _ (by omega)).trans (n_of r3)
      have n1 : Cl X (d + 2) 199 [vr 81, vi (Int32.ofNat k), vi 1] (pm_mm al D K L) = _ := c_noteOf (d := d + 1) (w := 1) (I := K) hs (show k < 8 by omega) (by omega) K24
      have n2 : Cl X (d + 2) 199 [vr 81, vi (Int32.ofNat k), vi 2] (pm_mm al D K L) = _ := c_noteOf (d := d + 1) (w := 2) (I := K) hs (show k < 8 by omega) (by omega) K24
      have hly := c_layNote (X := X) (d := d) (al := al) (D := D) (L := L) (I := K) (s := s) (k := k) (lt := sh k) hs (by omega) K24 f0 f1 f2 (by omega) q3 (by omega)
      have K101 : K 101 k = Int32.ofNat (sh k) := (k1 101 k (by omega)).trans (h101 k hkN)
      have hb := sfb_le (S := scO I s) h3 k
      have h12 : decide (12 < Int32.ofNat ((scO I s).2.2.1 k + sh k + (scO I s).2.2.2 k)) = decide (12 < (scO I s).2.2.1 k + sh k + (scO I s).2.2.2 k) := n_dlt (a := 12) (by omega) (by omega)
      have ih' := fun K o => ih (k + 1) K o (by omega)
      rw [sfb, fo, ← sfb] at ih'
      have k2' : ∀ t, t < 12 → pm_ups K 93 (lyf (K 93) ((scO I s).2.1 k) ((scO I s).2.2.1 k + sh k) ((scO I s).2.2.2 k)) 93 t = wgs (scO I s) (fun _ => true) sh (k + 1) t := fun t ht => by
        rw [ups_eq, lyf, k2 t ht, wgs, wgs, fo, wg]
        by_cases hc : (scO I s).2.2.1 k + sh k ≤ t ∧ t < (scO I s).2.2.1 k + sh k + (scO I s).2.2.2 k
        · rw [if_pos ⟨hc.1, hc.2, ht⟩, if_pos ⟨rfl, hc⟩]
        · rw [if_neg (fun c => hc ⟨c.1, c.2.1⟩), if_neg (fun c => hc c.2)]
      have k1' : ∀ a j, a ≠ 93 → pm_ups K 93 (lyf (K 93) ((scO I s).2.1 k) ((scO I s).2.2.1 k + sh k) ((scO I s).2.2.2 k)) a j = I a j := fun a j ha => by rw [ups_ne ha]; exact k1 a j ha
      rw [sg_Mo_laterBy_8, hno]
      simp only [Option.bind_some, pm_ai]
      rw [sg_Mo_laterBy_13, k1 88 _ (by omega), eN, n_dle (by omega) (by omega), df (by omega), cond_false, n1, f1]
      simp only [Option.bind_some, pm_ai]
      rw [sg_Mo_laterBy_22, n_in (by omega), dt (show k < 8 by omega), cond_true, n_tn (by omega), K101, n2, f2]
      simp only [Option.bind_some, pm_ai]
      rw [sg_Mo_laterBy_35, n_add, n_add, h12, sg_Mo_laterBy_46, sg_Mo_laterBy_46, n_in (by omega), dt (show k < 8 by omega), cond_true, n_tn (by omega), K101, show decide ((0 : Int32) = 0) = true from rfl, show decide ((1 : Int32) = 0) = false from rfl, cond_true, cond_false]
      by_cases hc : (scO I s).2.2.1 k + sh k + (scO I s).2.2.2 k ≤ 12
      · rw [df (by omega), cond_false, sg_Mo_laterBy_64, n_in (by omega), dt (show k < 8 by omega), cond_true, n_tn (by omega), K101, hly]
        simp only [Option.bind_some, pm_av]
        rw [sg_Mo_laterBy_77, n_s, n_add]
        rw [if_pos hc] at ih'
        exact ih' _ _ k1' k2'
      · rw [dt (by omega), cond_true, sg_Mo_laterBy_64, n_in (by omega), dt (show k < 8 by omega), cond_true, n_tn (by omega), K101, hly]
        simp only [Option.bind_some, pm_av]
        rw [sg_Mo_laterBy_77, n_s]
        rw [if_neg hc] at ih'
        have e9 : Int32.ofNat (sfb (scO I s) sh k) + 1000000 = Int32.ofNat (sfb (scO I s) sh k + 1000000) := n_add _ 1000000
        rw [e9]
        exact ih' _ _ k1' k2'
  exact h (scO I s).1 0 _ none (by omega) (fun a j ha => ups_ne ha) (fun t ht => by rw [ups_eq, if_pos ht]; rfl)
end
