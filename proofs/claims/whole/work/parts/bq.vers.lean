section
variable {X : Nat × (Nat → Int32)} {d : Nat} {al : List Nat} {D : Nat → Bool} {I : Nat → Nat → Int32} {L : Nat → Nat → Int64}
/-- a row's n places at w are those at v -/
def cpP (n v w : Nat) (f g : Nat → Int32) : Prop := (∀ k, k < n → g (n * w + k) = f (n * v + k)) ∧ ∀ j, ¬ (n * w ≤ j ∧ j < n * w + n) → g j = f j
theorem cpr {a len n v w : Nat} (hn : n ≤ 58) (hv : v < 4) (hw : w < 4) (hvw : ¬ v = w) (hl : 4 * n ≤ len)
    (h0 : ∀ J, Rn X d co_Mo_copyRow (0, [some (vr a), some (vi (Int32.ofNat n)), some (vi (Int32.ofNat v)), some (vi (Int32.ofNat w)), none], [], pm_mm al D J L) = Rn X d co_Mo_copyRow (3, [some (vr a), some (vi (Int32.ofNat n)), some (vi (Int32.ofNat v)), some (vi (Int32.ofNat w)), some (vi 0)], [], pm_mm al D J L))
    (h3 : ∀ x4 J, Rn X d co_Mo_copyRow (3, [some (vr a), some (vi (Int32.ofNat n)), some (vi (Int32.ofNat v)), some (vi (Int32.ofNat w)), some (vi x4)], [], pm_mm al D J L) = cond (decide (Int32.ofNat n ≤ x4)) (some (none, pm_mm al D J L)) (cond (pm_in ((Int32.ofNat n * Int32.ofNat v) + x4) len) (cond (pm_in ((Int32.ofNat n * Int32.ofNat w) + x4) len) (Rn X d co_Mo_copyRow (3, [some (vr a), some (vi (Int32.ofNat n)), some (vi (Int32.ofNat v)), some (vi (Int32.ofNat w)), some (vi (x4 + 1))], [], pm_mm al D (pm_up J a (((Int32.ofNat n * Int32.ofNat w) + x4).toNatClampNeg) (J a (((Int32.ofNat n * Int32.ofNat v) + x4).toNatClampNeg))) L)) none) none)) :
    ∃ J, Cl X (d + 1) 170 [vr a, vi (Int32.ofNat n), vi (Int32.ofNat v), vi (Int32.ofNat w)] (pm_mm al D I L) = some (none, pm_mm al D J L) ∧ cpP n v w (I a) (J a) ∧ ∀ b, ¬ b = a → J b = I b := by
  have e1 : n * v + n ≤ 4 * n := by have := Nat.mul_le_mul_left n (show v + 1 ≤ 4 by omega); rw [Nat.mul_add, Nat.mul_one] at this; omega
  have e2 : n * w + n ≤ 4 * n := by have := Nat.mul_le_mul_left n (show w + 1 ≤ 4 by omega); rw [Nat.mul_add, Nat.mul_one] at this; omega
  have dis : n * v + n ≤ n * w ∨ n * w + n ≤ n * v := by
    by_cases c : v < w
    · left; have := Nat.mul_le_mul_left n (show v + 1 ≤ w by omega); rw [Nat.mul_add, Nat.mul_one] at this; omega
    · right; have := Nat.mul_le_mul_left n (show w + 1 ≤ v by omega); rw [Nat.mul_add, Nat.mul_one] at this; omega
  rw [Cl_s]
  show ∃ J, Rn X d co_Mo_copyRow (0, [some (vr a), some (vi (Int32.ofNat n)), some (vi (Int32.ofNat v)), some (vi (Int32.ofNat w)), none], [], pm_mm al D I L) = _ ∧ _
  obtain ⟨J, j1, j2, j3, j4⟩ := lp n (fun k J => Rn X d co_Mo_copyRow (3, [some (vr a), some (vi (Int32.ofNat n)), some (vi (Int32.ofNat v)), some (vi (Int32.ofNat w)), some (vi (Int32.ofNat k))], [], pm_mm al D J L)) (fun k J => (∀ i, i < k → J a (n * w + i) = I a (n * v + i)) ∧ (∀ j, ¬ (n * w ≤ j ∧ j < n * w + k) → J a j = I a j) ∧ ∀ b, ¬ b = a → J b = I b) (fun k J hk hq => by
    obtain ⟨q1, q2, q3⟩ := hq
    refine ⟨pm_up J a (n * w + k) (J a (n * v + k)), ?_, fun i hi => ?_, fun j hj => ?_, fun b hb => by rw [up_rw hb]; exact q3 b hb⟩
    · show Rn X d co_Mo_copyRow _ = Rn X d co_Mo_copyRow _
      rw [h3, n_dle (by omega) (by omega), df (by omega), cond_false, n_mul n v, n_mul n w, n_add (n * v) k, n_add (n * w) k, n_in (by omega), dt (by omega), cond_true, n_in (by omega), dt (by omega), cond_true, n_tn (by omega), n_tn (by omega), n_s]
    · by_cases hik : i = k
      · subst hik; rw [up_eq]; exact q2 _ (by omega)
      · rw [up_ne (by omega)]; exact q1 i (by omega)
    · rw [up_ne (by omega)]; exact q2 j (by omega)) 0 I (Nat.zero_le _) ⟨fun i hi => absurd hi (Nat.not_lt_zero i), fun _ _ => rfl, fun _ _ => rfl⟩
  refine ⟨J, ?_, ⟨j2, j3⟩, j4⟩
  rw [h0]
  refine Eq.trans j1 ?_
  rw [h3, n_dle (by omega) (by omega), dt (Nat.le_refl _), cond_true]
def wd (a : Nat) : Nat := if a = 82 then 600 else if a = 86 then 4 else if a = 87 then 58 else if a = 88 then 50 else if a = 89 then 2 else if a = 90 then 34 else 1
/-- version w of the reference is now what version v was -/
def VC (I J : Nat → Nat → Int32) (v w : Nat) : Prop := (∀ a, 82 ≤ a → a ≤ 90 → cpP (wd a) v w (I a) (J a)) ∧ ∀ a, ¬ (82 ≤ a ∧ a ≤ 90) → J a = I a
theorem c_copyAll {v w : Nat} (hv : v < 4) (hw : w < 4) (hvw : ¬ v = w) (hb : ∀ j, j < 2400 → byt (I 82 j)) : ∃ J, Cl X (d + 2) 171 [vr 81, vi (Int32.ofNat v), vi (Int32.ofNat w)] (pm_mm al D I L) = some (none, pm_mm al D J L) ∧ VC I J v w := by
  rw [Cl_s]
  show ∃ J, Rn X (d + 1) co_Mo_copyAll (0, [some (vr 81), some (vi (Int32.ofNat v)), some (vi (Int32.ofNat w)), none], [], pm_mm al D I L) = _ ∧ _
  have s1 : (600 : Int32) * Int32.ofNat v = Int32.ofNat (600 * v) := n_mul 600 v
  have s2 : (600 : Int32) * Int32.ofNat w = Int32.ofNat (600 * w) := n_mul 600 w
  obtain ⟨J1, j1, c82, f82⟩ : ∃ J1, Rn X (d + 1) co_Mo_copyAll (2, [some (vr 81), some (vi (Int32.ofNat v)), some (vi (Int32.ofNat w)), some (vi (Int32.ofNat 0))], [], pm_mm al D I L) = Rn X (d + 1) co_Mo_copyAll (2, [some (vr 81), some (vi (Int32.ofNat v)), some (vi (Int32.ofNat w)), some (vi (Int32.ofNat 600))], [], pm_mm al D J1 L) ∧ cpP 600 v w (I 82) (J1 82) ∧ ∀ b, ¬ b = 82 → J1 b = I b := by
    obtain ⟨J, j1, j2, j3, j4⟩ := lp 600 (fun k J => Rn X (d + 1) co_Mo_copyAll (2, [some (vr 81), some (vi (Int32.ofNat v)), some (vi (Int32.ofNat w)), some (vi (Int32.ofNat k))], [], pm_mm al D J L)) (fun k J => (∀ i, i < k → J 82 (600 * w + i) = I 82 (600 * v + i)) ∧ (∀ j, ¬ (600 * w ≤ j ∧ j < 600 * w + k) → J 82 j = I 82 j) ∧ ∀ b, ¬ b = 82 → J b = I b) (fun k J hk hq => by
      obtain ⟨q1, q2, q3⟩ := hq
      have hv0 : J 82 (600 * v + k) = I 82 (600 * v + k) := q2 _ (by omega)
      have hbv : pm_ib (J 82 (600 * v + k)) = I 82 (600 * v + k) := by rw [hv0]; exact hb _ (by omega)
      refine ⟨pm_up J 82 (600 * w + k) (I 82 (600 * v + k)), ?_, fun i hi => ?_, fun j hj => ?_, fun b hb => by rw [up_rw hb]; exact q3 b hb⟩
      · show Rn X (d + 1) co_Mo_copyAll _ = Rn X (d + 1) co_Mo_copyAll _
        rw [sg_Mo_copyAll_2, show decide ((600 : Int32) ≤ Int32.ofNat k) = false from (n_dle (a := 600) (by omega) (by omega)).trans (df (by omega)), cond_false, s1, s2, n_add (600 * v) k, n_add (600 * w) k, n_in (by omega), dt (by omega), cond_true, n_in (by omega), dt (by omega), cond_true, n_tn (by omega), n_tn (by omega), hbv, n_s]
      · by_cases hik : i = k
        · subst hik; rw [up_eq]
        · rw [up_ne (by omega)]; exact q1 i (by omega)
      · rw [up_ne (by omega)]; exact q2 j (by omega)) 0 I (Nat.zero_le _) ⟨fun i hi => absurd hi (Nat.not_lt_zero i), fun _ _ => rfl, fun _ _ => rfl⟩
    exact ⟨J, j1, ⟨j2, j3⟩, j4⟩
  obtain ⟨J2, a83, c83, f83⟩ := cpr (X := X) (d := d) (al := al) (D := D) (L := L) (I := J1) (a := 83) (len := 4) (n := 1) (v := v) (w := w) (by omega) hv hw hvw (by omega) (fun J => sg_Mo_copyRow_83_0 ..) (fun x4 J => sg_Mo_copyRow_83_3 ..)
  obtain ⟨J3, a84, c84, f84⟩ := cpr (X := X) (d := d) (al := al) (D := D) (L := L) (I := J2) (a := 84) (len := 4) (n := 1) (v := v) (w := w) (by omega) hv hw hvw (by omega) (fun J => sg_Mo_copyRow_84_0 ..) (fun x4 J => sg_Mo_copyRow_84_3 ..)
  obtain ⟨J4, a85, c85, f85⟩ := cpr (X := X) (d := d) (al := al) (D := D) (L := L) (I := J3) (a := 85) (len := 4) (n := 1) (v := v) (w := w) (by omega) hv hw hvw (by omega) (fun J => sg_Mo_copyRow_85_0 ..) (fun x4 J => sg_Mo_copyRow_85_3 ..)
  obtain ⟨J5, a86, c86, f86⟩ := cpr (X := X) (d := d) (al := al) (D := D) (L := L) (I := J4) (a := 86) (len := 16) (n := 4) (v := v) (w := w) (by omega) hv hw hvw (by omega) (fun J => sg_Mo_copyRow_86_0 ..) (fun x4 J => sg_Mo_copyRow_86_3 ..)
  obtain ⟨J6, a87, c87, f87⟩ := cpr (X := X) (d := d) (al := al) (D := D) (L := L) (I := J5) (a := 87) (len := 232) (n := 58) (v := v) (w := w) (by omega) hv hw hvw (by omega) (fun J => sg_Mo_copyRow_87_0 ..) (fun x4 J => sg_Mo_copyRow_87_3 ..)
  obtain ⟨J7, a88, c88, f88⟩ := cpr (X := X) (d := d) (al := al) (D := D) (L := L) (I := J6) (a := 88) (len := 200) (n := 50) (v := v) (w := w) (by omega) hv hw hvw (by omega) (fun J => sg_Mo_copyRow_88_0 ..) (fun x4 J => sg_Mo_copyRow_88_3 ..)
  obtain ⟨J8, a89, c89, f89⟩ := cpr (X := X) (d := d) (al := al) (D := D) (L := L) (I := J7) (a := 89) (len := 8) (n := 2) (v := v) (w := w) (by omega) hv hw hvw (by omega) (fun J => sg_Mo_copyRow_89_0 ..) (fun x4 J => sg_Mo_copyRow_89_3 ..)
  obtain ⟨J9, a90, c90, f90⟩ := cpr (X := X) (d := d) (al := al) (D := D) (L := L) (I := J8) (a := 90) (len := 136) (n := 34) (v := v) (w := w) (by omega) hv hw hvw (by omega) (fun J => sg_Mo_copyRow_90_0 ..) (fun x4 J => sg_Mo_copyRow_90_3 ..)
  have a83 : Cl X (d + 1) 170 [vr 83, vi 1, vi (Int32.ofNat v), vi (Int32.ofNat w)] (pm_mm al D J1 L) = some (none, pm_mm al D J2 L) := a83
  have a84 : Cl X (d + 1) 170 [vr 84, vi 1, vi (Int32.ofNat v), vi (Int32.ofNat w)] (pm_mm al D J2 L) = some (none, pm_mm al D J3 L) := a84
  have a85 : Cl X (d + 1) 170 [vr 85, vi 1, vi (Int32.ofNat v), vi (Int32.ofNat w)] (pm_mm al D J3 L) = some (none, pm_mm al D J4 L) := a85
  have a86 : Cl X (d + 1) 170 [vr 86, vi 4, vi (Int32.ofNat v), vi (Int32.ofNat w)] (pm_mm al D J4 L) = some (none, pm_mm al D J5 L) := a86
  have a87 : Cl X (d + 1) 170 [vr 87, vi 58, vi (Int32.ofNat v), vi (Int32.ofNat w)] (pm_mm al D J5 L) = some (none, pm_mm al D J6 L) := a87
  have a88 : Cl X (d + 1) 170 [vr 88, vi 50, vi (Int32.ofNat v), vi (Int32.ofNat w)] (pm_mm al D J6 L) = some (none, pm_mm al D J7 L) := a88
  have a89 : Cl X (d + 1) 170 [vr 89, vi 2, vi (Int32.ofNat v), vi (Int32.ofNat w)] (pm_mm al D J7 L) = some (none, pm_mm al D J8 L) := a89
  have a90 : Cl X (d + 1) 170 [vr 90, vi 34, vi (Int32.ofNat v), vi (Int32.ofNat w)] (pm_mm al D J8 L) = some (none, pm_mm al D J9 L) := a90
  have j1 : Rn X (d + 1) co_Mo_copyAll (2, [some (vr 81), some (vi (Int32.ofNat v)), some (vi (Int32.ofNat w)), some (vi 0)], [], pm_mm al D I L) = Rn X (d + 1) co_Mo_copyAll (2, [some (vr 81), some (vi (Int32.ofNat v)), some (vi (Int32.ofNat w)), some (vi (Int32.ofNat 600))], [], pm_mm al D J1 L) := j1
  refine ⟨J9, ?_, fun a h1 h2 => ?_, fun a h => ?_⟩
  · rw [sg_Mo_copyAll_0, j1, sg_Mo_copyAll_2, show decide ((600 : Int32) ≤ Int32.ofNat 600) = true from rfl, cond_true, a83]
    simp only [Option.bind_some, pm_av]
    rw [sg_Mo_copyAll_49, a84]
    simp only [Option.bind_some, pm_av]
    rw [sg_Mo_copyAll_59, a85]
    simp only [Option.bind_some, pm_av]
    rw [sg_Mo_copyAll_69, a86]
    simp only [Option.bind_some, pm_av]
    rw [sg_Mo_copyAll_79, a87]
    simp only [Option.bind_some, pm_av]
    rw [sg_Mo_copyAll_90, a88]
    simp only [Option.bind_some, pm_av]
    rw [sg_Mo_copyAll_101, a89]
    simp only [Option.bind_some, pm_av]
    rw [sg_Mo_copyAll_111, a90]
    simp only [Option.bind_some, pm_av]
    rw [sg_Mo_copyAll_122]
  · have hc : a = 82 ∨ a = 83 ∨ a = 84 ∨ a = 85 ∨ a = 86 ∨ a = 87 ∨ a = 88 ∨ a = 89 ∨ a = 90 := by omega
    rcases hc with h | h | h | h | h | h | h | h | h <;> subst h
    · rw [f90 _ (by decide), f89 _ (by decide), f88 _ (by decide), f87 _ (by decide), f86 _ (by decide), f85 _ (by decide), f84 _ (by decide), f83 _ (by decide)]; exact c82
    · rw [f90 _ (by decide), f89 _ (by decide), f88 _ (by decide), f87 _ (by decide), f86 _ (by decide), f85 _ (by decide), f84 _ (by decide), ← f82 83 (by decide)]; exact c83
    · rw [f90 _ (by decide), f89 _ (by decide), f88 _ (by decide), f87 _ (by decide), f86 _ (by decide), f85 _ (by decide), ← f82 84 (by decide), ← f83 84 (by decide)]; exact c84
    · rw [f90 _ (by decide), f89 _ (by decide), f88 _ (by decide), f87 _ (by decide), f86 _ (by decide), ← f82 85 (by decide), ← f83 85 (by decide), ← f84 85 (by decide)]; exact c85
    · rw [f90 _ (by decide), f89 _ (by decide), f88 _ (by decide), f87 _ (by decide), ← f82 86 (by decide), ← f83 86 (by decide), ← f84 86 (by decide), ← f85 86 (by decide)]; exact c86
    · rw [f90 _ (by decide), f89 _ (by decide), f88 _ (by decide), ← f82 87 (by decide), ← f83 87 (by decide), ← f84 87 (by decide), ← f85 87 (by decide), ← f86 87 (by decide)]; exact c87
    · rw [f90 _ (by decide), f89 _ (by decide), ← f82 88 (by decide), ← f83 88 (by decide), ← f84 88 (by decide), ← f85 88 (by decide), ← f86 88 (by decide), ← f87 88 (by decide)]; exact c88
    · rw [f90 _ (by decide), ← f82 89 (by decide), ← f83 89 (by decide), ← f84 89 (by decide), ← f85 89 (by decide), ← f86 89 (by decide), ← f87 89 (by decide), ← f88 89 (by decide)]; exact c89
    · rw [← f82 90 (by decide), ← f83 90 (by decide), ← f84 90 (by decide), ← f85 90 (by decide), ← f86 90 (by decide), ← f87 90 (by decide), ← f88 90 (by decide), ← f89 90 (by decide)]; exact c90
  · rw [f90 _ (by omega), f89 _ (by omega), f88 _ (by omega), f87 _ (by omega), f86 _ (by omega), f85 _ (by omega), f84 _ (by omega), f83 _ (by omega), f82 _ (by omega)]
/-- version v of the reference is what K has -/
def MR (I K : Nat → Nat → Int32) (v : Nat) : Prop := ∀ a, 82 ≤ a → a ≤ 90 → ∀ k, k < wd a → I a (wd a * v + k) = K a k
theorem MR_c {I J K : Nat → Nat → Int32} {v w : Nat} (h : VC I J v w) (m : MR I K v) : MR J K w := fun a h1 h2 k hk => ((h.1 a h1 h2).1 k hk).trans (m a h1 h2 k hk)
theorem MR_o {I J K : Nat → Nat → Int32} {u v w : Nat} (h : VC I J v w) (hu : ¬ u = w) (m : MR I K u) : MR J K u := fun a h1 h2 k hk => ((h.1 a h1 h2).2 _ (by
  by_cases c : u < w
  · have := Nat.mul_le_mul_left (wd a) (show u + 1 ≤ w by omega); rw [Nat.mul_add, Nat.mul_one] at this; omega
  · have := Nat.mul_le_mul_left (wd a) (show w + 1 ≤ u by omega); rw [Nat.mul_add, Nat.mul_one] at this; omega)).trans (m a h1 h2 k hk)
end
