section
variable {X : Nat × (Nat → Int32)} {d : Nat} {al : List Nat} {D : Nat → Bool} {I : Nat → Nat → Int32} {L : Nat → Nat → Int64}
theorem k_nextRow {b n : Nat} {l : List Nat} (hb : b < 2) (hn : n ≤ 6) (hr : rwP I (51 + 28 * b) (li l)) (hl : ∀ i, i < 6 → li l i < 6) :
    ∃ J, Cl X (d + 2) 162 [vr (51 + 28 * b), vi (Int32.ofNat n)] (pm_mm al D I L) = some (some (vi (b01 (nr n l).isSome)), pm_mm al D J L) ∧ (∀ a j, a ≠ 51 + 28 * b → J a j = I a j) ∧ ∀ l', nr n l = some l' → rwP J (51 + 28 * b) (li l') := by
  rw [Cl_s]
  have st0 : cond (Nat.ble (pm_wd [vr (51 + 28 * b), vi (Int32.ofNat n)]) (pm_mx 162)) (Rn X (d + 1) (pm_co 162) (0, pm_ent (pm_mx 162) [vr (51 + 28 * b), vi (Int32.ofNat n)], [], pm_mm al D I L)) none = Rn X (d + 1) co_Ch_nextRow (0, [some (vr (51 + 28 * b)), some (vi (Int32.ofNat n)), none, none, none, none], [], pm_mm al D I L) := rfl
  rw [st0, sgb_Ch_nextRow_0 hb]
  have s1 : ∀ i, i < 5 → decide (Int32.ofNat (li l i) ≤ Int32.ofNat (li l (i + 1))) = Nat.ble (li l i) (li l (i + 1)) := fun i hi => by
    have := hl i (by omega); have := hl (i + 1) (by omega)
    rw [n_dle (by omega) (by omega), dble]
  have none25 : ∀ x : Int32, x < 0 → Rn X (d + 1) co_Ch_nextRow (25, [some (vr (51 + 28 * b)), some (vi (Int32.ofNat n)), some (vi x), none, none, none], [], pm_mm al D I L) = some (some (vi 0), pm_mm al D I L) := fun x hx => by
    rw [sgb_Ch_nextRow_25 hb, df (Int32.not_le.mpr hx), cond_false]
  have scan : ∀ m, m < 6 → ∀ x, (m = 0 → x < 0) → (∀ i, m = i + 1 → x = Int32.ofNat i) → Rn X (d + 1) co_Ch_nextRow (4, [some (vr (51 + 28 * b)), some (vi (Int32.ofNat n)), some (vi x), none, none, none], [], pm_mm al D I L) =
      match pv (li l) m with
      | none => some (some (vi 0), pm_mm al D I L)
      | some a => Rn X (d + 1) co_Ch_nextRow (25, [some (vr (51 + 28 * b)), some (vi (Int32.ofNat n)), some (vi (Int32.ofNat a)), none, none, none], [], pm_mm al D I L) := by
    intro m
    induction m with
    | zero =>
      intro _ x hx _
      rw [sgb_Ch_nextRow_4 hb, dt (hx rfl), cond_true, none25 x (hx rfl)]; rfl
    | succ i ih =>
      intro hm x _ hx
      rw [hx i rfl, sgb_Ch_nextRow_4 hb]
      simp (disch := omega) only [e0, e1, e2, e3, e4, e5, e6, e7, e8, e9, e10, e11, e12, e13, e20, e24, e60, e64, e84, e99, e100, e600, e720, e4096, e1000000, df, cond_false, n_in, dt, cond_true, n_s, n_tn, hr i (by omega), hr (i + 1) (by omega), s1 i (by omega), pv]
      cases Nat.ble (li l i) (li l (i + 1)) with
      | true => rfl
      | false =>
        simp only [cond_false]
        refine ih (by omega) _ (fun h => ?_) (fun j h => ?_)
        · subst h; decide
        · subst h; exact n_m1 j
  have start : Rn X (d + 1) co_Ch_nextRow (4, [some (vr (51 + 28 * b)), some (vi (Int32.ofNat n)), some (vi (Int32.ofNat n - 2)), none, none, none], [], pm_mm al D I L) =
      match pv (li l) (n - 1) with
      | none => some (some (vi 0), pm_mm al D I L)
      | some a => Rn X (d + 1) co_Ch_nextRow (25, [some (vr (51 + 28 * b)), some (vi (Int32.ofNat n)), some (vi (Int32.ofNat a)), none, none, none], [], pm_mm al D I L) := by
    refine scan (n - 1) (by omega) _ (fun h => ?_) (fun i h => ?_)
    · have : n = 0 ∨ n = 1 := by omega
      rcases this with rfl | rfl <;> decide
    · obtain rfl : n = i + 2 := by omega
      exact n_sub (a := i + 2) (b := 2) (by omega)
  rw [start]
  cases hpv : pv (li l) (n - 1) with
  | none =>
    have e : nr n l = none := by rw [nr, hpv]
    rw [e]
    exact ⟨I, rfl, fun _ _ _ => rfl, fun l' h => by cases h⟩
  | some a =>
    have ha := pv_lt _ hpv
    have e : nr n l = some ((List.range 6).map (rv (sw (li l) a (ot (li l) a (n - 1))) 6 (a + 1) (n - 1))) := by rw [nr, hpv]
    have hot := ot_le (li l) a (n - 1)
    have scan2 : ∀ k j, j = a + k → j < 6 → Rn X (d + 1) co_Ch_nextRow (35, [some (vr (51 + 28 * b)), some (vi (Int32.ofNat n)), some (vi (Int32.ofNat a)), some (vi (Int32.ofNat j)), none, none], [], pm_mm al D I L) =
        Rn X (d + 1) co_Ch_nextRow (55, [some (vr (51 + 28 * b)), some (vi (Int32.ofNat n)), some (vi (Int32.ofNat a)), some (vi (Int32.ofNat (ot (li l) a j))), none, none], [], pm_mm al D I L) := by
      intro k
      induction k with
      | zero =>
        intro j hj h6
        have : j = a := by omega
        subst this
        have hoj : ot (li l) j j = j := by
          cases j with
          | zero => rfl
          | succ j => rw [ot, Nat.ble_eq_true_of_le (Nat.le_refl _)]; rfl
        rw [sgb_Ch_nextRow_35 hb]
        simp (disch := omega) only [n_dle, dt, cond_true, hoj]
      | succ k ih =>
        intro j hj h6
        obtain ⟨v, rfl⟩ : ∃ v, j = v + 1 := ⟨j - 1, by omega⟩
        have t1 := hl a (by omega)
        have t2 := hl (v + 1) (by omega)
        rw [sgb_Ch_nextRow_35 hb, n_dle (by omega) (by omega), df (show ¬ v + 1 ≤ a by omega)]
        simp (disch := omega) only [cond_false, n_in, dt, cond_true, n_tn, hr a (by omega), hr (v + 1) (by omega), n_dle, dble, ot, n_m1]
        cases Nat.ble (li l a) (li l (v + 1)) with
        | true => rfl
        | false => exact ih v (by omega) (by omega)
    have hsw : ∀ i j J, i < 6 → j < 6 → Cl X (d + 1) 163 [vr (51 + 28 * b), vi (Int32.ofNat i), vi (Int32.ofNat j)] (pm_mm al D J L) = some (none, pm_mm al D (pm_up (pm_up J (51 + 28 * b) i (J (51 + 28 * b) j)) (51 + 28 * b) j (J (51 + 28 * b) i)) L) := fun i j J hi hj => by
      rw [Cl_s]
      refine Eq.trans (show _ = Rn X d co_Ch_swap (0, [some (vr (51 + 28 * b)), some (vi (Int32.ofNat i)), some (vi (Int32.ofNat j)), none], [], pm_mm al D J L) from rfl) ?_
      rw [sgb_Ch_swap_0 hb]
      simp (disch := omega) only [n_in, dt, cond_true, n_tn]
    have rev : ∀ k lo hi f J o3, hi ≤ lo + 2 * k → hi < 6 → lo ≤ 6 → (∀ a j, a ≠ 51 + 28 * b → J a j = I a j) → rwP J (51 + 28 * b) f → ∃ K, Rn X (d + 1) co_Ch_nextRow (71, [some (vr (51 + 28 * b)), some (vi (Int32.ofNat n)), some (vi (Int32.ofNat a)), o3, some (vi (Int32.ofNat lo)), some (vi (Int32.ofNat hi))], [], pm_mm al D J L) = some (some (vi 1), pm_mm al D K L) ∧ (∀ a j, a ≠ 51 + 28 * b → K a j = I a j) ∧ rwP K (51 + 28 * b) (rv f k lo hi) := by
      intro k
      induction k with
      | zero =>
        intro lo hi f J o3 h1 h2 h3 hJ hf
        refine ⟨J, ?_, hJ, hf⟩
        rw [sgb_Ch_nextRow_71 hb]
        simp (disch := omega) only [n_dle, dt, cond_true]
      | succ k ih =>
        intro lo hi f J o3 h1 h2 h3 hJ hf
        rw [sgb_Ch_nextRow_71 hb]
        simp (disch := omega) only [n_dle, dble, rv]
        cases hb' : Nat.ble hi lo with
        | true => exact ⟨J, rfl, hJ, hf⟩
        | false =>
          have hlt : lo < hi := by
            rcases Nat.lt_or_ge lo hi with h | h
            · exact h
            · rw [Nat.ble_eq_true_of_le h] at hb'; cases hb'
          obtain ⟨v, rfl⟩ : ∃ v, hi = v + 1 := ⟨hi - 1, by omega⟩
          simp only [cond_false, hsw lo (v + 1) J (by omega) (by omega), Option.bind_some, pm_av, sgb_Ch_nextRow_86 hb, n_s, n_m1]
          exact ih (lo + 1) v _ _ _ (by omega) (by omega) (by omega) (fun a j h => by rw [up_ne (by omega), up_ne (by omega)]; exact hJ a j h) (rw_sw hf (by omega) (by omega))
    obtain ⟨K, k1, k2, k3⟩ := rev 6 (a + 1) (n - 1) (sw (li l) a (ot (li l) a (n - 1))) (pm_up (pm_up I (51 + 28 * b) a (I (51 + 28 * b) (ot (li l) a (n - 1)))) (51 + 28 * b) (ot (li l) a (n - 1)) (I (51 + 28 * b) a)) (pm_nl (some (vi (Int32.ofNat (ot (li l) a (n - 1)))))) (by omega) (by omega) (by omega) (fun a j h => by rw [up_ne (by omega), up_ne (by omega)]) (rw_sw hr (by omega) (by omega))
    refine ⟨K, ?_, k2, fun l' h => ?_⟩
    · simp only
      rw [sgb_Ch_nextRow_25 hb]
      simp (disch := omega) only [a0, a1, a2, a3, a4, a5, a6, a7, a8, a9, a10, a11, a12, a13, a20, a24, a60, a64, a84, a99, a100, a600, a720, a4096, a1000000, dt, cond_true, ls0, ls1, ls2, ls3, ls4, ls5, ls6, ls7, ls8, ls9, ls10, ls11, ls12, ls13, ls20, ls24, ls60, ls64, ls84, ls99, ls100, ls600, ls720, ls4096, ls1000000]
      rw [scan2 (n - 1 - a) (n - 1) (by omega) (by omega), sgb_Ch_nextRow_55 hb, hsw a _ I (by omega) (by omega)]
      simp (disch := omega) only [Option.bind_some, pm_av, sgb_Ch_nextRow_61 hb, ls0, ls1, ls2, ls3, ls4, ls5, ls6, ls7, ls8, ls9, ls10, ls11, ls12, ls13, ls20, ls24, ls60, ls64, ls84, ls99, ls100, ls600, ls720, ls4096, ls1000000, n_s]
      rw [k1, e]; rfl
    · rw [e] at h; cases h; exact rws_map k3
end
