section
variable {X : Nat × (Nat → Int32)} {d : Nat} {al : List Nat} {D : Nat → Bool} {I : Nat → Nat → Int32} {L : Nat → Nat → Int64}
theorem ch_cons {n : Nat} {l : List Nat} {t : List (List Nat)} (h : chB n (l :: t) = true) : okB n l = true ∧ ((nr n l = none ∧ t = []) ∨ (∃ l' t', nr n l = some l' ∧ t = l' :: t' ∧ chB n t = true)) := by
  rw [chB, Bool.and_eq_true] at h
  refine ⟨h.1, ?_⟩
  obtain ⟨_, h⟩ := h
  cases hn : nr n l with
  | none =>
    rw [hn] at h
    cases t with
    | nil => exact Or.inl ⟨rfl, rfl⟩
    | cons a t => cases h
  | some l' =>
    rw [hn] at h
    cases t with
    | nil => cases h
    | cons a t =>
      have h2 : (lb l' a && chB n (a :: t)) = true := h
      rw [Bool.and_eq_true] at h2
      exact Or.inr ⟨l', t, rfl, by rw [lb_eq _ _ h2.1], h2.2⟩
theorem ok_prm {n : Nat} {l : List Nat} (h : okB n l = true) (hn : n ≤ 6) : (∀ i, i < 6 → li l i < 6) ∧ prm (fun i => Int32.ofNat (li l i)) n := by
  rw [okB, Bool.and_eq_true, Bool.and_eq_true, Bool.and_eq_true] at h
  obtain ⟨⟨⟨h1, h2⟩, h3⟩, h4⟩ := h
  rw [List.all_eq_true] at h1 h2 h3 h4
  have a1 : ∀ i, i < 6 → li l i < 6 := fun i hi => by
    have := h1 i (List.mem_range.mpr hi)
    exact Nat.le_of_ble_eq_true this
  refine ⟨a1, fun i hi => ⟨li l i, ?_, rfl⟩, fun p hp => ?_, fun i j hi hj e => ?_⟩
  · have := h2 i (List.mem_range.mpr hi)
    exact Nat.le_of_ble_eq_true this
  · have := h3 p (List.mem_range.mpr hp)
    rw [List.any_eq_true] at this
    obtain ⟨i, hi, e⟩ := this
    exact ⟨i, List.mem_range.mp hi, by show Int32.ofNat (li l i) = _; rw [Nat.eq_of_beq_eq_true e]⟩
  · have e : li l i = li l j := (n_eq (by have := a1 i (by omega); omega) (by have := a1 j (by omega); omega)).mp e
    have := h4 i (List.mem_range.mpr hi)
    rw [List.all_eq_true] at this
    have := this j (List.mem_range.mpr hj)
    rw [e] at this
    simp at this
    exact this
def rwP (J : Nat → Nat → Int32) (q : Nat) (f : Nat → Nat) : Prop := ∀ i, i < 6 → J q i = Int32.ofNat (f i)
theorem beq_f {a b : Nat} (h : ¬ a = b) : Nat.beq a b = false := by
  cases hh : Nat.beq a b with
  | false => rfl
  | true => exact absurd (Nat.eq_of_beq_eq_true hh) h
theorem rw_sw {J : Nat → Nat → Int32} {q a b : Nat} {f : Nat → Nat} (h : rwP J q f) (ha : a < 6) (hb : b < 6) : rwP (pm_up (pm_up J q a (J q b)) q b (J q a)) q (sw f a b) := fun i hi => by
  rw [sw]
  by_cases h1 : i = b
  · subst h1; rw [up_eq, h a ha, Nat.beq_refl]; rfl
  · rw [up_ne (by omega)]
    by_cases h2 : i = a
    · subst h2; rw [up_eq, h b hb, beq_f h1, Nat.beq_refl]; rfl
    · rw [up_ne (by omega), h i hi, beq_f h1, beq_f h2]; rfl
theorem sw_lt {f : Nat → Nat} {a b : Nat} (h : ∀ i, i < 6 → f i < 6) (ha : a < 6) (hb : b < 6) : ∀ i, i < 6 → sw f a b i < 6 := fun i hi => by
  rw [sw]
  have := h a ha
  have := h b hb
  have := h i hi
  cases Nat.beq i b <;> cases Nat.beq i a <;> simp only [cond_true, cond_false] <;> assumption
theorem ot_le (f : Nat → Nat) (a : Nat) : ∀ j, ot f a j ≤ j
  | 0 => Nat.le_refl 0
  | j + 1 => by rw [ot]; have := ot_le f a j; cases Nat.ble (f a) (f (j + 1)) <;> simp only [cond_true, cond_false] <;> omega
theorem pv_lt {f : Nat → Nat} {a : Nat} : ∀ m, pv f m = some a → a < m
  | 0, h => by cases h
  | m + 1, h => by
    rw [pv] at h
    cases hb : Nat.ble (f m) (f (m + 1)) with
    | true => rw [hb] at h; cases h; omega
    | false => rw [hb] at h; have := pv_lt m h; omega
theorem dble (a b : Nat) : decide (a ≤ b) = Nat.ble a b := by
  by_cases h : a ≤ b
  · rw [dt h, Nat.ble_eq_true_of_le h]
  · rw [df h]; cases hb : Nat.ble a b with
    | false => rfl
    | true => exact absurd (Nat.le_of_ble_eq_true hb) h
theorem n_m1 (m : Nat) : Int32.ofNat (m + 1) + (-1) = Int32.ofNat m := by rw [← n_s, Int32.add_assoc]; exact Int32.add_zero _
theorem z_m1 : Int32.ofNat 0 + (-1) = (-1) := rfl
theorem rws_map {f : Nat → Nat} {J : Nat → Nat → Int32} {q : Nat} (h : rwP J q f) : rwP J q (li ((List.range 6).map f)) := fun i hi => by
  rw [h i hi, li]
  have : i = 0 ∨ i = 1 ∨ i = 2 ∨ i = 3 ∨ i = 4 ∨ i = 5 := by omega
  rcases this with rfl | rfl | rfl | rfl | rfl | rfl <;> rfl
theorem c_nextRow {n : Nat} {l : List Nat} (hn : n ≤ 6) (en : I 81 25 = Int32.ofNat n) (hr : rwP I 94 (li l)) (hl : ∀ i, i < 6 → li l i < 6) :
    ∃ J, Cl X (d + 2) 262 [vr 81] (pm_mm al D I L) = some (some (vi (b01 (nr n l).isSome)), pm_mm al D J L) ∧ (∀ a j, a ≠ 94 → J a j = I a j) ∧ ∀ l', nr n l = some l' → rwP J 94 (li l') := by
  rw [Cl_s]
  show ∃ J, Rn X (d + 1) co_Mo_nextRow (0, [some (vr 81), none, none], [], pm_mm al D I L) = _ ∧ _
  rw [sg_Mo_nextRow_0, en]
  have s1 : ∀ i, i < 5 → decide (Int32.ofNat (li l i) ≤ Int32.ofNat (li l (i + 1))) = Nat.ble (li l i) (li l (i + 1)) := fun i hi => by
    have := hl i (by omega); have := hl (i + 1) (by omega)
    rw [n_dle (by omega) (by omega), dble]
  have none34 : ∀ x : Int32, x < 0 → Rn X (d + 1) co_Mo_nextRow (34, [some (vr 81), some (vi x), none], [], pm_mm al D I L) = some (some (vi 0), pm_mm al D I L) := fun x hx => by
    rw [sg_Mo_nextRow_34, df (Int32.not_le.mpr hx), cond_false]
  -- the scan for the place
  have scan : ∀ m, m < 6 → ∀ x, (m = 0 → x < 0) → (∀ i, m = i + 1 → x = Int32.ofNat i) → Rn X (d + 1) co_Mo_nextRow (7, [some (vr 81), some (vi x), none], [], pm_mm al D I L) =
      match pv (li l) m with
      | none => some (some (vi 0), pm_mm al D I L)
      | some a => Rn X (d + 1) co_Mo_nextRow (34, [some (vr 81), some (vi (Int32.ofNat a)), none], [], pm_mm al D I L) := by
    intro m
    induction m with
    | zero =>
      intro _ x hx _
      rw [sg_Mo_nextRow_7, dt (hx rfl), cond_true, none34 x (hx rfl)]; rfl
    | succ i ih =>
      intro hm x _ hx
      rw [hx i rfl, sg_Mo_nextRow_7]
      simp (disch := omega) only [e0, e1, e2, e3, e4, e5, e6, e7, e8, e9, e10, e11, e12, e13, e20, e24, e60, e64, e84, e99, e100, e600, e720, e4096, e1000000, df, cond_false, n_in, dt, cond_true, n_s, n_tn, hr i (by omega), hr (i + 1) (by omega), s1 i (by omega), pv]
      cases Nat.ble (li l i) (li l (i + 1)) with
      | true => rfl
      | false =>
        simp only [cond_false]
        refine ih (by omega) _ (fun h => ?_) (fun j h => ?_)
        · subst h; decide
        · subst h; exact n_m1 j
  have start : Rn X (d + 1) co_Mo_nextRow (7, [some (vr 81), some (vi (Int32.ofNat n - 2)), none], [], pm_mm al D I L) =
      match pv (li l) (n - 1) with
      | none => some (some (vi 0), pm_mm al D I L)
      | some a => Rn X (d + 1) co_Mo_nextRow (34, [some (vr 81), some (vi (Int32.ofNat a)), none], [], pm_mm al D I L) := by
    refine scan (n - 1) (by omega) _ (fun h => ?_) (fun i h => ?_)
    · have : n = 0 ∨ n = 1 := by omega
      rcases this with rfl | rfl <;> decide
    · obtain rfl : n = i + 2 := by omega
      exact n_sub (a := i + 2) (b := 2) (by omega)
  rw [start]
  cases hpv : pv (li l) (n - 1) with
  | none =>
    have e : nr n l = none := by rw [nr, hpv]
    rw [e]
    exact ⟨I, rfl, fun _ _ _ => rfl, fun l' h => by cases h⟩
  | some a =>
    have ha := pv_lt _ hpv
    have e : nr n l = some ((List.range 6).map (rv (sw (li l) a (ot (li l) a (n - 1))) 6 (a + 1) (n - 1))) := by rw [nr, hpv]
    have hot := ot_le (li l) a (n - 1)
    have scan2 : ∀ k j, j = a + k → j < 6 → Rn X (d + 1) co_Mo_nextRow (47, [some (vr 81), some (vi (Int32.ofNat a)), some (vi (Int32.ofNat j))], [], pm_mm al D I L) =
        ((Cl X (d + 1) 261 [vr 81, vi (Int32.ofNat a), vi (Int32.ofNat (ot (li l) a j))] (pm_mm al D I L)).bind pm_av).bind (fun r => Rn X (d + 1) co_Mo_nextRow (74, [some (vr 81), some (vi (Int32.ofNat a)), some (vi (Int32.ofNat (ot (li l) a j)))], [], r)) := by
      intro k
      induction k with
      | zero =>
        intro j hj h6
        have : j = a := by omega
        subst this
        have hoj : ot (li l) j j = j := by
          cases j with
          | zero => rfl
          | succ j => rw [ot, Nat.ble_eq_true_of_le (Nat.le_refl _)]; rfl
        rw [sg_Mo_nextRow_47]
        simp (disch := omega) only [n_in, dt, cond_true, n_tn, Int32.le_refl, decide_true, hoj]
      | succ k ih =>
        intro j hj h6
        obtain ⟨v, rfl⟩ : ∃ v, j = v + 1 := ⟨j - 1, by omega⟩
        have t1 := hl a (by omega)
        have t2 := hl (v + 1) (by omega)
        rw [sg_Mo_nextRow_47]
        simp (disch := omega) only [n_in, dt, cond_true, n_tn, hr a (by omega), hr (v + 1) (by omega), n_dle, dble, ot, n_m1]
        cases Nat.ble (li l a) (li l (v + 1)) with
        | true => rfl
        | false => exact ih v (by omega) (by omega)
    have rev : ∀ k lo hi f J, hi ≤ lo + 2 * k → hi < 6 → lo ≤ 6 → (∀ a j, a ≠ 94 → J a j = I a j) → rwP J 94 f → ∃ K, Rn X (d + 1) co_Mo_nextRow (84, [some (vr 81), some (vi (Int32.ofNat lo)), some (vi (Int32.ofNat hi))], [], pm_mm al D J L) = some (some (vi 1), pm_mm al D K L) ∧ (∀ a j, a ≠ 94 → K a j = I a j) ∧ rwP K 94 (rv f k lo hi) := by
      intro k
      induction k with
      | zero =>
        intro lo hi f J h1 h2 h3 hJ hf
        refine ⟨J, ?_, hJ, hf⟩
        rw [sg_Mo_nextRow_84]
        simp (disch := omega) only [n_dle, dt, cond_true]
      | succ k ih =>
        intro lo hi f J h1 h2 h3 hJ hf
        rw [sg_Mo_nextRow_84]
        simp (disch := omega) only [n_dle, dble, rv]
        cases hb : Nat.ble hi lo with
        | true => exact ⟨J, rfl, hJ, hf⟩
        | false =>
          have hlt : lo < hi := by
            rcases Nat.lt_or_ge lo hi with h | h
            · exact h
            · rw [Nat.ble_eq_true_of_le h] at hb; cases hb
          have hsw : Cl X (d + 1) 261 [vr 81, vi (Int32.ofNat lo), vi (Int32.ofNat hi)] (pm_mm al D J L) = some (none, pm_mm al D (pm_up (pm_up J 94 lo (J 94 hi)) 94 hi (J 94 lo)) L) := by
            rw [Cl_s]
            show Rn X d co_Mo_swap (0, [some (vr 81), some (vi (Int32.ofNat lo)), some (vi (Int32.ofNat hi)), none], [], pm_mm al D J L) = _
            rw [sg_Mo_swap_0]
            simp (disch := omega) only [n_in, dt, cond_true, n_tn]
          obtain ⟨v, rfl⟩ : ∃ v, hi = v + 1 := ⟨hi - 1, by omega⟩
          simp only [cond_false, hsw, Option.bind_some, pm_av, sg_Mo_nextRow_95, n_s, n_m1]
          exact ih (lo + 1) v _ _ (by omega) (by omega) (by omega) (fun a j h => by rw [up_ne (by omega), up_ne (by omega)]; exact hJ a j h) (rw_sw hf (by omega) (by omega))
    have hsw : ∀ j, j < 6 → Cl X (d + 1) 261 [vr 81, vi (Int32.ofNat a), vi (Int32.ofNat j)] (pm_mm al D I L) = some (none, pm_mm al D (pm_up (pm_up I 94 a (I 94 j)) 94 j (I 94 a)) L) := fun j hj => by
      rw [Cl_s]
      show Rn X d co_Mo_swap (0, [some (vr 81), some (vi (Int32.ofNat a)), some (vi (Int32.ofNat j)), none], [], pm_mm al D I L) = _
      rw [sg_Mo_swap_0]
      simp (disch := omega) only [n_in, dt, cond_true, n_tn]
    obtain ⟨K, k1, k2, k3⟩ := rev 6 (a + 1) (n - 1) (sw (li l) a (ot (li l) a (n - 1))) (pm_up (pm_up I 94 a (I 94 (ot (li l) a (n - 1)))) 94 (ot (li l) a (n - 1)) (I 94 a)) (by omega) (by omega) (by omega) (fun a j h => by rw [up_ne (by omega), up_ne (by omega)]) (rw_sw hr (by omega) (by omega))
    refine ⟨K, ?_, k2, fun l' h => ?_⟩
    · have e25 : ∀ (j : Nat) (x y : Int32), pm_up (pm_up I 94 a x) 94 j y 81 25 = Int32.ofNat n := fun j x y => by rw [up_ne (by omega), up_ne (by omega)]; exact en
      simp only
      rw [sg_Mo_nextRow_34, en]
      simp (disch := omega) only [a0, a1, a2, a3, a4, a5, a6, a7, a8, a9, a10, a11, a12, a13, a20, a24, a60, a64, a84, a99, a100, a600, a720, a4096, a1000000, dt, cond_true, ls0, ls1, ls2, ls3, ls4, ls5, ls6, ls7, ls8, ls9, ls10, ls11, ls12, ls13, ls20, ls24, ls60, ls64, ls84, ls99, ls100, ls600, ls720, ls4096, ls1000000]
      rw [scan2 (n - 1 - a) (n - 1) (by omega) (by omega), hsw _ (by omega)]
      simp (disch := omega) only [Option.bind_some, pm_av, sg_Mo_nextRow_74, e25, ls0, ls1, ls2, ls3, ls4, ls5, ls6, ls7, ls8, ls9, ls10, ls11, ls12, ls13, ls20, ls24, ls60, ls64, ls84, ls99, ls100, ls600, ls720, ls4096, ls1000000, n_s]
      rw [k1, e]; rfl
    · rw [e] at h; cases h; exact rws_map k3
end
