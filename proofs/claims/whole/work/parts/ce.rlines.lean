section
variable {X : Nat × (Nat → Int32)} {d : Nat} {al : List Nat} {D : Nat → Bool} {I : Nat → Nat → Int32} {L : Nat → Nat → Int64}
theorem lst_congr {P Q : Nat → Int32} : ∀ k, (∀ i, i < k → P (2 + 3 * i) = Q (2 + 3 * i) ∧ P (3 + 3 * i) = Q (3 + 3 * i)) → lst P k = lst Q k
  | 0, _ => rfl
  | k + 1, h => by rw [lst, lst, lst_congr k (fun i hi => h i (by omega)), (h k (by omega)).1, (h k (by omega)).2]
theorem gt_ti (x y : Int32) : (if y < x then x else y).toInt = max x.toInt y.toInt := by
  by_cases h : y < x
  · rw [if_pos h]; rw [t_lt] at h; omega
  · rw [if_neg h]; rw [t_lt] at h; omega
theorem c_note {T : Nat → Int32} {n b ℓ : Nat} {f : Nat × Nat} {P : Nat → Int32} {y : Int64} (h : LW T n b 1 ℓ f P I L) (hy : decide (lg_cmp y 1852798053 = 0) = true) :
    match rdn T n 3 3 0 (te T n b) (fun _ => 0) (lnf 3 ℓ f b) with
    | .inl q => ∃ J M, Rn X (d + 4) co_Mo_noteLine (0, [some (vr 81), some (vl y), none, some (vi (Int32.ofNat b))], [], pm_mm al D I L) = some (some (vi 0), pm_mm al D J M) ∧ lnB T n q I J L M
    | .inr (v, f', p) => ∃ J M, Rn X (d + 4) co_Mo_noteLine (0, [some (vr 81), some (vl y), none, some (vi (Int32.ofNat b))], [], pm_mm al D I L) = some (some (vi 1), pm_mm al D J M) ∧ lnG T n b 1 3 ℓ v f' p P I J L M := by
  have h0 := h
  obtain ⟨hT, hb, ht, hf, h22, hR⟩ := h
  have hn := hT.2.1
  obtain ⟨u1, u2⟩ := te_rg (T := T) hb
  obtain ⟨K, k1, k2, k3⟩ := c_full (X := X) (d := d + 2) (al := al) (D := D) (I := I) (L := L) (b := b) (m := 8) hR.1 (by omega) (by omega) hf (by omega)
  have k1 : Cl X (d + 4) 181 [vr 81, vi 8, vi (Int32.ofNat b)] (pm_mm al D I L) = some (none, pm_mm al D K L) := k1
  rw [show mkr f (decide (¬ min ℓ 8 = 8)) 3 b = lnf 3 ℓ f b from lnf_full (w := 3) (by decide)] at k3
  obtain ⟨J1, M1, a1, a2, a3, a4, a5, a6, a7⟩ := wordTok (X := X) (d := d + 2) (al := al) (D := D) h0 k2 k3
  have s0 : Rn X (d + 4) co_Mo_noteLine (0, [some (vr 81), some (vl y), none, some (vi (Int32.ofNat b))], [], pm_mm al D I L) = ((Cl X (d + 4) 180 [vr 81, vi 0, vi 0, vi 5] (pm_mm al D J1 M1)).bind pm_ai).bind (fun r => Rn X (d + 4) co_Mo_noteLine (31, [some (vr 81), some (vl y), none, some (vi (Int32.ofNat b))], [vi r.1], r.2)) := by
    rw [sg_Mo_noteLine_0, hy, cond_true, k1]
    simp only [Option.bind_some, pm_av]
    rw [sg_Mo_noteLine_20, a1]
    simp only [Option.bind_some, pm_av]
    rw [sg_Mo_noteLine_24]
  have tk := c_takes (X := X) (d := d + 1) (al := al) (D := D) (T := T) (n := n) (w := 3) (by omega) (fun i V => match i with
    | 0 => ((Cl X (d + 4) 180 [vr 81, vi 0, vi 0, vi 5] V).bind pm_ai).bind (fun r => Rn X (d + 4) co_Mo_noteLine (31, [some (vr 81), some (vl y), none, some (vi (Int32.ofNat b))], [vi r.1], r.2))
    | 1 => ((Cl X (d + 4) 180 [vr 81, vi 1, vi 0, vi 11] V).bind pm_ai).bind (fun r => Rn X (d + 4) co_Mo_noteLine (42, [some (vr 81), some (vl y), none, some (vi (Int32.ofNat b))], [vi r.1], r.2))
    | 2 => ((Cl X (d + 4) 180 [vr 81, vi 2, vi 1, vi 6] V).bind pm_ai).bind (fun r => Rn X (d + 4) co_Mo_noteLine (53, [some (vr 81), some (vl y), none, some (vi (Int32.ofNat b))], [vi r.1], r.2))
    | _ => ((Cl X (d + 4) 167 [vi (V.2.2.2.1 81 21), vi ((V.2.2.2.1 92 1 + V.2.2.2.1 92 2) - 1)] V).bind pm_ai).bind (fun r => Rn X (d + 4) co_Mo_noteLine (81, [some (vr 81), some (vl y), none, some (vi (Int32.ofNat b))], [vi r.1, vr 81], r.2))) (fun i hi J J' M M' u hc => by
      have hi : i < 3 := hi
      have h4 : i = 0 ∨ i = 1 ∨ i = 2 := by omega
      rcases h4 with e | e | e <;> subst e
      · have hc : Cl X (d + 4) 180 [vr 81, vi 0, vi 0, vi 5] (pm_mm al D J M) = some (some (vi u), pm_mm al D J' M') := hc
        show ((Cl X (d + 4) 180 [vr 81, vi 0, vi 0, vi 5] (pm_mm al D J M)).bind pm_ai).bind (fun r => Rn X (d + 4) co_Mo_noteLine (31, [some (vr 81), some (vl y), none, some (vi (Int32.ofNat b))], [vi r.1], r.2)) = _
        rw [hc]
        simp only [Option.bind_some, pm_ai]
        rw [sg_Mo_noteLine_31, sg_Mo_noteLine_56]
      · have hc : Cl X (d + 4) 180 [vr 81, vi 1, vi 0, vi 11] (pm_mm al D J M) = some (some (vi u), pm_mm al D J' M') := hc
        show ((Cl X (d + 4) 180 [vr 81, vi 1, vi 0, vi 11] (pm_mm al D J M)).bind pm_ai).bind (fun r => Rn X (d + 4) co_Mo_noteLine (42, [some (vr 81), some (vl y), none, some (vi (Int32.ofNat b))], [vi r.1], r.2)) = _
        rw [hc]
        simp only [Option.bind_some, pm_ai]
        rw [sg_Mo_noteLine_42, sg_Mo_noteLine_56]
      · have hc : Cl X (d + 4) 180 [vr 81, vi 2, vi 1, vi 6] (pm_mm al D J M) = some (some (vi u), pm_mm al D J' M') := hc
        show ((Cl X (d + 4) 180 [vr 81, vi 2, vi 1, vi 6] (pm_mm al D J M)).bind pm_ai).bind (fun r => Rn X (d + 4) co_Mo_noteLine (53, [some (vr 81), some (vl y), none, some (vi (Int32.ofNat b))], [vi r.1], r.2)) = _
        rw [hc]
        simp only [Option.bind_some, pm_ai]
        rw [sg_Mo_noteLine_53, sg_Mo_noteLine_56]) 3 0 (te T n b) (fun _ => 0) (lnf 3 ℓ f b) J1 M1 rfl u2 a7 a4 a5 (fun _ => a6) (fun k hk => absurd hk (Nat.not_lt_zero k))
  revert tk
  cases hr : rdn T n 3 3 0 (te T n b) (fun _ => 0) (lnf 3 ℓ f b) with
  | inl q =>
    intro tk
    obtain ⟨J, M, c1, c2, c3, c4⟩ := tk
    refine ⟨J, M, ?_, c2, fun a j h1 h2 h3 => by rw [c3 a j h1 h3, a2 a j (by unfold tksR; omega)], fun a j hh => by rw [c4 a j hh, a3 a j hh]⟩
    rw [s0]; exact c1
  | inr x =>
    obtain ⟨v, f', p⟩ := x
    intro tk
    obtain ⟨J, M, c1, c2, c3, c4, c5, c6, c7, c8, c9⟩ := tk
    have e91 : ∀ k, J 91 k = I 91 k := fun k => by rw [c4 _ _ (by unfold tksR; omega) (by omega), a2 _ _ (by unfold tksR; omega)]
    have c9 : ∀ k, k < 3 → J 92 k = Int32.ofNat (v k) := c9
    obtain ⟨r1, r2, r3⟩ := hR
    have c1 : ((Cl X (d + 4) 180 [vr 81, vi 0, vi 0, vi 5] (pm_mm al D J1 M1)).bind pm_ai).bind (fun r => Rn X (d + 4) co_Mo_noteLine (31, [some (vr 81), some (vl y), none, some (vi (Int32.ofNat b))], [vi r.1], r.2)) = ((Cl X (d + 4) 167 [vi (J 81 21), vi ((J 92 1 + J 92 2) - 1)] (pm_mm al D J M)).bind pm_ai).bind (fun r => Rn X (d + 4) co_Mo_noteLine (81, [some (vr 81), some (vl y), none, some (vi (Int32.ofNat b))], [vi r.1, vr 81], r.2)) := c1
    have j0 : J 91 0 = Int32.ofNat (min ℓ 8) := (e91 0).trans r1
    have j21 : J 81 21 = I 81 21 := by rw [c4 _ _ (by unfold tksR; omega) (by omega), a2 _ _ (by unfold tksR; omega)]
    generalize hg : (if J 92 1 + J 92 2 - 1 < J 81 21 then J 81 21 else J 92 1 + J 92 2 - 1) = g
    obtain ⟨Q, x1, x2, x3, x4⟩ := c_keepRow (X := X) (d := d + 3) (al := al) (D := D) (I := pm_up J 81 21 g) (L := M) (c := min ℓ 8) (W := 3) (v := v) (Or.inr rfl) (by rw [up_ne (by omega)]; exact j0) (by omega) (fun i hi => by rw [up_ne (by omega)]; exact c9 i hi)
    have x1 : Cl X (d + 4) 184 [vr 81, vi 3, vi 8] (pm_mm al D (pm_up J 81 21 g) M) = some (none, pm_mm al D Q M) := x1
    have qo : ∀ a j, ¬ a = 91 → ¬ (a = 81 ∧ j = 21) → Q a j = J a j := fun a j h1 h2 => by rw [x2 a j h1, up_ne h2]
    have q21 : Q 81 21 = g := by rw [x2 _ _ (by omega), up_eq]
    refine ⟨Q, M, ?_, tpM_up a7 (fun a j hh => by rw [qo a j (by omega) (by omega), c4 a j (by unfold tksR; omega) (by omega)]), c2, by omega, TK_up c6 (fun j hj => qo _ _ (by omega) (by omega)), fR_up c7 (Nat.le_refl _) (fun j hj => qo _ _ (by omega) (by omega)), ⟨?_, fun k h1 h2 => ?_, fun hz => ?_⟩, fun a j h1 h2 h3 => ?_, fun a j hh => by rw [c5 a j hh, a3 a j hh]⟩
    · rw [s0, c1, c_greater, hg]
      simp only [Option.bind_some, pm_ai]
      rw [sg_Mo_noteLine_81, x1]
      simp only [Option.bind_some, pm_av]
      rw [sg_Mo_noteLine_91]
    · rw [x3, show lnn 3 ℓ = ℓ + 1 from rfl, show min (min ℓ 8 + 1) 8 = min (ℓ + 1) 8 by omega]
    · rw [x4 k h1, up_ne (by omega), e91, r2 k h1 h2, pay]
      by_cases hl : ℓ < 8
      · rw [Nat.min_eq_left (show ℓ ≤ 8 by omega), dt hl, Bool.true_and, cond_true]
        by_cases e2 : k = 3 + 3 * ℓ
        · rw [e2, pu_eq, dt (by omega), dt (by omega), Bool.and_self, cond_true, show 3 + 3 * ℓ - (1 + 3 * ℓ) = 2 by omega]
        · rw [pu_ne e2]
          by_cases e1 : k = 2 + 3 * ℓ
          · rw [e1, pu_eq, dt (by omega), dt (by omega), Bool.and_self, cond_true, show 2 + 3 * ℓ - (1 + 3 * ℓ) = 1 by omega]
          · rw [pu_ne e1]
            by_cases e0 : k = 1 + 3 * ℓ
            · rw [e0, pu_eq, dt (by omega), dt (by omega), Bool.and_self, cond_true, Nat.sub_self]
            · rw [pu_ne e0]
              by_cases e4 : 1 + 3 * ℓ ≤ k
              · rw [dt e4, df (show ¬ k < 1 + 3 * ℓ + 3 by omega), Bool.and_false, cond_false]
              · rw [df e4, Bool.false_and, cond_false]
      · rw [Nat.min_eq_right (show 8 ≤ ℓ by omega), df hl, df (show ¬ 8 < 8 by omega), Bool.false_and, cond_false, cond_false]
    · obtain ⟨g1, g2, _⟩ := rdn_good _ _ _ _ _ _ _ _ hr hz
      obtain ⟨m1, m2⟩ := mkr_0 (by omega) g1
      have hl : ℓ + 1 ≤ 8 := by
        rw [Bool.or_eq_true, decide_eq_true_iff, decide_eq_true_iff] at m1
        rcases m1 with m1 | m1
        · cases m1
        · exact m1
      have b1 := rng_b (lo := 0) (hi := 11) (g2 1 (by omega) (by omega)).1 (g2 1 (by omega) (by omega)).2 rfl rfl (by omega) (by omega)
      have b2 := rng_b (lo := 1) (hi := 6) (g2 2 (by omega) (by omega)).1 (g2 2 (by omega) (by omega)).2 rfl rfl (by omega) (by omega)
      have r3' := r3 m2
      rw [q21, ← hg, gt_ti, j21, r3', c9 1 (by omega), c9 2 (by omega)]
      have v1 := (g2 1 (by omega) (by omega)).2
      have v2 := (g2 2 (by omega) (by omega)).2
      obtain ⟨b1a, b1b⟩ := b1
      obtain ⟨b2a, b2b⟩ := b2
      have e1 : (1 : Int32).toInt = 1 := rfl
      have hs : (Int32.ofNat (v 1) + Int32.ofNat (v 2)).toInt = (Int32.ofNat (v 1)).toInt + (Int32.ofNat (v 2)).toInt := t_add (by omega) (by omega)
      have el : lst (pu (pu (pu P (1 + 3 * ℓ) (Int32.ofNat (v 0))) (2 + 3 * ℓ) (Int32.ofNat (v 1))) (3 + 3 * ℓ) (Int32.ofNat (v 2))) ℓ = lst P ℓ := lst_congr ℓ (fun i hi => ⟨by rw [pu_ne (by omega), pu_ne (by omega), pu_ne (by omega)], by rw [pu_ne (by omega), pu_ne (by omega), pu_ne (by omega)]⟩)
      rw [t_sub (by omega) (by omega), hs, e1, show lnn 3 ℓ = ℓ + 1 from rfl, pay, dt (show ℓ < 8 by omega), cond_true, lst, pu_ne (show ¬ 2 + 3 * ℓ = 3 + 3 * ℓ by omega), pu_eq, pu_eq, el]
      omega
    · rw [qo a j h2 (by omega), c4 a j (by unfold tksR; omega) h3, a2 a j (by unfold tksR; omega)]
theorem c_heard {T : Nat → Int32} {n b ℓ : Nat} {f : Nat × Nat} {P : Nat → Int32} {y : Int64} (h : LW T n b 3 ℓ f P I L) (hy : decide (lg_cmp y 448377483876 = 0) = true) :
    match rdn T n 6 2 0 (te T n b) (fun _ => 0) (lnf 6 ℓ f b) with
    | .inl q => ∃ J M, Rn X (d + 4) co_Mo_heardLine (0, [some (vr 81), some (vl y), none, some (vi (Int32.ofNat b))], [], pm_mm al D I L) = some (some (vi 0), pm_mm al D J M) ∧ lnB T n q I J L M
    | .inr (v, f', p) => ∃ J M, Rn X (d + 4) co_Mo_heardLine (0, [some (vr 81), some (vl y), none, some (vi (Int32.ofNat b))], [], pm_mm al D I L) = some (some (vi 1), pm_mm al D J M) ∧ lnG T n b 3 6 ℓ v f' p P I J L M := by
  have h0 := h
  obtain ⟨hT, hb, ht, hf, h22, hR⟩ := h
  have hn := hT.2.1
  obtain ⟨u1, u2⟩ := te_rg (T := T) hb
  obtain ⟨K, k1, k2, k3⟩ := c_full (X := X) (d := d + 2) (al := al) (D := D) (I := I) (L := L) (b := b) (m := 8) hR.1 (by omega) (by omega) hf (by omega)
  have k1 : Cl X (d + 4) 181 [vr 81, vi 8, vi (Int32.ofNat b)] (pm_mm al D I L) = some (none, pm_mm al D K L) := k1
  rw [show mkr f (decide (¬ min ℓ 8 = 8)) 3 b = lnf 6 ℓ f b from lnf_full (w := 6) (by decide)] at k3
  obtain ⟨J1, M1, a1, a2, a3, a4, a5, a6, a7⟩ := wordTok (X := X) (d := d + 2) (al := al) (D := D) h0 k2 k3
  have s0 : Rn X (d + 4) co_Mo_heardLine (0, [some (vr 81), some (vl y), none, some (vi (Int32.ofNat b))], [], pm_mm al D I L) = ((Cl X (d + 4) 180 [vr 81, vi 0, vi 0, vi 11] (pm_mm al D J1 M1)).bind pm_ai).bind (fun r => Rn X (d + 4) co_Mo_heardLine (32, [some (vr 81), some (vl y), none, some (vi (Int32.ofNat b))], [vi r.1], r.2)) := by
    rw [sg_Mo_heardLine_0, hy, cond_true, k1]
    simp only [Option.bind_some, pm_av]
    rw [sg_Mo_heardLine_20, a1]
    simp only [Option.bind_some, pm_av]
    rw [sg_Mo_heardLine_24]
  have tk := c_takes (X := X) (d := d + 1) (al := al) (D := D) (T := T) (n := n) (w := 6) (by omega) (fun i V => match i with
    | 0 => ((Cl X (d + 4) 180 [vr 81, vi 0, vi 0, vi 11] V).bind pm_ai).bind (fun r => Rn X (d + 4) co_Mo_heardLine (32, [some (vr 81), some (vl y), none, some (vi (Int32.ofNat b))], [vi r.1], r.2))
    | 1 => ((Cl X (d + 4) 180 [vr 81, vi 1, vi 0, vi 6] V).bind pm_ai).bind (fun r => Rn X (d + 4) co_Mo_heardLine (43, [some (vr 81), some (vl y), none, some (vi (Int32.ofNat b))], [vi r.1], r.2))
    | _ => ((Cl X (d + 4) 184 [vr 81, vi 2, vi 8] V).bind pm_av).bind (fun r => Rn X (d + 4) co_Mo_heardLine (55, [some (vr 81), some (vl y), none, some (vi (Int32.ofNat b))], [], r))) (fun i hi J J' M M' u hc => by
      have hi : i < 2 := hi
      have h4 : i = 0 ∨ i = 1 := by omega
      rcases h4 with e | e <;> subst e
      · have hc : Cl X (d + 4) 180 [vr 81, vi 0, vi 0, vi 11] (pm_mm al D J M) = some (some (vi u), pm_mm al D J' M') := hc
        show ((Cl X (d + 4) 180 [vr 81, vi 0, vi 0, vi 11] (pm_mm al D J M)).bind pm_ai).bind (fun r => Rn X (d + 4) co_Mo_heardLine (32, [some (vr 81), some (vl y), none, some (vi (Int32.ofNat b))], [vi r.1], r.2)) = _
        rw [hc]
        simp only [Option.bind_some, pm_ai]
        rw [sg_Mo_heardLine_32, sg_Mo_heardLine_46]
      · have hc : Cl X (d + 4) 180 [vr 81, vi 1, vi 0, vi 6] (pm_mm al D J M) = some (some (vi u), pm_mm al D J' M') := hc
        show ((Cl X (d + 4) 180 [vr 81, vi 1, vi 0, vi 6] (pm_mm al D J M)).bind pm_ai).bind (fun r => Rn X (d + 4) co_Mo_heardLine (43, [some (vr 81), some (vl y), none, some (vi (Int32.ofNat b))], [vi r.1], r.2)) = _
        rw [hc]
        simp only [Option.bind_some, pm_ai]
        rw [sg_Mo_heardLine_43, sg_Mo_heardLine_46]) 2 0 (te T n b) (fun _ => 0) (lnf 6 ℓ f b) J1 M1 rfl u2 a7 a4 a5 (fun _ => a6) (fun k hk => absurd hk (Nat.not_lt_zero k))
  revert tk
  cases hr : rdn T n 6 2 0 (te T n b) (fun _ => 0) (lnf 6 ℓ f b) with
  | inl q =>
    intro tk
    obtain ⟨J, M, c1, c2, c3, c4⟩ := tk
    refine ⟨J, M, ?_, c2, fun a j h1 h2 h3 => by rw [c3 a j h1 h3, a2 a j (by unfold tksR; omega)], fun a j hh => by rw [c4 a j hh, a3 a j hh]⟩
    rw [s0]; exact c1
  | inr x =>
    obtain ⟨v, f', p⟩ := x
    intro tk
    obtain ⟨J, M, c1, c2, c3, c4, c5, c6, c7, c8, c9⟩ := tk
    have e91 : ∀ k, J 91 k = I 91 k := fun k => by rw [c4 _ _ (by unfold tksR; omega) (by omega), a2 _ _ (by unfold tksR; omega)]
    have c9 : ∀ k, k < 2 → J 92 k = Int32.ofNat (v k) := c9
    obtain ⟨r1, r2⟩ := hR
    have c1 : ((Cl X (d + 4) 180 [vr 81, vi 0, vi 0, vi 11] (pm_mm al D J1 M1)).bind pm_ai).bind (fun r => Rn X (d + 4) co_Mo_heardLine (32, [some (vr 81), some (vl y), none, some (vi (Int32.ofNat b))], [vi r.1], r.2)) = ((Cl X (d + 4) 184 [vr 81, vi 2, vi 8] (pm_mm al D J M)).bind pm_av).bind (fun r => Rn X (d + 4) co_Mo_heardLine (55, [some (vr 81), some (vl y), none, some (vi (Int32.ofNat b))], [], r)) := c1
    have j0 : J 91 0 = Int32.ofNat (min ℓ 8) := (e91 0).trans r1
    obtain ⟨Q, x1, x2, x3, x4⟩ := c_keepRow (X := X) (d := d + 3) (al := al) (D := D) (I := J) (L := M) (c := min ℓ 8) (W := 2) (v := v) (Or.inl rfl) j0 (by omega) (fun i hi => c9 i hi)
    have x1 : Cl X (d + 4) 184 [vr 81, vi 2, vi 8] (pm_mm al D J M) = some (none, pm_mm al D Q M) := x1
    refine ⟨Q, M, ?_, tpM_up a7 (fun a j hh => by rw [x2 a j (by omega), c4 a j (by unfold tksR; omega) (by omega)]), c2, by omega, TK_up c6 (fun j hj => x2 _ _ (by omega)), fR_up c7 (Nat.le_refl _) (fun j hj => x2 _ _ (by omega)), ⟨?_, fun k h1 h2 => ?_⟩, fun a j h1 h2 h3 => ?_, fun a j hh => by rw [c5 a j hh, a3 a j hh]⟩
    · rw [s0, c1, x1]
      simp only [Option.bind_some, pm_av]
      rw [sg_Mo_heardLine_55]
    · rw [x3, show lnn 6 ℓ = ℓ + 1 from rfl, show min (min ℓ 8 + 1) 8 = min (ℓ + 1) 8 by omega]
    · rw [x4 k h1, e91, r2 k h1 h2]
      show _ = cond (decide (ℓ < 8)) (pu (pu P (1 + 2 * ℓ) (Int32.ofNat (v 0))) (2 + 2 * ℓ) (Int32.ofNat (v 1))) P k
      by_cases hl : ℓ < 8
      · rw [Nat.min_eq_left (show ℓ ≤ 8 by omega), dt hl, Bool.true_and, cond_true]
        by_cases e1 : k = 2 + 2 * ℓ
        · rw [e1, pu_eq, dt (by omega), dt (by omega), Bool.and_self, cond_true, show 2 + 2 * ℓ - (1 + 2 * ℓ) = 1 by omega]
        · rw [pu_ne e1]
          by_cases e0 : k = 1 + 2 * ℓ
          · rw [e0, pu_eq, dt (by omega), dt (by omega), Bool.and_self, cond_true, Nat.sub_self]
          · rw [pu_ne e0]
            by_cases e4 : 1 + 2 * ℓ ≤ k
            · rw [dt e4, df (show ¬ k < 1 + 2 * ℓ + 2 by omega), Bool.and_false, cond_false]
            · rw [df e4, Bool.false_and, cond_false]
      · rw [Nat.min_eq_right (show 8 ≤ ℓ by omega), df hl, df (show ¬ 8 < 8 by omega), Bool.false_and, cond_false, cond_false]
    · rw [x2 a j h2, c4 a j (by unfold tksR; omega) h3, a2 a j (by unfold tksR; omega)]
theorem c_tread {T : Nat → Int32} {n b ℓ : Nat} {f : Nat × Nat} {P : Nat → Int32} {y : Int64} (h : LW T n b 2 ℓ f P I L) (hy : decide (lg_cmp y 500135453028 = 0) = true) :
    match rdn T n 4 1 0 (te T n b) (fun _ => 0) (lnf 4 ℓ f b) with
    | .inl q => ∃ J M, Rn X (d + 4) co_Mo_treadLine (21, [some (vr 81), some (vl y), none], [], pm_mm al D I L) = some (some (vi 0), pm_mm al D J M) ∧ lnB T n q I J L M
    | .inr (v, f', p) => ∃ J M, Rn X (d + 4) co_Mo_treadLine (21, [some (vr 81), some (vl y), none], [], pm_mm al D I L) = some (some (vi 1), pm_mm al D J M) ∧ lnG T n b 2 4 ℓ v f' p P I J L M := by
  have h0 := h
  obtain ⟨hT, hb, ht, hf, h22, hR⟩ := h
  have hn := hT.2.1
  obtain ⟨u1, u2⟩ := te_rg (T := T) hb
  have k3 : fR (lnf 4 ℓ f b) (b + 1) I := fR_up hf (by omega) (fun _ _ => rfl)
  obtain ⟨J1, M1, a1, a2, a3, a4, a5, a6, a7⟩ := wordTok (X := X) (d := d + 2) (al := al) (D := D) h0 (fun _ _ _ => rfl) k3
  have s0 : Rn X (d + 4) co_Mo_treadLine (21, [some (vr 81), some (vl y), none], [], pm_mm al D I L) = ((Cl X (d + 4) 180 [vr 81, vi 0, vi 0, vi 11] (pm_mm al D J1 M1)).bind pm_ai).bind (fun r => Rn X (d + 4) co_Mo_treadLine (33, [some (vr 81), some (vl y), none], [vi r.1], r.2)) := by
    rw [sg_Mo_treadLine_21, a1]
    simp only [Option.bind_some, pm_av]
    rw [sg_Mo_treadLine_25]
  have tk := c_takes (X := X) (d := d + 1) (al := al) (D := D) (T := T) (n := n) (w := 4) (by omega) (fun i V => match i with
    | 0 => ((Cl X (d + 4) 180 [vr 81, vi 0, vi 0, vi 11] V).bind pm_ai).bind (fun r => Rn X (d + 4) co_Mo_treadLine (33, [some (vr 81), some (vl y), none], [vi r.1], r.2))
    | _ => cond (decide (V.2.2.2.1 81 22 = 0)) (Rn X (d + 4) co_Mo_treadLine (94, [some (vr 81), some (vl y), none], [], V)) (cond (decide (lg_cmp y 500135453028 = 0)) (Rn X (d + 4) co_Mo_treadLine (93, [some (vr 81), some (vl y), none], [vi (V.2.2.2.1 91 0 ||| (1 <<< (V.2.2.2.1 92 0 &&& 31))), vi 0, vr 91], V)) (Rn X (d + 4) co_Mo_treadLine (93, [some (vr 81), some (vl y), none], [vi (V.2.2.2.1 91 0 &&& ((1 <<< (V.2.2.2.1 92 0 &&& 31)) ^^^ (-1))), vi 0, vr 91], V)))) (fun i hi J J' M M' u hc => by
      have hi : i < 1 := hi
      have h4 : i = 0 := by omega
      subst h4
      · have hc : Cl X (d + 4) 180 [vr 81, vi 0, vi 0, vi 11] (pm_mm al D J M) = some (some (vi u), pm_mm al D J' M') := hc
        show ((Cl X (d + 4) 180 [vr 81, vi 0, vi 0, vi 11] (pm_mm al D J M)).bind pm_ai).bind (fun r => Rn X (d + 4) co_Mo_treadLine (33, [some (vr 81), some (vl y), none], [vi r.1], r.2)) = _
        rw [hc]
        simp only [Option.bind_some, pm_ai]
        rw [sg_Mo_treadLine_33]) 1 0 (te T n b) (fun _ => 0) (lnf 4 ℓ f b) J1 M1 rfl u2 a7 a4 a5 (fun _ => a6) (fun k hk => absurd hk (Nat.not_lt_zero k))
  revert tk
  cases hr : rdn T n 4 1 0 (te T n b) (fun _ => 0) (lnf 4 ℓ f b) with
  | inl q =>
    intro tk
    obtain ⟨J, M, c1, c2, c3, c4⟩ := tk
    refine ⟨J, M, ?_, c2, fun a j h1 h2 h3 => by rw [c3 a j h1 h3, a2 a j (by unfold tksR; omega)], fun a j hh => by rw [c4 a j hh, a3 a j hh]⟩
    rw [s0]; exact c1
  | inr x =>
    obtain ⟨v, f', p⟩ := x
    intro tk
    obtain ⟨J, M, c1, c2, c3, c4, c5, c6, c7, c8, c9⟩ := tk
    have e91 : ∀ k, J 91 k = I 91 k := fun k => by rw [c4 _ _ (by unfold tksR; omega) (by omega), a2 _ _ (by unfold tksR; omega)]
    have c9 : ∀ k, k < 1 → J 92 k = Int32.ofNat (v k) := c9
    have c1 : ((Cl X (d + 4) 180 [vr 81, vi 0, vi 0, vi 11] (pm_mm al D J1 M1)).bind pm_ai).bind (fun r => Rn X (d + 4) co_Mo_treadLine (33, [some (vr 81), some (vl y), none], [vi r.1], r.2)) = cond (decide (J 81 22 = 0)) (Rn X (d + 4) co_Mo_treadLine (94, [some (vr 81), some (vl y), none], [], pm_mm al D J M)) (cond (decide (lg_cmp y 500135453028 = 0)) (Rn X (d + 4) co_Mo_treadLine (93, [some (vr 81), some (vl y), none], [vi (J 91 0 ||| (1 <<< (J 92 0 &&& 31))), vi 0, vr 91], pm_mm al D J M)) (Rn X (d + 4) co_Mo_treadLine (93, [some (vr 81), some (vl y), none], [vi (J 91 0 &&& ((1 <<< (J 92 0 &&& 31)) ^^^ (-1))), vi 0, vr 91], pm_mm al D J M))) := c1
    by_cases hz : J 81 22 = 0
    · refine ⟨J, M, ?_, tpM_up a7 (fun a j hh => c4 a j (by unfold tksR; omega) (by omega)), c2, by omega, c6, c7, fun h8 => ?_, fun a j h1 h2 h3 => by rw [c4 a j (by unfold tksR; omega) h3, a2 a j (by unfold tksR; omega)], fun a j hh => by rw [c5 a j hh, a3 a j hh]⟩
      · rw [s0, c1, dt hz, cond_true, sg_Mo_treadLine_94]
      · have := c8 h8
        rw [hz] at this
        exact absurd this (by decide)
    · refine ⟨pm_up J 91 0 (J 91 0 ||| (1 <<< (J 92 0 &&& 31))), M, ?_, tpM_up a7 (fun a j hh => by rw [up_ne (by omega), c4 a j (by unfold tksR; omega) (by omega)]), c2, by omega, TK_up c6 (fun j hj => up_ne (by omega)), fR_up c7 (Nat.le_refl _) (fun j hj => up_ne (by omega)), fun h8 => ?_, fun a j h1 h2 h3 => by rw [up_ne (by omega), c4 a j (by unfold tksR; omega) h3, a2 a j (by unfold tksR; omega)], fun a j hh => by rw [c5 a j hh, a3 a j hh]⟩
      · rw [s0, c1, df hz, cond_false, hy, cond_true, sg_Mo_treadLine_93, sg_Mo_treadLine_94]
      · obtain ⟨g1, _, _⟩ := rdn_good _ _ _ _ _ _ _ _ hr h8
        obtain ⟨_, m2⟩ := mkr_0 (by omega) g1
        rw [up_eq, pay, pu_eq, e91, hR m2, c9 0 (by omega)]
theorem c_rest {T : Nat → Int32} {n b ℓ : Nat} {f : Nat × Nat} {P : Nat → Int32} {y : Int64} (h : LW T n b 2 ℓ f P I L) (hy : decide (lg_cmp y 500135453028 = 0) = false) :
    match rdn T n 5 1 0 (te T n b) (fun _ => 0) (lnf 5 ℓ f b) with
    | .inl q => ∃ J M, Rn X (d + 4) co_Mo_treadLine (21, [some (vr 81), some (vl y), none], [], pm_mm al D I L) = some (some (vi 0), pm_mm al D J M) ∧ lnB T n q I J L M
    | .inr (v, f', p) => ∃ J M, Rn X (d + 4) co_Mo_treadLine (21, [some (vr 81), some (vl y), none], [], pm_mm al D I L) = some (some (vi 1), pm_mm al D J M) ∧ lnG T n b 2 5 ℓ v f' p P I J L M := by
  have h0 := h
  obtain ⟨hT, hb, ht, hf, h22, hR⟩ := h
  have hn := hT.2.1
  obtain ⟨u1, u2⟩ := te_rg (T := T) hb
  have k3 : fR (lnf 5 ℓ f b) (b + 1) I := fR_up hf (by omega) (fun _ _ => rfl)
  obtain ⟨J1, M1, a1, a2, a3, a4, a5, a6, a7⟩ := wordTok (X := X) (d := d + 2) (al := al) (D := D) h0 (fun _ _ _ => rfl) k3
  have s0 : Rn X (d + 4) co_Mo_treadLine (21, [some (vr 81), some (vl y), none], [], pm_mm al D I L) = ((Cl X (d + 4) 180 [vr 81, vi 0, vi 0, vi 11] (pm_mm al D J1 M1)).bind pm_ai).bind (fun r => Rn X (d + 4) co_Mo_treadLine (33, [some (vr 81), some (vl y), none], [vi r.1], r.2)) := by
    rw [sg_Mo_treadLine_21, a1]
    simp only [Option.bind_some, pm_av]
    rw [sg_Mo_treadLine_25]
  have tk := c_takes (X := X) (d := d + 1) (al := al) (D := D) (T := T) (n := n) (w := 5) (by omega) (fun i V => match i with
    | 0 => ((Cl X (d + 4) 180 [vr 81, vi 0, vi 0, vi 11] V).bind pm_ai).bind (fun r => Rn X (d + 4) co_Mo_treadLine (33, [some (vr 81), some (vl y), none], [vi r.1], r.2))
    | _ => cond (decide (V.2.2.2.1 81 22 = 0)) (Rn X (d + 4) co_Mo_treadLine (94, [some (vr 81), some (vl y), none], [], V)) (cond (decide (lg_cmp y 500135453028 = 0)) (Rn X (d + 4) co_Mo_treadLine (93, [some (vr 81), some (vl y), none], [vi (V.2.2.2.1 91 0 ||| (1 <<< (V.2.2.2.1 92 0 &&& 31))), vi 0, vr 91], V)) (Rn X (d + 4) co_Mo_treadLine (93, [some (vr 81), some (vl y), none], [vi (V.2.2.2.1 91 0 &&& ((1 <<< (V.2.2.2.1 92 0 &&& 31)) ^^^ (-1))), vi 0, vr 91], V)))) (fun i hi J J' M M' u hc => by
      have hi : i < 1 := hi
      have h4 : i = 0 := by omega
      subst h4
      · have hc : Cl X (d + 4) 180 [vr 81, vi 0, vi 0, vi 11] (pm_mm al D J M) = some (some (vi u), pm_mm al D J' M') := hc
        show ((Cl X (d + 4) 180 [vr 81, vi 0, vi 0, vi 11] (pm_mm al D J M)).bind pm_ai).bind (fun r => Rn X (d + 4) co_Mo_treadLine (33, [some (vr 81), some (vl y), none], [vi r.1], r.2)) = _
        rw [hc]
        simp only [Option.bind_some, pm_ai]
        rw [sg_Mo_treadLine_33]) 1 0 (te T n b) (fun _ => 0) (lnf 5 ℓ f b) J1 M1 rfl u2 a7 a4 a5 (fun _ => a6) (fun k hk => absurd hk (Nat.not_lt_zero k))
  revert tk
  cases hr : rdn T n 5 1 0 (te T n b) (fun _ => 0) (lnf 5 ℓ f b) with
  | inl q =>
    intro tk
    obtain ⟨J, M, c1, c2, c3, c4⟩ := tk
    refine ⟨J, M, ?_, c2, fun a j h1 h2 h3 => by rw [c3 a j h1 h3, a2 a j (by unfold tksR; omega)], fun a j hh => by rw [c4 a j hh, a3 a j hh]⟩
    rw [s0]; exact c1
  | inr x =>
    obtain ⟨v, f', p⟩ := x
    intro tk
    obtain ⟨J, M, c1, c2, c3, c4, c5, c6, c7, c8, c9⟩ := tk
    have e91 : ∀ k, J 91 k = I 91 k := fun k => by rw [c4 _ _ (by unfold tksR; omega) (by omega), a2 _ _ (by unfold tksR; omega)]
    have c9 : ∀ k, k < 1 → J 92 k = Int32.ofNat (v k) := c9
    have c1 : ((Cl X (d + 4) 180 [vr 81, vi 0, vi 0, vi 11] (pm_mm al D J1 M1)).bind pm_ai).bind (fun r => Rn X (d + 4) co_Mo_treadLine (33, [some (vr 81), some (vl y), none], [vi r.1], r.2)) = cond (decide (J 81 22 = 0)) (Rn X (d + 4) co_Mo_treadLine (94, [some (vr 81), some (vl y), none], [], pm_mm al D J M)) (cond (decide (lg_cmp y 500135453028 = 0)) (Rn X (d + 4) co_Mo_treadLine (93, [some (vr 81), some (vl y), none], [vi (J 91 0 ||| (1 <<< (J 92 0 &&& 31))), vi 0, vr 91], pm_mm al D J M)) (Rn X (d + 4) co_Mo_treadLine (93, [some (vr 81), some (vl y), none], [vi (J 91 0 &&& ((1 <<< (J 92 0 &&& 31)) ^^^ (-1))), vi 0, vr 91], pm_mm al D J M))) := c1
    by_cases hz : J 81 22 = 0
    · refine ⟨J, M, ?_, tpM_up a7 (fun a j hh => c4 a j (by unfold tksR; omega) (by omega)), c2, by omega, c6, c7, fun h8 => ?_, fun a j h1 h2 h3 => by rw [c4 a j (by unfold tksR; omega) h3, a2 a j (by unfold tksR; omega)], fun a j hh => by rw [c5 a j hh, a3 a j hh]⟩
      · rw [s0, c1, dt hz, cond_true, sg_Mo_treadLine_94]
      · have := c8 h8
        rw [hz] at this
        exact absurd this (by decide)
    · refine ⟨pm_up J 91 0 (J 91 0 &&& ((1 <<< (J 92 0 &&& 31)) ^^^ (-1))), M, ?_, tpM_up a7 (fun a j hh => by rw [up_ne (by omega), c4 a j (by unfold tksR; omega) (by omega)]), c2, by omega, TK_up c6 (fun j hj => up_ne (by omega)), fR_up c7 (Nat.le_refl _) (fun j hj => up_ne (by omega)), fun h8 => ?_, fun a j h1 h2 h3 => by rw [up_ne (by omega), c4 a j (by unfold tksR; omega) h3, a2 a j (by unfold tksR; omega)], fun a j hh => by rw [c5 a j hh, a3 a j hh]⟩
      · rw [s0, c1, df hz, cond_false, hy, cond_false, sg_Mo_treadLine_93, sg_Mo_treadLine_94]
      · obtain ⟨g1, _, _⟩ := rdn_good _ _ _ _ _ _ _ _ hr h8
        obtain ⟨_, m2⟩ := mkr_0 (by omega) g1
        rw [up_eq, pay, pu_eq, e91, hR m2, c9 0 (by omega)]
end
