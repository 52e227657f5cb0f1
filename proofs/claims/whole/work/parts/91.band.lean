section
variable {X : Nat × (Nat → Int32)} {d : Nat} {al : List Nat} {D : Nat → Bool} {I : Nat → Nat → Int32} {L : Nat → Nat → Int64}
theorem div_neg10 {x : Int32} (h : x < 0) : (x / 10).toInt ≤ 0 := by
  have e0 : (0 : Int32).toInt = 0 := rfl
  have e10 : (10 : Int32).toInt = 10 := rfl
  have hr := t_rg x
  have hx := t_lt.mp h
  rw [Int32.toInt_div, e10]
  have h1 : x.toInt.tdiv 10 = -((-x.toInt).tdiv 10) := by rw [Int.neg_tdiv, Int.neg_neg]
  have h2 : (-x.toInt).tdiv 10 = (-x.toInt) / 10 := Int.tdiv_eq_ediv_of_nonneg (by omega)
  have h3 : x.toInt.tdiv 10 ≤ 0 ∧ -2147483648 ≤ x.toInt.tdiv 10 := by rw [h1, h2]; omega
  have := bm (z := x.toInt.tdiv 10) (by omega) (by omega)
  have e : (2 ^ 32 : Nat) = 4294967296 := by decide
  rw [e, this]; omega
def bt (f : Nat → Int32) (n : Nat) (what : Int32) : Int32 := cond (pm_in what 5) (f what.toNatClampNeg) (cond (!decide (what < 0) && decide (10 ≤ what.toNatClampNeg) && decide (what.toNatClampNeg / 10 < 5) && decide (what.toNatClampNeg % 10 < n)) (f (5 + 6 * (what.toNatClampNeg / 10 - 1) + what.toNatClampNeg % 10)) (-1))
def vBand (I : Nat → Nat → Int32) (m : Nat → Nat) (b what : Int32) : Int32 := cond (pm_in b (m 0)) (bt (fun j => I 87 (29 * b.toNatClampNeg + j)) (I 87 (29 * b.toNatClampNeg)).toNatClampNeg what) (-1)
theorem r_band {m : Nat → Nat} (b what : Int32) (g : rG I m) : ∃ J, Cl X (d + 4) 204 [vr 81, vi b, vi what] (pm_mm al D I L) = some (some (vi (vBand I m b what)), pm_mm al D J L) ∧ rF I J := by
  rw [Cl_s]
  show ∃ J, Rn X (d + 3) co_Mo_band (0, [some (vr 81), some (vi b), some (vi what), none], [], pm_mm al D I L) = _ ∧ _
  obtain ⟨m0, e0⟩ := g.1 0 (by omega)
  rw [sg_Mo_band_0, vBand]
  cases hb : pm_in b (m 0) with
  | false =>
    rw [c_hand_f (I := pm_up I 81 0 0) m0 e0 hb]
    simp only [Option.bind_some, pm_ai, sg_Mo_band_10]
    exact ⟨_, rfl, rF_code⟩
  | true =>
    obtain ⟨b', hb', eb⟩ := in_nat hb
    obtain ⟨J, e1, e2, e3⟩ := c_hand_t (X := X) (d := d) (al := al) (D := D) (L := L) (I := pm_up I 81 0 0) m0 e0 hb'
    have hF : rF I J := rF_code.trans (fun a h1 h2 => by funext j; exact e2 a j (by unfold hdS; omega))
    have J87 : ∀ j, J 87 j = I 87 j := fun j => (e2 87 j (by unfold hdS; omega)).trans (up_ne (by omega))
    have n6 := (g.2.1 b' hb').1
    have J25 : J 81 25 = Int32.ofNat (I 87 (29 * b')).toNatClampNeg := e3.2.1.trans (n_of (g.2.1 b' hb').2.1)
    have hof : ∀ k, k < 29 → Cl X (d + 3) 195 [vr 81, vi (Int32.ofNat k)] (pm_mm al D J L) = some (some (vi (I 87 (29 * b' + k))), pm_mm al D J L) := fun k hk => by
      rw [← J87]; exact c_of (d := d + 2) (b := b') (k := k) (by omega) hk e3.1
    subst eb
    refine ⟨J, ?_, hF⟩
    rw [e1, n_tn (by omega)]
    generalize (I 87 (29 * b')).toNatClampNeg = n at n6 J25
    have h5 : (if 0 ≤ what ∧ what ≤ 4 then (1 : Int32) else 0) = b01 (pm_in what 5) := in_m (m := 5) (by omega)
    simp only [Option.bind_some, pm_ai, sg_Mo_band_10, show decide ((1 : Int32) = 0) = false from rfl, cond_false, cond_true, c_in, h5, sg_Mo_band_66, b01_ne, sg_Mo_band_78, sg_Mo_band_108, J25, bt]
    by_cases hneg : what < 0
    · have hd := div_neg10 hneg
      have q : ∀ k : Int32, 0 < k.toInt → decide (what / 10 = k) = false := fun k hk => df (fun c => by rw [c] at hd; omega)
      have hin : pm_in what 5 = false := by
        cases hh : pm_in what 5 with
        | false => rfl
        | true => rw [in_iff] at hh; rw [t_lt] at hneg; have e0 : (0 : Int32).toInt = 0 := rfl; omega
      rw [q 1 (by decide), q 2 (by decide), q 3 (by decide), q 4 (by decide), hin, dt hneg]
      cases decide (what / 10 = 0) <;> rfl
    · have ew := n_of (Int32.not_lt.mp hneg)
      rw [df hneg]
      have hwl : what.toNatClampNeg < 2147483648 := by have := t_rg what; rw [t_tn]; omega
      generalize what.toNatClampNeg = w at ew hwl
      subst ew
      have hw10 := Nat.div_le_self w 10
      have hm10 := Nat.mod_lt w (show 10 > 0 by omega)
      simp (disch := omega) only [lr1, lr2, lr3, lr4, lr5, lr6, lr7, lr8, lr9, lr10, lr11, lr12, lr13, lr20, lr24, lr60, lr64, lr84, lr99, lr100, lr600, lr720, lr4096, lr1000000]
      simp (disch := omega) only [ld1, ld2, ld3, ld4, ld5, ld6, ld7, ld8, ld9, ld10, ld11, ld12, ld13, ld20, ld24, ld60, ld64, ld84, ld99, ld100, ld600, ld720, ld4096, ld1000000, q0, q1, q2, q3, q4, q5, q6, q7, q8, q9, q10, q11, q12, q13, q20, q24, q60, q64, q84, q99, q100, q600, q720, q4096, q1000000, n_dle, n_in, n_tn, ls0, ls1, ls2, ls3, ls4, ls5, ls6, ls7, ls8, ls9, ls10, ls11, ls12, ls13, ls20, ls24, ls60, ls64, ls84, ls99, ls100, ls600, ls720, ls4096, ls1000000, rml0, rml1, rml2, rml3, rml4, rml5, rml6, rml7, rml8, rml9, rml10, rml11, rml12, rml13, rml20, rml24, rml60, rml64, rml84, rml99, rml100, rml600, rml720, rml4096, rml1000000, ra0, ra1, ra2, ra3, ra4, ra5, ra6, ra7, ra8, ra9, ra10, ra11, ra12, ra13, ra20, ra24, ra60, ra64, ra84, ra99, ra100, ra600, ra720, ra4096, ra1000000, n_add]
      by_cases q0 : w / 10 = 0
      · rw [dt q0, cond_true]
        by_cases w5 : w < 5
        · simp (disch := omega) only [dt, Bool.not_true, cond_false, cond_true, hof, Option.bind_some, pm_ai, sg_Mo_band_74, sg_Mo_band_78]
        · simp (disch := omega) only [df, Bool.not_false, cond_false, cond_true, Bool.true_and, Bool.false_and]
      · rw [df q0, cond_false, df (show ¬ w < 5 by omega), cond_false, dt (show 10 ≤ w by omega)]
        by_cases q5 : w / 10 < 5
        · by_cases hr : w % 10 < n
          · have hexp : (5 : Int32) + 6 * (Int32.ofNat (w / 10) - 1) + Int32.ofNat (w % 10) = Int32.ofNat (5 + 6 * (w / 10 - 1) + w % 10) := by
              simp (disch := omega) only [ls0, ls1, ls2, ls3, ls4, ls5, ls6, ls7, ls8, ls9, ls10, ls11, ls12, ls13, ls20, ls24, ls60, ls64, ls84, ls99, ls100, ls600, ls720, ls4096, ls1000000, rml0, rml1, rml2, rml3, rml4, rml5, rml6, rml7, rml8, rml9, rml10, rml11, rml12, rml13, rml20, rml24, rml60, rml64, rml84, rml99, rml100, rml600, rml720, rml4096, rml1000000, ra0, ra1, ra2, ra3, ra4, ra5, ra6, ra7, ra8, ra9, ra10, ra11, ra12, ra13, ra20, ra24, ra60, ra64, ra84, ra99, ra100, ra600, ra720, ra4096, ra1000000, n_add]
            rw [dt q5, dt hr, df (show ¬ n ≤ w % 10 by omega), hexp, hof _ (by omega)]
            simp only [cond_false, Option.bind_some, pm_ai, sg_Mo_band_104, sg_Mo_band_108]
            have : w / 10 = 1 ∨ w / 10 = 2 ∨ w / 10 = 3 ∨ w / 10 = 4 := by omega
            rcases this with h | h | h | h <;> rw [h] <;> rfl
          · rw [dt q5, df hr, dt (show n ≤ w % 10 by omega)]
            cases decide (w / 10 = 1) <;> cases decide (w / 10 = 2) <;> cases decide (w / 10 = 3) <;> cases decide (w / 10 = 4) <;> rfl
        · rw [df q5, df (show ¬ w / 10 = 1 by omega), df (show ¬ w / 10 = 2 by omega), df (show ¬ w / 10 = 3 by omega), df (show ¬ w / 10 = 4 by omega)]; rfl
theorem q_band {m : Nat → Nat} (b what : Int32) (g : rG I m) (r : RL I m) : Cl X (d + 4) 114 [vr 1, vi b, vi what] (pm_mm al D I L) = some (some (vi (vBand I m b what)), pm_mm al D I L) := by
  rw [Cl_s]
  show Rn X (d + 3) co_Ch_band (0, [some (vr 1), some (vi b), some (vi what)], [], pm_mm al D I L) = _
  have m0 := (g.1 0 (by omega)).1
  have h1 : Cl X (d + 3) 93 [vr 2, vi 0, vi b] (pm_mm al D I L) = _ := k_has (d := d + 2) (s := 0) (m := m 0) b (by omega) m0 ((r.1 0 (by omega)).trans (g.1 0 (by omega)).2)
  rw [sg_Ch_band_x_0, h1, vBand]
  simp only [Option.bind_some, pm_ai]
  cases hb : pm_in b (m 0) with
  | false => exact sg_Ch_band_x0_9 ..
  | true =>
    obtain ⟨b', hb', eb⟩ := in_nat hb
    subst eb
    have n6 := (g.2.1 b' hb').1
    obtain ⟨r1, r2, r3, r4, r5, r6⟩ := r.2.1 b' hb'
    have en : I (9 + 5 * b') 4 = Int32.ofNat (I 87 (29 * b')).toNatClampNeg := r1.trans (n_of (g.2.1 b' hb').2.1)
    have hb2 : b' < 2 := by omega
    have ht : Cl X (d + 3) 10 [vr (9 + 5 * b'), vi what] (pm_mm al D I L) = some (some (vi (bt (fun j => I 87 (29 * b' + j)) (I 87 (29 * b')).toNatClampNeg what)), pm_mm al D I L) := by
      rw [Cl_s]
      refine Eq.trans (show _ = Rn X (d + 2) co_Ba_tells (0, [some (vr (9 + 5 * b')), some (vi what)], [], pm_mm al D I L) from rfl) ?_
      rw [sgb_Ba_tells_0 hb2, bt]
      simp only [sgb_Ba_tells_83]
      by_cases hneg : what < 0
      · have q : ∀ k : Nat, k < 100 → decide (what = Int32.ofNat k) = false := fun k hk => df (fun c => by rw [c, t_lt, n_ti (by omega)] at hneg; have e0 : (0 : Int32).toInt = 0 := rfl; omega)
        have hin : pm_in what 5 = false := by
          cases hh : pm_in what 5 with
          | false => rfl
          | true => rw [in_iff] at hh; rw [t_lt] at hneg; have e0 : (0 : Int32).toInt = 0 := rfl; omega
        have c10 : decide ((10 : Int32) ≤ what) = false := df (fun c => by rw [t_lt] at hneg; rw [t_le] at c; have e0 : (0 : Int32).toInt = 0 := rfl; have e1 : (10 : Int32).toInt = 10 := rfl; omega)
        have q0 := q 0 (by omega)
        have q1 := q 1 (by omega)
        have q2 := q 2 (by omega)
        have q3 := q 3 (by omega)
        have q4 := q 4 (by omega)
        rw [hin, dt hneg, c10, show decide (what = 0) = false from q0, show decide (what = 1) = false from q1, show decide (what = 2) = false from q2, show decide (what = 3) = false from q3, show decide (what = 4) = false from q4]; rfl
      · have ew := n_of (Int32.not_lt.mp hneg)
        rw [df hneg]
        have hwl : what.toNatClampNeg < 2147483648 := by have := t_rg what; rw [t_tn]; omega
        generalize what.toNatClampNeg = w at ew hwl
        subst ew
        have hw10 := Nat.div_le_self w 10
        have hm10 := Nat.mod_lt w (show 10 > 0 by omega)
        have hd10 := Nat.div_add_mod w 10
        simp (disch := omega) only [lr1, lr2, lr3, lr4, lr5, lr6, lr7, lr8, lr9, lr10, lr11, lr12, lr13, lr20, lr24, lr60, lr64, lr84, lr99, lr100, lr600, lr720, lr4096, lr1000000]
        simp (disch := omega) only [ld1, ld2, ld3, ld4, ld5, ld6, ld7, ld8, ld9, ld10, ld11, ld12, ld13, ld20, ld24, ld60, ld64, ld84, ld99, ld100, ld600, ld720, ld4096, ld1000000, q0, q1, q2, q3, q4, q5, q6, q7, q8, q9, q10, q11, q12, q13, q20, q24, q60, q64, q84, q99, q100, q600, q720, q4096, q1000000, a0, a1, a2, a3, a4, a5, a6, a7, a8, a9, a10, a11, a12, a13, a20, a24, a60, a64, a84, a99, a100, a600, a720, a4096, a1000000, n_in, n_tn]
        by_cases w5 : w < 5
        · have : w = 0 ∨ w = 1 ∨ w = 2 ∨ w = 3 ∨ w = 4 := by omega
          rcases this with rfl | rfl | rfl | rfl | rfl
          · exact congrArg (fun z => some (some (vi z), pm_mm al D I L)) r1
          · exact congrArg (fun z => some (some (vi z), pm_mm al D I L)) r2
          · exact congrArg (fun z => some (some (vi z), pm_mm al D I L)) r3
          · exact congrArg (fun z => some (some (vi z), pm_mm al D I L)) r4
          · exact congrArg (fun z => some (some (vi z), pm_mm al D I L)) r5
        · rw [df w5, df (show ¬ w = 0 by omega), df (show ¬ w = 1 by omega), df (show ¬ w = 2 by omega), df (show ¬ w = 3 by omega), df (show ¬ w = 4 by omega)]
          simp only [cond_false]
          by_cases w10 : 10 ≤ w
          · rw [dt w10, cond_true]
            have hp : Cl X (d + 2) 11 [vr (9 + 5 * b'), vi (Int32.ofNat (w / 10)), vi (Int32.ofNat (w % 10))] (pm_mm al D I L) = some (some (vi (cond (decide (w / 10 < 5) && decide (w % 10 < (I 87 (29 * b')).toNatClampNeg)) (I 87 (29 * b' + (5 + 6 * (w / 10 - 1) + w % 10))) (-1))), pm_mm al D I L) := by
              rw [Cl_s]
              refine Eq.trans (show _ = Rn X (d + 1) co_Ba_tellsOfPipe (0, [some (vr (9 + 5 * b')), some (vi (Int32.ofNat (w / 10))), some (vi (Int32.ofNat (w % 10)))], [], pm_mm al D I L) from rfl) ?_
              rw [sgb_Ba_tellsOfPipe_0 hb2, en]
              simp (disch := omega) only [n_dlt, q0, q1, q2, q3, q4, q5, q6, q7, q8, q9, q10, q11, q12, q13, q20, q24, q60, q64, q84, q99, q100, q600, q720, q4096, q1000000, n_tn, n_in]
              by_cases hr : w % 10 < (I 87 (29 * b')).toNatClampNeg
              · obtain ⟨t1, t2, t3, t4⟩ := r6 (w % 10) hr
                rw [dt hr, dt (show w % 10 < 6 by omega)]
                simp only [cond_true, Bool.and_true]
                by_cases q5 : w / 10 < 5
                · have : w / 10 = 1 ∨ w / 10 = 2 ∨ w / 10 = 3 ∨ w / 10 = 4 := by omega
                  rcases this with h | h | h | h <;> rw [h]
                  · refine congrArg (fun z => some (some (vi z), pm_mm al D I L)) ?_
                    show I (10 + 5 * b') (w % 10) = I 87 (29 * b' + (5 + 6 * (1 - 1) + w % 10))
                    rw [show 10 + 5 * b' = 9 + 5 * b' + 1 by omega, t1]
                  · refine congrArg (fun z => some (some (vi z), pm_mm al D I L)) ?_
                    show I (11 + 5 * b') (w % 10) = I 87 (29 * b' + (5 + 6 * (2 - 1) + w % 10))
                    rw [show 11 + 5 * b' = 9 + 5 * b' + 2 by omega, t2]
                  · refine congrArg (fun z => some (some (vi z), pm_mm al D I L)) ?_
                    show I (12 + 5 * b') (w % 10) = I 87 (29 * b' + (5 + 6 * (3 - 1) + w % 10))
                    rw [show 12 + 5 * b' = 9 + 5 * b' + 3 by omega, t3]
                  · refine congrArg (fun z => some (some (vi z), pm_mm al D I L)) ?_
                    show I (13 + 5 * b') (w % 10) = I 87 (29 * b' + (5 + 6 * (4 - 1) + w % 10))
                    rw [show 13 + 5 * b' = 9 + 5 * b' + 4 by omega, t4]
                · rw [df q5, df (show ¬ w / 10 = 1 by omega), df (show ¬ w / 10 = 2 by omega), df (show ¬ w / 10 = 3 by omega), df (show ¬ w / 10 = 4 by omega)]; rfl
              · rw [df hr, Bool.and_false]; rfl
            rw [hp]
            simp only [Option.bind_some, pm_ai, sgb_Ba_tells_83, Bool.not_false, Bool.true_and]
          · rw [df w10]; rfl
    refine Eq.trans (sgb_Ch_band_9 (b := b') hb2 ..) ?_
    rw [ht, n_tn (by omega)]
    simp only [Option.bind_some, pm_ai, sgb_Ch_band_27]; rfl
end
