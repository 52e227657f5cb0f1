section
variable {X : Nat × (Nat → Int32)} {d : Nat} {al : List Nat} {D : Nat → Bool} {I : Nat → Nat → Int32} {L : Nat → Nat → Int64}
theorem on_oN {k set : Nat} (hk : k ≤ 12) (h : set < 2 ^ k) : on (Int32.ofNat set) = Int32.ofNat (oN k set) := by
  have h12 : 2 ^ k ≤ 2 ^ 12 := Nat.pow_le_pow_right (by decide) hk
  rw [on_n hk (bits_in (n := k) (in_nn h (by omega)) hk)]
  congr 1
  exact cn_congr k (fun i hi => tb_ofNat (by omega))
theorem q_mouse {m : Nat → Nat} (b p n : Int32) (under : Bool) (g : rG I m) (r : RL I m) : Cl X (d + 4) 150 [vr 1, vi b, vi p, vi n, vi (b01 under)] (pm_mm al D I L) = some (some (vl (vMouse I m b p n under)), pm_mm al D I L) := by
  rw [Cl_s]
  show Rn X (d + 3) co_Ch_mouse (0, [some (vr 1), some (vi b), some (vi p), some (vi n), some (vi (b01 under)), none, none, none, none, none], [], pm_mm al D I L) = _
  have m0 := (g.1 0 (by omega)).1
  have h1 : Cl X (d + 3) 93 [vr 2, vi 0, vi b] (pm_mm al D I L) = _ := k_has (d := d + 2) (s := 0) (m := m 0) b (by omega) m0 ((r.1 0 (by omega)).trans (g.1 0 (by omega)).2)
  have e0 : (0 : Int32).toInt = 0 := rfl
  have hp2 : pm_in p 11 = (!decide (p < 0) && !decide (10 < p)) := by
    have e1 : (10 : Int32).toInt = 10 := rfl
    rw [Bool.eq_iff_iff, in_iff, Bool.and_eq_true, Bool.not_eq_true', Bool.not_eq_true', decide_eq_false_iff_not, decide_eq_false_iff_not, t_lt, t_lt]; omega
  have hn2 : pm_in n 10 = (!decide (n < 0) && decide (n ≤ 9)) := by
    have e1 : (9 : Int32).toInt = 9 := rfl
    rw [Bool.eq_iff_iff, in_iff, Bool.and_eq_true, Bool.not_eq_true', decide_eq_false_iff_not, decide_eq_true_iff, t_lt, t_le]; omega
  rw [sg_Ch_mouse_x_0, h1, vMouse]
  simp only [Option.bind_some, pm_ai]
  cases hb : pm_in b (m 0) with
  | false =>
    rw [Bool.and_false]
    exact (sg_Ch_mouse_x0_9 ..).trans (sgb_Ch_mouse_32 ..)
  | true =>
    obtain ⟨b', hb', eb⟩ := in_nat hb
    subst eb
    have hb2 : b' < 2 := by omega
    refine Eq.trans (sgb_Ch_mouse_9 (b := b') hb2 ..) ?_
    rw [show decide (b01 true = 0) = false from rfl, cond_false, hp2, hn2]
    simp only [sgb_Ch_mouse_32]
    cases k1 : decide (p < 0) with
    | true => rfl
    | false =>
      cases k2 : decide (10 < p) with
      | true => rfl
      | false =>
        cases k3 : decide (n < 0) with
        | true => rfl
        | false =>
          cases k4 : decide (n ≤ 9) with
          | false => rfl
          | true =>
            rw [k1, k2] at hp2
            rw [k3, k4] at hn2
            obtain ⟨p', hp', ep⟩ := in_nat hp2
            obtain ⟨n', hn', en⟩ := in_nat hn2
            subst ep en
            obtain ⟨_, _, gs, gl, _⟩ := g.2.1 b' hb'
            have es : I 87 (29 * b' + 1) = Int32.ofNat (I 87 (29 * b' + 1)).toNatClampNeg := n_of (t_le.mpr (by have := gs.1; omega))
            have el : I 87 (29 * b' + 2) = Int32.ofNat (I 87 (29 * b' + 2)).toNatClampNeg := n_of (t_le.mpr (by have := gl.1; omega))
            have hs100 : (I 87 (29 * b' + 1)).toNatClampNeg < 100 := by rw [t_tn]; have := gs.2; omega
            have hl10 : (I 87 (29 * b' + 2)).toNatClampNeg < 10 := by rw [t_tn]; have := gl.2; omega
            have c0 : I (9 + 5 * b') 0 = Int32.ofNat (I 87 (29 * b' + 1)).toNatClampNeg := (r.2.1 b' hb').2.1.trans es
            have c1 : I (9 + 5 * b') 1 = Int32.ofNat (I 87 (29 * b' + 2)).toNatClampNeg := (r.2.1 b' hb').2.2.1.trans el
            rw [n_tn (by omega), n_tn (by omega), n_tn (by omega)]
            generalize (I 87 (29 * b' + 1)).toNatClampNeg = size at c0 hs100
            generalize (I 87 (29 * b' + 2)).toNatClampNeg = leak at c1 hl10
            have hp9 : 2 ^ n' ≤ 2 ^ 9 := Nat.pow_le_pow_right (by decide) (by omega)
            have hnl : n' * leak ≤ 9 * 9 := Nat.mul_le_mul (by omega) (by omega)
            have ht := ten_le (n := n') (by omega)
            have hmz := mz_le size leak (10 - p') p' n'
            rw [show 10 - p' + p' = 10 by omega] at hmz
            simp only [cond_false, cond_true, Bool.not_false, Bool.and_self]
            obtain ⟨o9, f1, _⟩ := lp (σ := Option pm_V) (2 ^ n') (fun k o => Rn X (d + 3) co_Ch_mouse (53, [some (vr 1), some (vi (Int32.ofNat b')), some (vi (Int32.ofNat p')), some (vi (Int32.ofNat n')), some (vi (b01 under)), some (vr (9 + 5 * b')), some (vl (Int64.ofNat (su (fun set => wt (10 - p') p' n' set * (if size - n' * leak - 5 * oN n' set = 0 then 1 else 0)) k))), none, some (vi (Int32.ofNat k)), o], [], pm_mm al D I L)) (fun _ _ => True) (fun k o hk _ => by
              refine ⟨some (vi (Int32.ofNat (oN n' k))), ?_, trivial⟩
              show Rn X (d + 3) co_Ch_mouse _ = Rn X (d + 3) co_Ch_mouse _
              have bc := k_bitCount (X := X) (d := d + 2) (al := al) (D := D) (L := L) (I := I) (x := Int32.ofNat k) (by rw [n_ti (by omega)]; omega) (by rw [n_ti (by omega)]; omega)
              rw [on_oN (by omega) hk] at bc
              have ho : oN n' k ≤ n' := cn_le (fun i => k.testBit i) n'
              have hch := k_chance (X := X) (d := d + 1) (al := al) (D := D) (L := L) (I := I) (p := p') (s := oN n' k) (n := n') (by omega) ho (by omega)
              rw [pwr_n, pwr_n, un_mul] at hch
              have hcmp : decide ((0 : Int32) < Int32.ofNat size - Int32.ofNat (n' * leak) - Int32.ofNat (oN n' k * 5)) = !decide (size - n' * leak - 5 * oN n' k = 0) := by
                have t1 : (Int32.ofNat size - Int32.ofNat (n' * leak)).toInt = size - (n' * leak : Nat) := by rw [t_sub (by rw [n_ti (by omega), n_ti (by omega)]; omega) (by rw [n_ti (by omega), n_ti (by omega)]; omega), n_ti (by omega), n_ti (by omega)]
                have t2 : (Int32.ofNat size - Int32.ofNat (n' * leak) - Int32.ofNat (oN n' k * 5)).toInt = size - (n' * leak : Nat) - (oN n' k * 5 : Nat) := by rw [t_sub (by rw [t1, n_ti (by omega)]; omega) (by rw [t1, n_ti (by omega)]; omega), t1, n_ti (by omega)]
                rw [Bool.eq_iff_iff, decide_eq_true_iff, Bool.not_eq_true', decide_eq_false_iff_not, t_lt, t2, e0]
                generalize n' * leak = z at *
                omega
              rw [sgb_Ch_mouse_53 hb2, pw_shl (by omega)]
              simp (disch := omega) only [n_dle, df, cond_false, bc, Option.bind_some, pm_ai, sgb_Ch_mouse_66 hb2, c0, c1, n_mul, lm0, lm1, lm2, lm3, lm4, lm5, lm6, lm7, lm8, lm9, lm10, lm11, lm12, lm13, lm20, lm24, lm60, lm64, lm84, lm99, lm100, lm600, lm720, lm4096, lm1000000, hcmp, hch, pm_al, sgb_Ch_mouse_98 hb2, sgb_Ch_mouse_101 hb2, un_add, n_s, su]
              by_cases hz : size - n' * leak - 5 * oN n' k = 0
              · rw [dt hz, if_pos hz, Nat.mul_one]; rfl
              · rw [df hz, if_neg hz, Nat.mul_zero]; rfl) 0 none (Nat.zero_le _) trivial
            refine Eq.trans f1 ?_
            show Rn X (d + 3) co_Ch_mouse _ = _
            have hpw : Cl X (d + 3) 158 [vi 10, vi (Int32.ofNat n')] (pm_mm al D I L) = some (some (vl (Int64.ofNat (10 ^ n'))), pm_mm al D I L) := by
              rw [← pwr_n]; exact k_power (d := d + 2) 10 (by omega)
            have hpt := k_part (X := X) (d := d + 1) (al := al) (D := D) (I := I) (L := L) (up := Int64.ofNat (mz size leak (10 - p') p' n')) (down := Int64.ofNat (10 ^ n')) under (by rw [u_ti (by omega)]; omega) (by rw [u_ti (by omega)]; omega) (by rw [u_ti (by omega)]; omega)
            have emz : su (fun set => wt (10 - p') p' n' set * (if size - n' * leak - 5 * oN n' set = 0 then 1 else 0)) (2 ^ n') = mz size leak (10 - p') p' n' := rfl
            rw [sgb_Ch_mouse_53 hb2, pw_shl (by omega), n_dle (by omega) (by omega), dt (Nat.le_refl _), cond_true, hpw, emz]
            simp only [Option.bind_some, pm_al, sgb_Ch_mouse_115, hpt, sgb_Ch_mouse_120]
end
