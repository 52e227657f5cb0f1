section
variable {X : Nat × (Nat → Int32)} {d : Nat} {al : List Nat} {D : Nat → Bool} {I : Nat → Nat → Int32} {L : Nat → Nat → Int64}
theorem u_ti {k : Nat} (h : k < 9223372036854775808) : (Int64.ofNat k).toInt = k := Int64.toInt_ofNat_of_lt h
theorem u_eq {x y : Int64} : (x = y) ↔ x.toInt = y.toInt := Int64.toInt_inj.symm
theorem u_rg (x : Int64) : -9223372036854775808 ≤ x.toInt ∧ x.toInt < 9223372036854775808 := ⟨Int64.le_toInt x, Int64.toInt_lt x⟩
theorem ubm {z : Int} (h1 : -9223372036854775808 ≤ z) (h2 : z < 9223372036854775808) : z.bmod (2 ^ 64) = z := by
  have e : ((2 ^ 64 : Nat) : Int) = 18446744073709551616 := by decide
  rw [Int.bmod_def, e]; split <;> omega
theorem u_add {x y : Int64} (h1 : -9223372036854775808 ≤ x.toInt + y.toInt) (h2 : x.toInt + y.toInt < 9223372036854775808) : (x + y).toInt = x.toInt + y.toInt := (Int64.toInt_add x y).trans (ubm h1 h2)
theorem u_sub {x y : Int64} (h1 : -9223372036854775808 ≤ x.toInt - y.toInt) (h2 : x.toInt - y.toInt < 9223372036854775808) : (x - y).toInt = x.toInt - y.toInt := (Int64.toInt_sub x y).trans (ubm h1 h2)
theorem u_mul {x y : Int64} (h1 : -9223372036854775808 ≤ x.toInt * y.toInt) (h2 : x.toInt * y.toInt < 9223372036854775808) : (x * y).toInt = x.toInt * y.toInt := (Int64.toInt_mul x y).trans (ubm h1 h2)
theorem un_mul (a b : Nat) : Int64.ofNat a * Int64.ofNat b = Int64.ofNat (a * b) := (Int64.ofNat_mul a b).symm
theorem un_add (a b : Nat) : Int64.ofNat a + Int64.ofNat b = Int64.ofNat (a + b) := (Int64.ofNat_add a b).symm
theorem un_eq {a b : Nat} (ha : a < 9223372036854775808) (hb : b < 9223372036854775808) : (Int64.ofNat a = Int64.ofNat b) ↔ a = b := by
  rw [u_eq, u_ti ha, u_ti hb]; omega
theorem un_div {a b : Nat} (ha : a < 9223372036854775808) (hb0 : 0 < b) (hb : b < 9223372036854775808) : Int64.ofNat a / Int64.ofNat b = Int64.ofNat (a / b) := by
  have hle : a / b ≤ a := Nat.div_le_self a b
  have h1 : ((a : Int).tdiv b) = ((a / b : Nat) : Int) := by rw [Int.tdiv_eq_ediv_of_nonneg (Int.natCast_nonneg a)]; exact (Int.natCast_ediv a b).symm
  rw [u_eq, Int64.toInt_div, u_ti ha, u_ti hb, u_ti (by omega), h1]
  clear h1
  generalize a / b = q at hle ⊢
  exact ubm (by omega) (by omega)
theorem un_rem {a b : Nat} (ha : a < 9223372036854775808) (hb0 : 0 < b) (hb : b < 9223372036854775808) : Int64.ofNat a - Int64.ofNat a / Int64.ofNat b * Int64.ofNat b = Int64.ofNat (a % b) := by
  have h1 := Nat.div_add_mod a b
  rw [Nat.mul_comm] at h1
  rw [un_div ha hb0 hb, un_mul]
  have h2 : Int64.ofNat a = Int64.ofNat (a % b) + Int64.ofNat (a / b * b) := by rw [un_add]; congr 1; omega
  rw [h2, Int64.add_sub_cancel]
theorem lc_eq (y : Int64) : decide (lg_cmp y 0 = 0) = decide (y = 0) := decide_eq_decide.mpr (lg_cmp_eq y 0)
theorem lc_ge (y : Int64) : decide (0 ≤ lg_cmp y 0) = decide (0 ≤ y) := decide_eq_decide.mpr (lg_cmp_ge y 0)
theorem un_z {b : Nat} (hb : b < 9223372036854775808) : decide (Int64.ofNat b = 0) = decide (b = 0) := decide_eq_decide.mpr (un_eq (b := 0) hb (by omega))
theorem gcd_st (a b : Nat) : Nat.gcd a b = Nat.gcd b (a % b) := by rw [Nat.gcd_comm a b, Nat.gcd_rec b a, Nat.gcd_comm]
theorem c_common {a b : Nat} (ha : a < 9223372036854775808) (hb : b < 9223372036854775808) : Cl X (d + 1) 233 [vl (Int64.ofNat a), vl (Int64.ofNat b)] (pm_mm al D I L) = some (some (vl (Int64.ofNat (Nat.gcd a b))), pm_mm al D I L) := by
  rw [Cl_s]
  show Rn X d co_Mo_common (0, [some (vl (Int64.ofNat a)), none, some (vl (Int64.ofNat b)), none, none, none, none, none, none, none], [], pm_mm al D I L) = _
  have h0 : (0 : Int64) ≤ Int64.ofNat a := by rw [Int64.le_iff_toInt_le, u_ti ha]; exact Int.natCast_nonneg a
  rw [sg_Mo_common_0, lc_ge, dt h0, cond_true, sg_Mo_common_12]
  have hh : ∀ b a o3 o8 o9, a < 9223372036854775808 → b < 9223372036854775808 → Rn X d co_Mo_common (17, [some (vl (Int64.ofNat a)), none, some (vl (Int64.ofNat b)), o3, some (vl (Int64.ofNat a)), none, some (vl (Int64.ofNat b)), none, o8, o9], [], pm_mm al D I L) = some (some (vl (Int64.ofNat (Nat.gcd a b))), pm_mm al D I L) := by
    suffices hh : ∀ n b a (o0 o1 o2 o3 o8 o9 : Option pm_V), b < n → a < 9223372036854775808 → b < 9223372036854775808 → Rn X d co_Mo_common (17, [o0, o1, o2, o3, some (vl (Int64.ofNat a)), none, some (vl (Int64.ofNat b)), none, o8, o9], [], pm_mm al D I L) = some (some (vl (Int64.ofNat (Nat.gcd a b))), pm_mm al D I L) from
      fun b a o3 o8 o9 ha hb => hh (b + 1) b a _ _ _ o3 o8 o9 (by omega) ha hb
    intro n
    induction n with
    | zero => intro b a o0 o1 o2 o3 o8 o9 h; exact absurd h (Nat.not_lt_zero b)
    | succ n ih =>
      intro b a o0 o1 o2 o3 o8 o9 h ha hb
      rw [sg_Mo_common_17, lc_eq, un_z hb]
      by_cases hb0 : b = 0
      · subst hb0; rw [dt rfl, cond_true, Nat.gcd_zero_right]
      · have hr := Nat.mod_lt a (show b > 0 by omega)
        rw [df hb0, cond_false, Bool.not_false, cond_true, un_rem ha (by omega) hb, ih (a % b) b _ _ _ _ _ _ (by omega) hb (by omega), ← gcd_st]
  exact hh b a none none none ha hb
/-- a part of a fraction in least terms -/
def pa (up down : Int64) (under : Bool) : Int64 := cond under down up / Int64.ofNat (Nat.gcd up.toInt.natAbs down.toInt.natAbs)
theorem abs_n {y : Int64} (h : -9223372036854775808 < y.toInt) : cond (decide (0 ≤ y)) y (-y) = Int64.ofNat y.toInt.natAbs := by
  have hr := u_rg y
  have e0 : (0 : Int64).toInt = 0 := rfl
  rw [u_eq, u_ti (by omega)]
  by_cases hy : 0 ≤ y
  · rw [dt hy, cond_true]; rw [Int64.le_iff_toInt_le, e0] at hy; omega
  · rw [df hy, cond_false, Int64.toInt_neg, ubm (by omega) (by omega)]
    rw [Int64.le_iff_toInt_le, e0] at hy; omega
theorem c_part {up down : Int64} (under : Bool) (h1 : -9223372036854775808 < up.toInt) (h2 : 0 < down.toInt) : Cl X (d + 2) 234 [vl up, vl down, vi (b01 under)] (pm_mm al D I L) = some (some (vl (pa up down under)), pm_mm al D I L) := by
  rw [Cl_s]
  show Rn X (d + 1) co_Mo_part (0, [some (vl up), none, some (vl down), none, some (vi (b01 under))], [], pm_mm al D I L) = _
  have hu := u_rg up
  have hd := u_rg down
  have ed : down = Int64.ofNat down.toInt.natAbs := by rw [u_eq, u_ti (by omega)]; omega
  have hc := c_common (X := X) (d := d) (al := al) (D := D) (I := I) (L := L) (a := down.toInt.natAbs) (b := up.toInt.natAbs) (by omega) (by omega)
  have hg : 0 < Nat.gcd down.toInt.natAbs up.toInt.natAbs := Nat.gcd_pos_of_pos_left _ (by omega)
  have hgl : Nat.gcd down.toInt.natAbs up.toInt.natAbs ≤ down.toInt.natAbs := Nat.gcd_le_left _ (by omega)
  have s23 : ∀ w : Int64, Rn X (d + 1) co_Mo_part (10, [some (vl up), none, some (vl down), none, some (vi (b01 under))], [vl w], pm_mm al D I L) = some (some (vl (w / Int64.ofNat (Nat.gcd up.toInt.natAbs down.toInt.natAbs))), pm_mm al D I L) := fun w => by
    have ha := abs_n h1
    have : Rn X (d + 1) co_Mo_part (10, [some (vl up), none, some (vl down), none, some (vi (b01 under))], [vl w], pm_mm al D I L) = Rn X (d + 1) co_Mo_part (23, [some (vl up), none, some (vl down), none, some (vi (b01 under))], [vl (Int64.ofNat up.toInt.natAbs), vl down, vl w], pm_mm al D I L) := by
      rw [sg_Mo_part_10, lc_ge, ← ha]
      cases decide (0 ≤ up) <;> rfl
    rw [this, sg_Mo_part_23]
    rw [← ed] at hc
    rw [hc]
    simp only [Option.bind_some, pm_al, sg_Mo_part_26, un_z (show Nat.gcd down.toInt.natAbs up.toInt.natAbs < 9223372036854775808 by omega), df (show ¬ Nat.gcd down.toInt.natAbs up.toInt.natAbs = 0 by omega), Bool.not_false, cond_true]
    rw [Nat.gcd_comm]
  rw [sg_Mo_part_0, b01_ne, pa]
  cases under
  · exact s23 up
  · exact s23 down
theorem k_abs2 (y : Int64) : Cl X (d + 1) 3 [vl y] (pm_mm al D I L) = some (some (vl (cond (decide (0 ≤ y)) y (-y))), pm_mm al D I L) := by
  rw [Cl_s]
  show Rn X d co_Jm_abs2 (0, [some (vl y), none], [], pm_mm al D I L) = _
  rw [sg_Jm_abs2_0, lc_ge]
  simp only [sg_Jm_abs2_12]
  cases decide (0 ≤ y) <;> rfl
theorem k_part {up down : Int64} (under : Bool) (h1 : -9223372036854775808 < up.toInt) (h2 : 0 < down.toInt) (h3 : down.toInt < 1099511627776) : Cl X (d + 2) 157 [vl up, vl down, vi (b01 under)] (pm_mm al D I L) = some (some (vl (pa up down under)), pm_mm al D I L) := by
  rw [Cl_s]
  show Rn X (d + 1) co_Ch_part (0, [some (vl up), none, some (vl down), none, some (vi (b01 under)), none, none, none, none, none, none, none], [], pm_mm al D I L) = _
  have hu := u_rg up
  have ed : down = Int64.ofNat down.toInt.natAbs := by rw [u_eq, u_ti (by omega)]; omega
  have hg : 0 < Nat.gcd up.toInt.natAbs down.toInt.natAbs := Nat.gcd_pos_of_pos_right _ (by omega)
  have hgl : Nat.gcd up.toInt.natAbs down.toInt.natAbs ≤ down.toInt.natAbs := Nat.gcd_le_right _ (by omega)
  have eu : ∀ k a b t o10 o11, b < 2 ^ k → k ≤ 40 → t + 2 * k ≤ 99 → a < 9223372036854775808 → ∃ o7 o9 p10 p11, Rn X (d + 1) co_Ch_part (12, [some (vl up), none, some (vl down), none, some (vi (b01 under)), some (vl (Int64.ofNat a)), none, some (vl (Int64.ofNat b)), none, some (vi (Int32.ofNat t)), o10, o11], [], pm_mm al D I L) = Rn X (d + 1) co_Ch_part (47, [some (vl up), none, some (vl down), none, some (vi (b01 under)), some (vl (Int64.ofNat (Nat.gcd a b))), none, o7, none, o9, p10, p11], [], pm_mm al D I L) := by
    intro k
    induction k with
    | zero =>
      intro a b t o10 o11 hb _ ht ha
      obtain rfl : b = 0 := by omega
      refine ⟨some (vl (Int64.ofNat 0)), some (vi (Int32.ofNat t)), o10, o11, ?_⟩
      rw [sg_Ch_part_12, lc_eq, un_z (by omega), Nat.gcd_zero_right]
      simp (disch := omega) only [a0, a1, a2, a3, a4, a5, a6, a7, a8, a9, a10, a11, a12, a13, a20, a24, a60, a64, a84, a99, a100, a600, a720, a4096, a1000000, df, cond_false, decide_true, cond_true]
    | succ k ih =>
      intro a b t o10 o11 hb hk ht ha
      have hpk : 2 ^ (k + 1) = 2 * 2 ^ k := by rw [Nat.pow_succ]; omega
      have hp40 : 2 ^ (k + 1) ≤ 2 ^ 40 := Nat.pow_le_pow_right (by decide) hk
      have e40 : 2 ^ 40 = 1099511627776 := by decide
      rw [sg_Ch_part_12, lc_eq, un_z (by omega)]
      by_cases hb0 : b = 0
      · subst hb0
        refine ⟨some (vl (Int64.ofNat 0)), some (vi (Int32.ofNat t)), o10, o11, ?_⟩
        rw [Nat.gcd_zero_right]
        simp (disch := omega) only [a0, a1, a2, a3, a4, a5, a6, a7, a8, a9, a10, a11, a12, a13, a20, a24, a60, a64, a84, a99, a100, a600, a720, a4096, a1000000, df, cond_false, decide_true, cond_true]
      · have hr := Nat.mod_lt a (show b > 0 by omega)
        rw [un_rem ha (by omega) (by omega)]
        simp (disch := omega) only [a0, a1, a2, a3, a4, a5, a6, a7, a8, a9, a10, a11, a12, a13, a20, a24, a60, a64, a84, a99, a100, a600, a720, a4096, a1000000, df, cond_false, Bool.not_false, cond_true, n_s]
        rw [gcd_st a b, sg_Ch_part_12, lc_eq, un_z (by omega)]
        by_cases hr0 : a % b = 0
        · refine ⟨some (vl (Int64.ofNat 0)), some (vi (Int32.ofNat (t + 1))), some (vl (Int64.ofNat 0)), none, ?_⟩
          rw [hr0, Nat.gcd_zero_right]
          simp (disch := omega) only [a0, a1, a2, a3, a4, a5, a6, a7, a8, a9, a10, a11, a12, a13, a20, a24, a60, a64, a84, a99, a100, a600, a720, a4096, a1000000, df, cond_false, decide_true, cond_true]
        · have hr2 := Nat.mod_lt b (show a % b > 0 by omega)
          have hhalf : b % (a % b) < 2 ^ k := by
            rcases Nat.lt_or_ge (2 * (a % b)) (b + 1) with h | h
            · omega
            · have : b % (a % b) = b - a % b := by
                rw [Nat.mod_eq_sub_mod (by omega), Nat.mod_eq_of_lt (by omega)]
              omega
          rw [un_rem (by omega) (by omega) (by omega)]
          simp (disch := omega) only [a0, a1, a2, a3, a4, a5, a6, a7, a8, a9, a10, a11, a12, a13, a20, a24, a60, a64, a84, a99, a100, a600, a720, a4096, a1000000, df, cond_false, Bool.not_false, cond_true, n_s]
          rw [gcd_st b (a % b)]
          exact ih (a % b) (b % (a % b)) (t + 1 + 1) _ _ hhalf (by omega) (by omega) (by omega)
  have hb40 : down.toInt.natAbs < 2 ^ 40 := by have e40 : 2 ^ 40 = 1099511627776 := by decide
                                               omega
  obtain ⟨o7, o9, p10, p11, heu⟩ := eu 40 up.toInt.natAbs down.toInt.natAbs 0 none none hb40 (by omega) (by omega) (by omega)
  rw [← ed] at heu
  have heu : Rn X (d + 1) co_Ch_part (12, [some (vl up), none, some (vl down), none, some (vi (b01 under)), some (vl (Int64.ofNat up.toInt.natAbs)), none, some (vl down), none, some (vi 0), none, none], [], pm_mm al D I L) = _ := heu
  rw [sg_Ch_part_0, k_abs2, abs_n h1]
  simp only [Option.bind_some, pm_al, sg_Ch_part_4]
  rw [heu, sg_Ch_part_47, lc_eq, un_z (by omega), df (by omega)]
  simp only [cond_false, b01_ne, sg_Ch_part_68, un_z (show Nat.gcd up.toInt.natAbs down.toInt.natAbs < 9223372036854775808 by omega), df (show ¬ Nat.gcd up.toInt.natAbs down.toInt.natAbs = 0 by omega), Bool.not_false, cond_true, pa]
  cases under <;> rfl
/-- powers, factorials -/
theorem i64_n {b : Nat} (hb : b < 2147483648) : (Int32.ofNat b).toInt64 = Int64.ofNat b := by rw [u_eq, Int32.toInt_toInt64, n_ti hb, u_ti (by omega)]
def fac (n : Nat) : Nat := fo (fun k a => a * (k + 2)) (n - 1) 1
theorem c_rowsOfAll {n : Nat} (hn : n ≤ 6) : Cl X (d + 1) 232 [vi (Int32.ofNat n)] (pm_mm al D I L) = some (some (vi (Int32.ofNat (fac n))), pm_mm al D I L) := by
  rw [Cl_s]
  show Rn X d co_Mo_rowsOfAll (0, [some (vi (Int32.ofNat n)), none, none], [], pm_mm al D I L) = _
  rw [sg_Mo_rowsOfAll_0]
  have h := lf (n - 1) (fun k (_ : Unit) => Rn X d co_Mo_rowsOfAll (4, [some (vi (Int32.ofNat n)), some (vi (Int32.ofNat (fo (fun k a => a * (k + 2)) k 1))), some (vi (Int32.ofNat (k + 2)))], [], pm_mm al D I L)) (fun _ q => q) (fun k _ hk => by
    show Rn X d co_Mo_rowsOfAll _ = Rn X d co_Mo_rowsOfAll _
    rw [sg_Mo_rowsOfAll_4]
    simp (disch := omega) only [n_dlt, df, cond_false, n_mul, n_s]
    rfl) ()
  refine Eq.trans h ?_
  show Rn X d co_Mo_rowsOfAll _ = _
  rw [sg_Mo_rowsOfAll_4]
  simp (disch := omega) only [n_dlt, dt, cond_true]; rfl
theorem k_factorial {n : Nat} (hn : n ≤ 6) : Cl X (d + 1) 160 [vi (Int32.ofNat n)] (pm_mm al D I L) = some (some (vl (Int64.ofNat (fac n))), pm_mm al D I L) := by
  rw [Cl_s]
  show Rn X d co_Ch_factorial (0, [some (vi (Int32.ofNat n)), none, none, none], [], pm_mm al D I L) = _
  rw [sg_Ch_factorial_0]
  have h := lf (n - 1) (fun k (_ : Unit) => Rn X d co_Ch_factorial (4, [some (vi (Int32.ofNat n)), some (vl (Int64.ofNat (fo (fun k a => a * (k + 2)) k 1))), none, some (vi (Int32.ofNat (k + 2)))], [], pm_mm al D I L)) (fun _ q => q) (fun k _ hk => by
    show Rn X d co_Ch_factorial _ = Rn X d co_Ch_factorial _
    rw [sg_Ch_factorial_4]
    simp (disch := omega) only [n_dlt, df, cond_false, i64_n, un_mul, n_s]
    rfl) ()
  refine Eq.trans h ?_
  show Rn X d co_Ch_factorial _ = _
  rw [sg_Ch_factorial_4]
  simp (disch := omega) only [n_dlt, dt, cond_true]; rfl
def pwr (x : Int64) : Nat → Int64
  | 0 => 1
  | n + 1 => pwr x n * x
theorem c_power {n : Nat} (x : Int64) (hn : n < 1000) : Cl X (d + 1) 240 [vl x, vi (Int32.ofNat n)] (pm_mm al D I L) = some (some (vl (pwr x n)), pm_mm al D I L) := by
  rw [Cl_s]
  show Rn X d co_Mo_power (0, [some (vl x), none, some (vi (Int32.ofNat n)), none, none, none], [], pm_mm al D I L) = _
  rw [sg_Mo_power_0]
  have h := lf n (fun k (_ : Unit) => Rn X d co_Mo_power (5, [some (vl x), none, some (vi (Int32.ofNat n)), some (vl (pwr x k)), none, some (vi (Int32.ofNat k))], [], pm_mm al D I L)) (fun _ q => q) (fun k _ hk => by
    show Rn X d co_Mo_power _ = Rn X d co_Mo_power _
    rw [sg_Mo_power_5]
    simp (disch := omega) only [n_dle, df, cond_false, n_s, pwr]) ()
  refine Eq.trans h ?_
  show Rn X d co_Mo_power _ = _
  rw [sg_Mo_power_5]
  simp (disch := omega) only [n_dle, dt, cond_true]
theorem k_power {n : Nat} (x : Int32) (hn : n < 1000) : Cl X (d + 1) 158 [vi x, vi (Int32.ofNat n)] (pm_mm al D I L) = some (some (vl (pwr x.toInt64 n)), pm_mm al D I L) := by
  rw [Cl_s]
  show Rn X d co_Ch_power (0, [some (vi x), some (vi (Int32.ofNat n)), none, none, none], [], pm_mm al D I L) = _
  rw [sg_Ch_power_0]
  have h := lf n (fun k (_ : Unit) => Rn X d co_Ch_power (5, [some (vi x), some (vi (Int32.ofNat n)), some (vl (pwr x.toInt64 k)), none, some (vi (Int32.ofNat k))], [], pm_mm al D I L)) (fun _ q => q) (fun k _ hk => by
    show Rn X d co_Ch_power _ = Rn X d co_Ch_power _
    rw [sg_Ch_power_5]
    simp (disch := omega) only [n_dle, df, cond_false, n_s, pwr]) ()
  refine Eq.trans h ?_
  show Rn X d co_Ch_power _ = _
  rw [sg_Ch_power_5]
  simp (disch := omega) only [n_dle, dt, cond_true]
theorem k_chance {p s n : Nat} (hp : p ≤ 10) (hs : s ≤ n) (hn : n < 1000) : Cl X (d + 2) 159 [vi (Int32.ofNat p), vi (Int32.ofNat s), vi (Int32.ofNat n)] (pm_mm al D I L) = some (some (vl (pwr (Int64.ofNat p) s * pwr (Int64.ofNat (10 - p)) (n - s))), pm_mm al D I L) := by
  rw [Cl_s]
  show Rn X (d + 1) co_Ch_chance (0, [some (vi (Int32.ofNat p)), some (vi (Int32.ofNat s)), some (vi (Int32.ofNat n))], [], pm_mm al D I L) = _
  rw [sg_Ch_chance_0, k_power _ (by omega)]
  have e10 : (10 : Int32) - Int32.ofNat p = Int32.ofNat (10 - p) := n_sub (a := 10) (b := p) (by omega)
  simp (disch := omega) only [Option.bind_some, pm_al, sg_Ch_chance_5, e10, n_sub, k_power, sg_Ch_chance_15, i64_n]
end
