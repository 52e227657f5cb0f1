section
variable {X : Nat × (Nat → Int32)} {d : Nat} {al : List Nat} {D : Nat → Bool} {I : Nat → Nat → Int32} {L : Nat → Nat → Int64}
theorem on_cn (x : Int32) : ∀ n, n ≤ 12 → fo (on1 x) n 0 = Int32.ofNat (cn (fun k => tb x k) n)
  | 0, _ => rfl
  | n + 1, h => by
    rw [fo, on_cn x n (by omega), on1, hs_tb _ (by omega)]
    show _ = Int32.ofNat (cn (fun k => tb x k) n + cond (tb x n) 1 0)
    cases tb x n
    · show Int32.ofNat (cn (fun k => tb x k) n) + 0 = Int32.ofNat (cn (fun k => tb x k) n + 0)
      rw [Int32.add_zero, Nat.add_zero]
    · exact n_s _
theorem cn_ext (f : Nat → Bool) (n : Nat) : ∀ m, (∀ k, n ≤ k → k < n + m → f k = false) → cn f (n + m) = cn f n
  | 0, _ => rfl
  | m + 1, h => by
    show cn f (n + m) + cond (f (n + m)) 1 0 = cn f n
    rw [cn_ext f n m (fun k a b => h k a (by omega)), h (n + m) (by omega) (by omega)]; rfl
theorem cn_free {f : Nat → Bool} {p n : Nat} (hf : f p = false) (hp : p < n) : cn f n + 1 ≤ n := by
  have := cn_rm (f := fun q => f q || decide (p = q)) (g := f) (p := p) (by rw [dt rfl, Bool.or_true]) (fun q => by
    by_cases h : p = q
    · subst h; rw [hf, dt rfl]; rfl
    · rw [df h]; simp) n
  have h2 := cn_le (fun q => f q || decide (p = q)) n
  rw [if_pos hp] at this; omega
theorem on_n {x : Int32} {n : Nat} (hn : n ≤ 12) (h : ∀ k, k < 32 → tb x k = true → k < n) : on x = Int32.ofNat (cn (fun k => tb x k) n) := by
  have e : cn (fun k => tb x k) 12 = cn (fun k => tb x k) n := by
    have := cn_ext (fun k => tb x k) n (12 - n) (fun k a b => by
      cases hb : tb x k with
      | false => rfl
      | true => have := h k (by omega) hb; omega)
    rw [show n + (12 - n) = 12 by omega] at this; exact this
  rw [← e]; exact on_cn x 12 (Nat.le_refl _)
theorem fac_rg {s : Nat} (h : s ≤ 6) : 1 ≤ fac s ∧ fac s ≤ 720 := by
  have : ∀ s : Fin 7, 1 ≤ fac s.val ∧ fac s.val ≤ 720 := by decide
  exact this ⟨s, by omega⟩
/-- the share of a pipe -/
def sh1 (P : Nat → Int32 × Int32) (n p set : Nat) (a : Int64) : Int64 := cond (tb (Int32.ofNat set) p) a (a + Int64.ofNat (fac (cn (fun k => tb (Int32.ofNat set) k) n) * fac (n - 1 - cn (fun k => tb (Int32.ofNat set) k) n)) * ((lv P n (Int32.ofNat set ||| (1 <<< (Int32.ofNat p &&& 31)))).1 - (lv P n (Int32.ofNat set)).1).toInt64)
def vShare (I : Nat → Nat → Int32) (m : Nat → Nat) (b x : Int32) (under : Bool) : Int64 := cond (pm_in b (m 0) && pm_in x (I 87 (29 * b.toNatClampNeg)).toNatClampNeg)
  (pa (fo (sh1 (PT I b.toNatClampNeg 0 0) (I 87 (29 * b.toNatClampNeg)).toNatClampNeg x.toNatClampNeg) (2 ^ (I 87 (29 * b.toNatClampNeg)).toNatClampNeg) 0) (Int64.ofNat (fac (I 87 (29 * b.toNatClampNeg)).toNatClampNeg)) under) (-1)
theorem sh_rg {P : Nat → Int32 × Int32} {n p : Nat} (g : gP P n) (hn : n ≤ 6) (hp : p < n) : ∀ (k : Nat), k ≤ 64 → -(100000000 * (k : Int)) ≤ (fo (sh1 P n p) k 0).toInt ∧ (fo (sh1 P n p) k 0).toInt ≤ 100000000 * (k : Int)
  | 0, _ => ⟨by rw [fo]; decide, by rw [fo]; decide⟩
  | k + 1, hk => by
    obtain ⟨h1, h2⟩ := sh_rg g hn hp k (by omega)
    rw [fo]
    generalize fo (sh1 P n p) k 0 = a at h1 h2
    rw [sh1]
    cases hb : tb (Int32.ofNat k) p with
    | true => rw [cond_true]; omega
    | false =>
      rw [cond_false]
      have hc := cn_free (f := fun q => tb (Int32.ofNat k) q) hb hp
      generalize cn (fun q => tb (Int32.ofNat k) q) n = s at hc
      have f1 := fac_rg (s := s) (by omega)
      have f2 := fac_rg (s := n - 1 - s) (by omega)
      have f3 : fac s * fac (n - 1 - s) ≤ 720 * 720 := Nat.mul_le_mul f1.2 f2.2
      generalize fac s * fac (n - 1 - s) = F at f3
      have l1 := lv_rg (Int32.ofNat k ||| (1 <<< (Int32.ofNat p &&& 31))) g hn
      have l2 := lv_rg (Int32.ofNat k) g hn
      have e : ((lv P n (Int32.ofNat k ||| (1 <<< (Int32.ofNat p &&& 31)))).1 - (lv P n (Int32.ofNat k)).1).toInt64.toInt = (lv P n (Int32.ofNat k ||| (1 <<< (Int32.ofNat p &&& 31)))).1.toInt - (lv P n (Int32.ofNat k)).1.toInt := by
        rw [Int32.toInt_toInt64, t_sub (by omega) (by omega)]
      generalize ((lv P n (Int32.ofNat k ||| (1 <<< (Int32.ofNat p &&& 31)))).1 - (lv P n (Int32.ofNat k)).1).toInt64 = y at e
      have eF := u_ti (show F < 9223372036854775808 by omega)
      have b1 : (F : Int) * y.toInt ≤ F * 108 := Int.mul_le_mul_of_nonneg_left (by omega) (by omega)
      have b2 : (F : Int) * (-108) ≤ F * y.toInt := Int.mul_le_mul_of_nonneg_left (by omega) (by omega)
      have em : (Int64.ofNat F * y).toInt = F * y.toInt := by rw [u_mul (by rw [eF]; omega) (by rw [eF]; omega), eF]
      rw [u_add (by rw [em]; omega) (by rw [em]; omega), em]
      omega
theorem r_share {m : Nat → Nat} (b x : Int32) (under : Bool) (g : rG I m) : ∃ J, Cl X (d + 6) 235 [vr 81, vi b, vi x, vi (b01 under)] (pm_mm al D I L) = some (some (vl (vShare I m b x under)), pm_mm al D J L) ∧ rF I J := by
  rw [Cl_s]
  show ∃ J, Rn X (d + 5) co_Mo_share (0, [some (vr 81), some (vi b), some (vi x), some (vi (b01 under)), none, none, none, none], [], pm_mm al D I L) = _ ∧ _
  obtain ⟨m0, e0⟩ := g.1 0 (by omega)
  rw [sg_Mo_share_0, vShare]
  cases hb : pm_in b (m 0) with
  | false =>
    rw [c_handHome_f (d := d + 1) (I := pm_up I 81 0 0) m0 e0 hb]
    simp only [Option.bind_some, pm_ai, sg_Mo_share_10, sg_Mo_share_21]
    exact ⟨_, rfl, rF_code.trans (fun a h1 h2 => by rw [up_rw h1, up_rw h1])⟩
  | true =>
    obtain ⟨b', hb', eb⟩ := in_nat hb
    obtain ⟨J, e1, e2, e3, e44, e45⟩ := c_handHome_t (X := X) (d := d + 1) (al := al) (D := D) (L := L) (I := pm_up I 81 0 0) m0 e0 hb'
    have hF : rF I J := rF_code.trans (rF_hh e2)
    have J87 : ∀ j, J 87 j = I 87 j := fun j => (e2 87 j (by unfold hhS hdS; omega)).trans (up_ne (by omega))
    have n6 : (I 87 (29 * b')).toNatClampNeg ≤ 6 := (g.2.1 b' hb').1
    have J25 : J 81 25 = Int32.ofNat (I 87 (29 * b')).toNatClampNeg := e3.2.1.trans (n_of (g.2.1 b' hb').2.1)
    have gp := gP_O (sx := 0) (sy := 0) g hb' ⟨by decide, by decide⟩ ⟨by decide, by decide⟩
    have hp2 := p2_le n6
    subst eb
    rw [e1, n_tn (by omega)]
    have hip := c_isPipe (X := X) (d := d + 3) (al := al) (D := D) (L := L) (I := J) x (by omega) J25
    simp only [Option.bind_some, pm_ai, sg_Mo_share_10, sg_Mo_share_21, hip, sg_Mo_share_18, b01_ne, show decide ((1 : Int32) = 0) = false from rfl, cond_false, Bool.true_and]
    have FL : ∀ K, leF J K → ∀ set : Int32, (∀ k, k < 32 → tb set k = true → k < (I 87 (29 * b')).toNatClampNeg) → ∃ M, Cl X (d + 5) 229 [vr 81, vi set] (pm_mm al D K L) = some (some (vi (lv (PT I b' 0 0) (I 87 (29 * b')).toNatClampNeg set).1), pm_mm al D M L) ∧ leF J M := fun K hK set hset => by
      obtain ⟨M, m1, m2, m3⟩ := c_leatherB (X := X) (d := d) (al := al) (D := D) (L := L) (I := I) (J := K) set g hb' (hdP_le (show hdP I J b' from e3) (fun a j a1 a2 => hK a j a1)) (fun j => (hK 87 j (by omega)).trans (J87 j)) hset
      rw [hK 81 44 (by omega), hK 81 45 (by omega), e44, e45] at m1
      exact ⟨M, m1, fun a j a1 => (m2 a j a1).trans (hK a j a1)⟩
    generalize hn : (I 87 (29 * b')).toNatClampNeg = n at *
    cases hx : pm_in x n with
    | false => exact ⟨J, rfl, hF⟩
    | true =>
      obtain ⟨x', hx', ex⟩ := in_nat hx
      subst ex
      rw [n_tn (by omega)]
      have loop : ∀ i k K o7, k + i = 2 ^ n → leF J K → ∃ M, Rn X (d + 5) co_Mo_share (31, [some (vr 81), some (vi (Int32.ofNat b')), some (vi (Int32.ofNat x')), some (vi (b01 under)), some (vl (fo (sh1 (PT I b' 0 0) n x') k 0)), none, some (vi (Int32.ofNat k)), o7], [], pm_mm al D K L) = some (some (vl (pa (fo (sh1 (PT I b' 0 0) n x') (2 ^ n) 0) (Int64.ofNat (fac n)) under)), pm_mm al D M L) ∧ leF J M := by
        intro i
        induction i with
        | zero =>
          intro k K o7 hk hK
          obtain rfl : k = 2 ^ n := by omega
          refine ⟨K, ?_, hK⟩
          have hf := fac_rg n6
          have hrg := sh_rg gp n6 hx' (2 ^ n) hp2
          have hpt := c_part (X := X) (d := d + 3) (al := al) (D := D) (I := K) (L := L) (up := fo (sh1 (PT I b' 0 0) n x') (2 ^ n) 0) (down := Int64.ofNat (fac n)) under (by omega) (by rw [u_ti (by omega)]; omega)
          rw [sg_Mo_share_31, (hK 81 25 (by omega)).trans J25, pw_shl (by omega)]
          simp (disch := omega) only [n_dle, dt, cond_true, c_rowsOfAll, Option.bind_some, pm_ai, sg_Mo_share_119, i64_n, hpt, pm_al, sg_Mo_share_124]
        | succ i ih =>
          intro k K o7 hk hK
          have hkb := bits_in (in_nn (v := k) (n := 2 ^ n) (by omega) (by omega)) (by omega)
          rw [sg_Mo_share_31, (hK 81 25 (by omega)).trans J25, pw_shl (by omega)]
          have ih' := fun K o7 => ih (k + 1) K o7 (by omega)
          simp only [fo] at ih'
          rw [sh1] at ih'
          simp (disch := omega) only [n_dle, df, cond_false, c_has, hs_tb, Option.bind_some, pm_ai, sg_Mo_share_48, b01_ne, sg_Mo_share_104, n_s]
          cases hbx : tb (Int32.ofNat k) x' with
          | true =>
            rw [hbx] at ih'
            exact ih' K o7 hK
          | false =>
            rw [hbx] at ih'
            have hc := cn_free (f := fun q => tb (Int32.ofNat k) q) hbx hx'
            have hon := on_n (by omega) hkb
            generalize cn (fun q => tb (Int32.ofNat k) q) n = s at hc hon ih'
            have f1 := fac_rg (s := s) (by omega)
            have f2 := fac_rg (s := n - 1 - s) (by omega)
            have f3 : fac s * fac (n - 1 - s) ≤ 720 * 720 := Nat.mul_le_mul f1.2 f2.2
            obtain ⟨M, m1, m2⟩ := FL K hK (Int32.ofNat k ||| (1 <<< (Int32.ofNat x' &&& 31))) (fun q hq hb => by
              rw [tb_or, tb_shl (by omega) hq, Bool.or_eq_true, decide_eq_true_iff] at hb
              rcases hb with hb | hb
              · exact hkb q hq hb
              · omega)
            obtain ⟨N, n1, n2⟩ := FL M m2 (Int32.ofNat k) hkb
            have K25 := (hK 81 25 (by omega)).trans J25
            simp (disch := omega) only [Bool.not_false, cond_true, c_ones, Option.bind_some, pm_ai, hon, sg_Mo_share_56, c_rowsOfAll, sg_Mo_share_59, K25, sg_Mo_share_70, ls0, ls1, ls2, ls3, ls4, ls5, ls6, ls7, ls8, ls9, ls10, ls11, ls12, ls13, ls20, ls24, ls60, ls64, ls84, ls99, ls100, ls600, ls720, ls4096, ls1000000, n_sub, sg_Mo_share_74, m1, sg_Mo_share_92, n1, sg_Mo_share_98, sg_Mo_share_104, n_s, n_mul, i64_n]
            exact ih' N _ n2
      obtain ⟨M, f1, f2⟩ := loop (2 ^ n) 0 J none (by omega) (fun _ _ _ => rfl)
      refine ⟨M, f1, hF.trans (fun a h1 h2 => by funext j; exact f2 a j (by omega))⟩
theorem q_share {m : Nat → Nat} (b x : Int32) (under : Bool) (g : rG I m) (r : RL I m) : ∃ J, Cl X (d + 5) 143 [vr 1, vi b, vi x, vi (b01 under)] (pm_mm al D I L) = some (some (vl (vShare I m b x under)), pm_mm al D J L) ∧ cF I J := by
  rw [Cl_s]
  show ∃ J, Rn X (d + 4) co_Ch_share (0, [some (vr 1), some (vi b), some (vi x), some (vi (b01 under)), none, none, none, none, none, none, none], [], pm_mm al D I L) = _ ∧ _
  have m0 := (g.1 0 (by omega)).1
  have h1 : Cl X (d + 4) 93 [vr 2, vi 0, vi b] (pm_mm al D I L) = _ := k_has (d := d + 3) (s := 0) (m := m 0) b (by omega) m0 ((r.1 0 (by omega)).trans (g.1 0 (by omega)).2)
  rw [sg_Ch_share_x_0, h1, vShare]
  simp only [Option.bind_some, pm_ai]
  cases hb : pm_in b (m 0) with
  | false => exact ⟨I, (sg_Ch_share_x0_9 ..).trans (sgb_Ch_share_32 ..), cF_refl⟩
  | true =>
    obtain ⟨b', hb', eb⟩ := in_nat hb
    subst eb
    have hb2 : b' < 2 := by omega
    rw [n_tn (by omega)]
    have n6 := (g.2.1 b' hb').1
    have hp2 := p2_le n6
    have hc := cP_of (sx := 0) (sy := 0) g r hb'
    have gp := gP_O (sx := 0) (sy := 0) g hb' ⟨by decide, by decide⟩ ⟨by decide, by decide⟩
    have c9 := sgb_Ch_share_9 (b := b') hb2 X (d + 4) x (b01 under) none none none none none none none 1 al D I L
    have hin := in_two (k := x) (n := (I 87 (29 * b')).toNatClampNeg) (by omega)
    rw [show b01 true = 1 from rfl, c9, show decide ((1 : Int32) = 0) = false from rfl, cond_false, hc.1, hin]
    generalize hn : (I 87 (29 * b')).toNatClampNeg = n at *
    cases hk1 : decide (x < 0) with
    | true => exact ⟨I, sgb_Ch_share_32 .., cF_refl⟩
    | false =>
      cases hk2 : decide (x < Int32.ofNat n) with
      | false => exact ⟨I, sgb_Ch_share_32 .., cF_refl⟩
      | true =>
        rw [hk1, hk2] at hin
        obtain ⟨x', hx', ex⟩ := in_nat hin
        subst ex
        rw [n_tn (by omega)]
        have FL : ∀ K, laF I K → ∀ set : Int32, (∀ k, k < 32 → tb set k = true → k < n) → ∃ M, Cl X (d + 4) 32 [vr 73, vr (9 + 5 * b'), vi set, vi 0, vi 0] (pm_mm al D K L) = some (some (vi (lv (PT I b' 0 0) n set).1), pm_mm al D M L) ∧ laF I M := fun K hK set hset => by
          obtain ⟨M, m1, m2, m3⟩ := k_lay (X := X) (d := d) (al := al) (D := D) (L := L) (I := K) (P := PT I b' 0 0) set 0 0 hb2 n6 (cP_up hc hb2 (fun a j a1 a2 => hK a j (by omega) (by omega))) rfl hset
          exact ⟨M, m1, fun a j a1 a2 => (m2 a j a1 a2).trans (hK a j a1 a2)⟩
        have loop : ∀ i k K o8 o9 o10, k + i = 2 ^ n → laF I K → ∃ M, Rn X (d + 4) co_Ch_share (53, [some (vr 1), some (vi (Int32.ofNat b')), some (vi (Int32.ofNat x')), some (vi (b01 under)), some (vr (9 + 5 * b')), some (vl (fo (sh1 (PT I b' 0 0) n x') k 0)), none, some (vi (Int32.ofNat k)), o8, o9, o10], [], pm_mm al D K L) = some (some (vl (pa (fo (sh1 (PT I b' 0 0) n x') (2 ^ n) 0) (Int64.ofNat (fac n)) under)), pm_mm al D M L) ∧ laF I M := by
          intro i
          induction i with
          | zero =>
            intro k K o8 o9 o10 hk hK
            obtain rfl : k = 2 ^ n := by omega
            refine ⟨K, ?_, hK⟩
            have hf := fac_rg n6
            have hrg := sh_rg gp n6 hx' (2 ^ n) hp2
            have hpt := k_part (X := X) (d := d + 2) (al := al) (D := D) (I := K) (L := L) (up := fo (sh1 (PT I b' 0 0) n x') (2 ^ n) 0) (down := Int64.ofNat (fac n)) under (by omega) (by rw [u_ti (by omega)]; omega) (by rw [u_ti (by omega)]; omega)
            rw [sgb_Ch_share_53 hb2, (hK _ _ (by omega) (by omega)).trans hc.1, pw_shl (by omega)]
            simp (disch := omega) only [n_dle, dt, cond_true, k_factorial, Option.bind_some, pm_al, sgb_Ch_share_158, hpt, sgb_Ch_share_162]
          | succ i ih =>
            intro k K o8 o9 o10 hk hK
            have hkb := bits_in (in_nn (v := k) (n := 2 ^ n) (by omega) (by omega)) (by omega)
            rw [sgb_Ch_share_53 hb2, (hK _ _ (by omega) (by omega)).trans hc.1, pw_shl (by omega)]
            have ih' := fun K o8 o9 o10 => ih (k + 1) K o8 o9 o10 (by omega)
            simp only [fo] at ih'
            rw [sh1] at ih'
            simp (disch := omega) only [n_dle, df, cond_false, hs0_tb, sgb_Ch_share_142 hb2, n_s]
            cases hbx : tb (Int32.ofNat k) x' with
            | true =>
              rw [hbx] at ih'
              exact ih' K o8 o9 o10 hK
            | false =>
              rw [hbx] at ih'
              have hcn := cn_free (f := fun q => tb (Int32.ofNat k) q) hbx hx'
              have hon := on_n (by omega) hkb
              generalize cn (fun q => tb (Int32.ofNat k) q) n = s at hcn hon ih'
              obtain ⟨M, m1, m2⟩ := FL K hK (Int32.ofNat k ||| (1 <<< (Int32.ofNat x' &&& 31))) (fun q hq hb => by
                rw [tb_or, tb_shl (by omega) hq, Bool.or_eq_true, decide_eq_true_iff] at hb
                rcases hb with hb | hb
                · exact hkb q hq hb
                · omega)
              obtain ⟨N, n1, n2⟩ := FL M m2 (Int32.ofNat k) hkb
              have K4 := (hK (9 + 5 * b') 4 (by omega) (by omega)).trans hc.1
              have bc := k_bitCount (X := X) (d := d + 3) (al := al) (D := D) (L := L) (I := K) (x := Int32.ofNat k) (by rw [n_ti (by omega)]; omega) (by rw [n_ti (by omega)]; omega)
              simp (disch := omega) only [Bool.not_false, cond_true, bc, Option.bind_some, pm_ai, hon, sgb_Ch_share_79 hb2, k_factorial, pm_al, sgb_Ch_share_86 hb2, K4, ls0, ls1, ls2, ls3, ls4, ls5, ls6, ls7, ls8, ls9, ls10, ls11, ls12, ls13, ls20, ls24, ls60, ls64, ls84, ls99, ls100, ls600, ls720, ls4096, ls1000000, n_sub, sgb_Ch_share_99 hb2, m1, sgb_Ch_share_123 hb2, n1, sgb_Ch_share_136 hb2, sgb_Ch_share_142 hb2, n_s, un_mul]
              exact ih' N _ _ _ n2
        obtain ⟨M, f1, f2⟩ := loop (2 ^ n) 0 I none none none (by omega) (fun _ _ _ _ => rfl)
        exact ⟨M, f1, cF_la f2⟩
end
