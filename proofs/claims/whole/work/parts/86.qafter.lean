section
variable {X : Nat × (Nat → Int32)} {d : Nat} {al : List Nat} {D : Nat → Bool} {I : Nat → Nat → Int32} {L : Nat → Nat → Int64}
theorem k_firstSilence : Cl X (d + 1) 52 [vr 49] (pm_mm al D I L) = some (some (vi (ff (fun t => I 58 (t + 1)) 0 12)), pm_mm al D I L) := by
  rw [Cl_s]
  show Rn X d co_Pl_firstSilence (0, [some (vr 49), none], [], pm_mm al D I L) = _
  rw [sg_Pl_firstSilence_0]
  suffices h : ∀ n k, k + n = 12 → Rn X d co_Pl_firstSilence (2, [some (vr 49), some (vi (Int32.ofNat k))], [], pm_mm al D I L) = some (some (vi (ff (fun t => I 58 (t + 1)) k n)), pm_mm al D I L) from h 12 0 rfl
  intro n
  induction n with
  | zero => intro k hk; obtain rfl : k = 12 := by omega
            rw [sg_Pl_firstSilence_2]; rfl
  | succ n ih =>
    intro k hk
    rw [sg_Pl_firstSilence_2]; simp (disch := omega) only [a0, a1, a2, a3, a4, a5, a6, a7, a8, a9, a10, a11, a12, a13, a20, a24, a60, a64, a84, a99, a100, a600, a720, a4096, a1000000, df, n_s, n_in, dt, n_tn, cond_true, cond_false, ff]
    cases decide (I 58 (k + 1) = 0) with
    | true => exact ih (k + 1) (by omega)
    | false => rfl
theorem k_loudest (hsm : ∀ t, t < 12 → sma (I 57 (t + 1))) : Cl X (d + 2) 54 [vr 49] (pm_mm al D I L) = some (some (vi (Int32.ofNat (lou (fun t => I 57 (t + 1))))), pm_mm al D I L) := by
  rw [Cl_s]
  show Rn X (d + 1) co_Pl_loudest (0, [some (vr 49), none, none], [], pm_mm al D I L) = _
  rw [sg_Pl_loudest_0]
  obtain ⟨b, e1, e2⟩ := lp 11 (fun k b => Rn X (d + 1) co_Pl_loudest (4, [some (vr 49), some (vi (Int32.ofNat b)), some (vi (Int32.ofNat (k + 1)))], [], pm_mm al D I L)) (fun k b => b = fo (lou1 (fun t => I 57 (t + 1))) k 0) (fun k b hk hq => by
    have hb : b ≤ k := by rw [hq]; exact lou_le _ k
    refine ⟨lou1 (fun t => I 57 (t + 1)) k b, ?_, by rw [hq]; rfl⟩
    show Rn X (d + 1) co_Pl_loudest _ = Rn X (d + 1) co_Pl_loudest _
    have b1 := k_bitCount (X := X) (d := d) (al := al) (D := D) (L := L) (I := I) (hsm (k + 1) (by omega)).1 (hsm (k + 1) (by omega)).2
    have b2 := k_bitCount (X := X) (d := d) (al := al) (D := D) (L := L) (I := I) (hsm b (by omega)).1 (hsm b (by omega)).2
    rw [sg_Pl_loudest_4]; simp (disch := omega) only [a0, a1, a2, a3, a4, a5, a6, a7, a8, a9, a10, a11, a12, a13, a20, a24, a60, a64, a84, a99, a100, a600, a720, a4096, a1000000, df, n_s, n_in, dt, n_tn, cond_true, cond_false, b1, b2, Option.bind_some, pm_ai, sg_Pl_loudest_21, sg_Pl_loudest_32, sg_Pl_loudest_37, lou1]
    by_cases h : on (I 57 (k + 1 + 1)) ≤ on (I 57 (b + 1))
    · rw [decide_eq_true h, if_pos h]; rfl
    · rw [decide_eq_false h, if_neg h]; rfl) 0 0 (by omega) rfl
  refine Eq.trans e1 ?_
  show Rn X (d + 1) co_Pl_loudest _ = _
  rw [sg_Pl_loudest_4, e2]; rfl
theorem k_inAll {b : Nat} (hb : b < 3) (h0 : I (57 + b) 0 = 0) (hsm : ∀ t, t < 12 → sma (I (57 + b) (t + 1))) : Cl X (d + 2) 126 [vr (57 + b)] (pm_mm al D I L) = some (some (vi (fo (sil1 (fun t => I (57 + b) (t + 1))) 12 0)), pm_mm al D I L) := by
  rw [Cl_s]
  refine Eq.trans (show _ = Rn X (d + 1) co_Ch_inAll (0, [some (vr (57 + b)), none, none], [], pm_mm al D I L) from rfl) ?_
  rw [sgb_Ch_inAll_0 hb]
  have h13 : ∀ k, k < 13 → sma (I (57 + b) k) := fun k hk => by
    cases k with
    | zero => rw [h0]; exact ⟨by decide, by decide⟩
    | succ k => exact hsm k (by omega)
  have h := lf 13 (fun k n => Rn X (d + 1) co_Ch_inAll (4, [some (vr (57 + b)), some (vi n), some (vi (Int32.ofNat k))], [], pm_mm al D I L)) (sil1 (I (57 + b))) (fun k n hk => by
    show Rn X (d + 1) co_Ch_inAll _ = Rn X (d + 1) co_Ch_inAll _
    have b1 := k_bitCount (X := X) (d := d) (al := al) (D := D) (L := L) (I := I) (h13 k hk).1 (h13 k hk).2
    rw [sgb_Ch_inAll_4 hb]; simp (disch := omega) only [a0, a1, a2, a3, a4, a5, a6, a7, a8, a9, a10, a11, a12, a13, a20, a24, a60, a64, a84, a99, a100, a600, a720, a4096, a1000000, df, n_s, n_in, dt, n_tn, cond_true, cond_false, b1, Option.bind_some, pm_ai, sgb_Ch_inAll_17 hb, sil1]) 0
  refine Eq.trans h ?_
  show Rn X (d + 1) co_Ch_inAll _ = _
  rw [sgb_Ch_inAll_4 hb, fo_shift]
  have : sil1 (I (57 + b)) 0 0 = 0 := by rw [sil1, h0]; decide
  rw [this]; rfl
theorem k_leakedInAll : Cl X (d + 1) 55 [vr 49] (pm_mm al D I L) = some (some (vi (fo (fun t a => a + I 56 (t + 1)) 12 0)), pm_mm al D I L) := by
  rw [Cl_s]
  show Rn X d co_Pl_leakedInAll (0, [some (vr 49), none, none], [], pm_mm al D I L) = _
  rw [sg_Pl_leakedInAll_0]
  have h := lf 12 (fun k n => Rn X d co_Pl_leakedInAll (4, [some (vr 49), some (vi n), some (vi (Int32.ofNat k))], [], pm_mm al D I L)) (fun t a => a + I 56 (t + 1)) (fun k n hk => by
    show Rn X d co_Pl_leakedInAll _ = Rn X d co_Pl_leakedInAll _
    rw [sg_Pl_leakedInAll_4]; simp (disch := omega) only [a0, a1, a2, a3, a4, a5, a6, a7, a8, a9, a10, a11, a12, a13, a20, a24, a60, a64, a84, a99, a100, a600, a720, a4096, a1000000, df, n_s, n_in, dt, n_tn, cond_true, cond_false]) 0
  refine Eq.trans h ?_
  show Rn X d co_Pl_leakedInAll _ = _
  rw [sg_Pl_leakedInAll_4]; rfl
theorem k_worthInAll {b n : Nat} (hb : b < 2) (hn : n ≤ 6) (en : I 49 3 = Int32.ofNat n) : Cl X (d + 1) 56 [vr 49, vr (11 + 5 * b)] (pm_mm al D I L) = some (some (vi (wo (fun t => I 57 (t + 1)) (I (11 + 5 * b)) n)), pm_mm al D I L) := by
  rw [Cl_s]
  refine Eq.trans (show _ = Rn X d co_Pl_worthInAll (0, [some (vr 49), some (vr (11 + 5 * b)), none, none, none], [], pm_mm al D I L) from rfl) ?_
  rw [sgb_Pl_worthInAll_0 hb]
  obtain ⟨q, e1, e2⟩ := lp (σ := Int32 × Option pm_V) 12 (fun k s => Rn X d co_Pl_worthInAll (4, [some (vr 49), some (vr (11 + 5 * b)), some (vi s.1), some (vi (Int32.ofNat k)), s.2], [], pm_mm al D I L)) (fun k s => s.1 = fo (fun t a => fo (wo1 (I 57 (t + 1)) (I (11 + 5 * b))) n a) k 0) (fun k s hk hq => by
    refine ⟨(fo (wo1 (I 57 (k + 1)) (I (11 + 5 * b))) n s.1, some (vi (Int32.ofNat n))), ?_, by show _ = fo (wo1 (I 57 (k + 1)) _) n (fo _ k 0); rw [← hq]⟩
    show Rn X d co_Pl_worthInAll _ = Rn X d co_Pl_worthInAll _
    have hin := lf n (fun p a => Rn X d co_Pl_worthInAll (13, [some (vr 49), some (vr (11 + 5 * b)), some (vi a), some (vi (Int32.ofNat k)), some (vi (Int32.ofNat p))], [], pm_mm al D I L)) (wo1 (I 57 (k + 1)) (I (11 + 5 * b))) (fun p a hp => by
      show Rn X d co_Pl_worthInAll _ = Rn X d co_Pl_worthInAll _
      rw [sgb_Pl_worthInAll_13 hb]; simp (disch := omega) only [en, n_dle, df, cond_true, cond_false, n_s, n_in, dt, n_tn, hs0_tb, sgb_Pl_worthInAll_45 hb, wo1, hs_tb]
      cases tb (I 57 (k + 1)) p with
      | true => rfl
      | false => simp only [Bool.not_false, cond_true, cond_false, Int32.add_zero]) s.1
    rw [sgb_Pl_worthInAll_4 hb]; simp (disch := omega) only [a0, a1, a2, a3, a4, a5, a6, a7, a8, a9, a10, a11, a12, a13, a20, a24, a60, a64, a84, a99, a100, a600, a720, a4096, a1000000, df, cond_false]
    refine Eq.trans hin ?_
    show Rn X d co_Pl_worthInAll _ = Rn X d co_Pl_worthInAll _
    rw [sgb_Pl_worthInAll_13 hb]; simp (disch := omega) only [en, n_dle, dt, cond_true, n_s]) 0 (0, none) (by omega) rfl
  refine Eq.trans e1 ?_
  show Rn X d co_Pl_worthInAll _ = _
  rw [sgb_Pl_worthInAll_4 hb, e2]; rfl
theorem k_hushFrom {t : Nat} (ht : t < 12) : Cl X (d + 1) 57 [vr 49, vi (Int32.ofNat t)] (pm_mm al D I L) = some (some (vi (Int32.ofNat (zr (fun t => I 57 (t + 1)) t (12 - t)))), pm_mm al D I L) := by
  rw [Cl_s]
  show Rn X d co_Pl_hushFrom (0, [some (vr 49), some (vi (Int32.ofNat t)), none], [], pm_mm al D I L) = _
  rw [sg_Pl_hushFrom_0]
  have hin : ∀ m n, t + n + m = 12 → Rn X d co_Pl_hushFrom (2, [some (vr 49), some (vi (Int32.ofNat t)), some (vi (Int32.ofNat (t + n)))], [], pm_mm al D I L) = some (some (vi (Int32.ofNat (n + zr (fun t => I 57 (t + 1)) (t + n) m))), pm_mm al D I L) := by
    intro m
    induction m with
    | zero => intro n hn; rw [sg_Pl_hushFrom_2]; simp (disch := omega) only [a0, a1, a2, a3, a4, a5, a6, a7, a8, a9, a10, a11, a12, a13, a20, a24, a60, a64, a84, a99, a100, a600, a720, a4096, a1000000, dt, cond_true, zr, Nat.add_zero, sg_Pl_hushFrom_25, n_sub, Nat.add_sub_cancel_left]
    | succ m ih =>
      intro n hn
      have ih := ih (n + 1) (by omega)
      rw [sg_Pl_hushFrom_2]; simp (disch := omega) only [a0, a1, a2, a3, a4, a5, a6, a7, a8, a9, a10, a11, a12, a13, a20, a24, a60, a64, a84, a99, a100, a600, a720, a4096, a1000000, df, n_s, n_in, dt, n_tn, cond_true, cond_false, zr, sg_Pl_hushFrom_25, n_sub, Nat.add_sub_cancel_left]
      by_cases hc : I 57 (t + n + 1) = 0
      · rw [decide_eq_true hc, cond_true, if_pos hc, show t + n + 1 = t + (n + 1) by omega, ih, show n + 1 + zr (fun t => I 57 (t + 1)) (t + (n + 1)) m = n + (zr (fun t => I 57 (t + 1)) (t + (n + 1)) m + 1) by omega]
      · rw [decide_eq_false hc, cond_false, if_neg hc, Nat.add_zero]
  have h := hin (12 - t) 0 (by omega)
  rw [Nat.add_zero, Nat.zero_add] at h
  exact h
theorem k_hush : Cl X (d + 2) 58 [vr 49] (pm_mm al D I L) = some (some (vi (Int32.ofNat (hu (fun t => I 57 (t + 1))).1)), pm_mm al D I L) := by
  rw [Cl_s]
  show Rn X (d + 1) co_Pl_hush (0, [some (vr 49), none, none], [], pm_mm al D I L) = _
  rw [sg_Pl_hush_0]
  have h := lf 12 (fun k (_ : Unit) => Rn X (d + 1) co_Pl_hush (4, [some (vr 49), some (vi (Int32.ofNat (fo (hu1 (fun t => I 57 (t + 1))) k (0, -1)).1)), some (vi (Int32.ofNat k))], [], pm_mm al D I L)) (fun _ q => q) (fun k _ hk => by
    show Rn X (d + 1) co_Pl_hush _ = Rn X (d + 1) co_Pl_hush _
    have hz := zr_le (fun t => I 57 (t + 1)) (12 - k) k
    have hl := hu_le (fun t => I 57 (t + 1)) k
    rw [fo]
    generalize fo (hu1 (fun t => I 57 (t + 1))) k (0, -1) = s at hl
    rw [sg_Pl_hush_4]; simp (disch := omega) only [a0, a1, a2, a3, a4, a5, a6, a7, a8, a9, a10, a11, a12, a13, a20, a24, a60, a64, a84, a99, a100, a600, a720, a4096, a1000000, df, n_s, cond_true, cond_false, k_hushFrom, Option.bind_some, pm_ai, sg_Pl_hush_16, k_max, sg_Pl_hush_19, mxx, n_lt, hu1]
    by_cases hc : zr (fun t => I 57 (t + 1)) k (12 - k) ≤ s.1
    · rw [if_pos hc, if_neg (by omega)]
    · rw [if_neg hc, if_pos (by omega)]) ()
  refine Eq.trans h ?_
  show Rn X (d + 1) co_Pl_hush _ = _
  rw [sg_Pl_hush_4]; rfl
/-- the first of f that is v -/
def fb (f : Nat → Nat) (v : Nat) : Nat → Nat → Int32
  | _, 0 => -1
  | k, n + 1 => if f k = v then Int32.ofNat k else fb f v (k + 1) n
theorem fb_at {f : Nat → Nat} {v : Nat} : ∀ n k t, k ≤ t → t < k + n → f t = v → (∀ u, k ≤ u → u < t → f u ≠ v) → fb f v k n = Int32.ofNat t
  | 0, k, t, h1, h2, _, _ => by omega
  | n + 1, k, t, h1, h2, h3, h4 => by
    rw [fb]
    by_cases h : k = t
    · subst h; rw [if_pos h3]
    · rw [if_neg (h4 k (by omega) (by omega))]; exact fb_at n (k + 1) t (by omega) (by omega) h3 (fun u a b => h4 u (by omega) b)
theorem hu_fb (g : Nat → Int32) : ∀ n, (∀ u, u < n → zr g u (12 - u) ≤ (fo (hu1 g) n (0, -1)).1) ∧ (((fo (hu1 g) n (0, -1)).1 = 0 ∧ (fo (hu1 g) n (0, -1)).2 = -1) ∨ (0 < (fo (hu1 g) n (0, -1)).1 ∧ ∃ t, t < n ∧ (fo (hu1 g) n (0, -1)).2 = Int32.ofNat t ∧ zr g t (12 - t) = (fo (hu1 g) n (0, -1)).1 ∧ ∀ u, u < t → zr g u (12 - u) < (fo (hu1 g) n (0, -1)).1))
  | 0 => ⟨fun u hu => absurd hu (Nat.not_lt_zero u), Or.inl ⟨rfl, rfl⟩⟩
  | n + 1 => by
    obtain ⟨h1, h2⟩ := hu_fb g n
    rw [fo]
    generalize fo (hu1 g) n (0, -1) = s at h1 h2
    rw [hu1]
    by_cases hc : zr g n (12 - n) ≤ s.1
    · rw [if_pos hc]
      refine ⟨fun u hu => ?_, ?_⟩
      · by_cases hun : u = n
        · subst hun; exact hc
        · exact h1 u (by omega)
      · rcases h2 with h2 | ⟨h2, t, ht, e1, e2, e3⟩
        · exact Or.inl h2
        · exact Or.inr ⟨h2, t, by omega, e1, e2, e3⟩
    · rw [if_neg hc]
      refine ⟨fun u hu => ?_, Or.inr ⟨by show 0 < zr g n (12 - n); omega, n, by omega, rfl, rfl, fun u hu => ?_⟩⟩
      · show zr g u (12 - u) ≤ zr g n (12 - n)
        by_cases hun : u = n
        · subst hun; exact Nat.le_refl _
        · have := h1 u (by omega); omega
      · show zr g u (12 - u) < zr g n (12 - n)
        have := h1 u hu; omega
theorem k_hushBegin : Cl X (d + 3) 59 [vr 49] (pm_mm al D I L) = some (some (vi (hu (fun t => I 57 (t + 1))).2), pm_mm al D I L) := by
  rw [Cl_s]
  show Rn X (d + 2) co_Pl_hushBegin (0, [some (vr 49), none, none], [], pm_mm al D I L) = _
  have hl := hu_le (fun t => I 57 (t + 1)) 12
  obtain ⟨h1, h2⟩ := hu_fb (fun t => I 57 (t + 1)) 12
  have e : fo (hu1 (fun t => I 57 (t + 1))) 12 (0, -1) = hu (fun t => I 57 (t + 1)) := rfl
  rw [e] at hl h1 h2
  rw [sg_Pl_hushBegin_0, k_hush]
  simp only [Option.bind_some, pm_ai, sg_Pl_hushBegin_4]
  generalize hu (fun t => I 57 (t + 1)) = s at hl h1 h2
  rcases h2 with ⟨z1, z2⟩ | ⟨z1, t, ht, z2, z3, z4⟩
  · rw [z1, z2, sg_Pl_hushBegin_7]; simp only [sg_Pl_hushBegin_34]; rfl
  · have hh : ∀ n k, k + n = 12 → Rn X (d + 2) co_Pl_hushBegin (7, [some (vr 49), some (vi (Int32.ofNat s.1)), some (vi (Int32.ofNat k))], [], pm_mm al D I L) = some (some (vi (fb (fun u => zr (fun t => I 57 (t + 1)) u (12 - u)) s.1 k n)), pm_mm al D I L) := by
      intro n
      induction n with
      | zero => intro k hk; rw [sg_Pl_hushBegin_7]; simp (disch := omega) only [a0, a1, a2, a3, a4, a5, a6, a7, a8, a9, a10, a11, a12, a13, a20, a24, a60, a64, a84, a99, a100, a600, a720, a4096, a1000000, dt, cond_true, sg_Pl_hushBegin_34, fb]
      | succ n ih =>
        intro k hk
        have hz := zr_le (fun t => I 57 (t + 1)) (12 - k) k
        rw [sg_Pl_hushBegin_7]; simp (disch := omega) only [a0, a1, a2, a3, a4, a5, a6, a7, a8, a9, a10, a11, a12, a13, a20, a24, a60, a64, a84, a99, a100, a600, a720, a4096, a1000000, b0, b1, b2, b3, b4, b5, b6, b7, b8, b9, b10, b11, b12, b13, b20, b24, b60, b64, b84, b99, b100, b600, b720, b4096, b1000000, df, cond_false, k_hushFrom, Option.bind_some, pm_ai, sg_Pl_hushBegin_22, n_deq, n_s, fb]
        by_cases hc : zr (fun t => I 57 (t + 1)) k (12 - k) = s.1
        · rw [decide_eq_true hc, if_pos hc]; rfl
        · rw [decide_eq_false hc, if_neg hc]; exact ih (k + 1) (by omega)
    refine Eq.trans (hh 12 0 rfl) ?_
    rw [fb_at 12 0 t (by omega) (by omega) z3 (fun u _ hu => by have := z4 u hu; omega), z2]
/-- the first to faint -/
def ftl (g : Nat → Int32) (n : Nat) : Nat → Nat → Int32
  | _, 0 => -1
  | t, m + 1 => cond (decide (lo (g t) 0 n = -1)) (ftl g n (t + 1) m) (lo (g t) 0 n)
theorem ofNat_ne_m1 {k : Nat} (hk : k < 2147483648) : Int32.ofNat k ≠ -1 := fun h => by
  have := congrArg Int32.toInt h
  rw [n_ti hk] at this
  have e : (-1 : Int32).toInt = -1 := rfl
  omega
theorem k_firstToFaint {n : Nat} (hn : n ≤ 6) (en : I 49 3 = Int32.ofNat n) : Cl X (d + 1) 53 [vr 49] (pm_mm al D I L) = some (some (vi (ftl (fun t => I 55 (t + 1)) n 0 12)), pm_mm al D I L) := by
  rw [Cl_s]
  show Rn X d co_Pl_firstToFaint (0, [some (vr 49), none, none], [], pm_mm al D I L) = _
  rw [sg_Pl_firstToFaint_0]
  suffices h : ∀ m t o, t + m = 12 → Rn X d co_Pl_firstToFaint (2, [some (vr 49), some (vi (Int32.ofNat t)), o], [], pm_mm al D I L) = some (some (vi (ftl (fun t => I 55 (t + 1)) n t m)), pm_mm al D I L) from h 12 0 none rfl
  intro m
  induction m with
  | zero => intro t o ht; rw [sg_Pl_firstToFaint_2]; simp (disch := omega) only [a0, a1, a2, a3, a4, a5, a6, a7, a8, a9, a10, a11, a12, a13, a20, a24, a60, a64, a84, a99, a100, a600, a720, a4096, a1000000, dt, cond_true, ftl]
  | succ m ih =>
    intro t o ht
    rw [sg_Pl_firstToFaint_2]; simp (disch := omega) only [a0, a1, a2, a3, a4, a5, a6, a7, a8, a9, a10, a11, a12, a13, a20, a24, a60, a64, a84, a99, a100, a600, a720, a4096, a1000000, df, cond_false, ftl]
    have hin : ∀ j p, p + j = n → Rn X d co_Pl_firstToFaint (10, [some (vr 49), some (vi (Int32.ofNat t)), some (vi (Int32.ofNat p))], [], pm_mm al D I L) = cond (decide (lo (I 55 (t + 1)) p j = -1)) (some (some (vi (ftl (fun t => I 55 (t + 1)) n (t + 1) m)), pm_mm al D I L)) (some (some (vi (lo (I 55 (t + 1)) p j)), pm_mm al D I L)) := by
      intro j
      induction j with
      | zero =>
        intro p hp
        obtain rfl : p = n := by omega
        rw [sg_Pl_firstToFaint_10]; simp (disch := omega) only [en, n_dle, dt, cond_true, n_s, lo, decide_true]
        exact ih (t + 1) _ (by omega)
      | succ j ihj =>
        intro p hp
        rw [sg_Pl_firstToFaint_10]; simp (disch := omega) only [en, n_dle, df, cond_false, n_s, n_in, dt, n_tn, cond_true, hs0_tb, lo, hs_tb]
        cases tb (I 55 (t + 1)) p with
        | true => simp only [Bool.not_true, cond_false, cond_true, df (ofNat_ne_m1 (show p < 2147483648 by omega))]
        | false => simp only [Bool.not_false, cond_false, cond_true]; exact ihj (p + 1) (by omega)
    refine Eq.trans (hin n 0 (by omega)) ?_
    cases decide (lo (I 55 (t + 1)) 0 n = -1) <;> rfl
theorem lo_len {x : Int32} : ∀ m m' k, m ≤ m' → k + m' ≤ 32 → (∀ j, k + m ≤ j → j < k + m' → tb x j = false) → lo x k m' = lo x k m
  | 0, 0, _, _, _, _ => rfl
  | 0, m' + 1, k, _, h2, h => by
    show cond (hs x (Int32.ofNat k)) (Int32.ofNat k) (lo x (k + 1) m') = lo x k 0
    rw [hs_tb _ (by omega), h k (by omega) (by omega), cond_false]
    exact lo_len 0 m' (k + 1) (by omega) (by omega) (fun j a b => h j (by omega) (by omega))
  | m + 1, 0, _, h1, _, _ => by omega
  | m + 1, m' + 1, k, h1, h2, h => by
    rw [lo, lo, lo_len m m' (k + 1) (by omega) (by omega) (fun j a b => h j (by omega) (by omega))]
theorem lo_none {x : Int32} : ∀ m k, k + m ≤ 32 → lo x k m = -1 → ∀ j, k ≤ j → j < k + m → tb x j = false
  | 0, k, _, _, j, h1, h2 => by omega
  | m + 1, k, hk, h, j, h1, h2 => by
    rw [lo, hs_tb _ (by omega)] at h
    cases hb : tb x k with
    | true => rw [hb] at h; exact absurd h (ofNat_ne_m1 (by omega))
    | false =>
      rw [hb] at h
      by_cases hjk : j = k
      · subst hjk; exact hb
      · exact lo_none m (k + 1) (by omega) h j (by omega) (by omega)
theorem fnt_stay {B : PB} {w : Nat → Int32} {tr : Nat → Int32 → Bool} {t : Nat} (h : fnt B w tr t ≠ -1) : ∀ m, fnt B w tr (t + m) = fnt B w tr t
  | 0 => rfl
  | m + 1 => by rw [← Nat.add_assoc, fnt, fnt_stay h m, df h, cond_false]
theorem fnt_ftl {B : PB} {w : Nat → Int32} {tr : Nat → Int32 → Bool} (hn : B.2.2.2.2.1 ≤ 6) (hb : ∀ t, psB B.2.2.2.2.1 (pst B w tr t)) : ∀ m t, t + m = 12 → fnt B w tr t = -1 → (pst B w tr t).2.2.1 = 0 → fnt B w tr 12 = ftl (fun u => (pst B w tr (u + 1)).2.2.1) B.2.2.2.2.1 t m
  | 0, t, ht, h1, _ => by obtain rfl : t = 12 := by omega
                          rw [h1, ftl]
  | m + 1, t, ht, h1, h2 => by
    have e1 : fnt B w tr (t + 1) = lo ((pst B w tr (t + 1)).2.2.2.2.1 &&& (pst B w tr t).2.2.2.2.1) 0 12 := by rw [fnt, h1]; rfl
    have e2 : (pst B w tr (t + 1)).2.2.1 = (pst B w tr (t + 1)).2.2.2.2.1 &&& (pst B w tr t).2.2.2.2.1 := by
      have : (pst B w tr (t + 1)).2.2.1 = (pst B w tr t).2.2.1 ||| ((pst B w tr (t + 1)).2.2.2.2.1 &&& (pst B w tr t).2.2.2.2.1) := rfl
      rw [this, h2, Int32.zero_or]
    have e3 := lo_len (x := (pst B w tr (t + 1)).2.2.1) B.2.2.2.2.1 12 0 (by omega) (by omega) (fun j a b => by
      cases hh : tb (pst B w tr (t + 1)).2.2.1 j with
      | false => rfl
      | true => have := (hb (t + 1) j (by omega)).1 hh; omega)
    rw [← e2, e3] at e1
    rw [ftl]
    by_cases hc : lo (pst B w tr (t + 1)).2.2.1 0 B.2.2.2.2.1 = -1
    · have hz : (pst B w tr (t + 1)).2.2.1 = 0 := tb_zero (fun k hk => by
        cases hh : tb (pst B w tr (t + 1)).2.2.1 k with
        | false => rfl
        | true =>
          have := (hb (t + 1) k hk).1 hh
          have := lo_none B.2.2.2.2.1 0 (by omega) hc k (by omega) (by omega)
          rw [hh] at this; cases this)
      rw [dt hc, cond_true]
      exact fnt_ftl hn hb m (t + 1) (by omega) (e1.trans hc) hz
    · rw [df hc, cond_false, ← e1]
      have := fnt_stay (B := B) (w := w) (tr := tr) (t := t + 1) (by rw [e1]; exact hc) m
      rw [show t + 1 + m = 12 by omega] at this
      exact this
theorem lks_fo {B : PB} {w : Nat → Int32} {tr : Nat → Int32 → Bool} : ∀ n, fo (fun t a => a + (pst B w tr (t + 1)).2.2.2.2.2.2) n 0 = lks B w tr n
  | 0 => rfl
  | n + 1 => by rw [fo, lks_fo n]; rfl
theorem q_after {m : Nat → Nat} (b s u what : Int32) (g : rG I m) (r : RL I m) (z : cZ I) : ∃ J, Cl X (d + 5) 125 [vr 1, vi b, vi s, vi u, vi what] (pm_mm al D I L) = some (some (vi (vAfter I m b s u what)), pm_mm al D J L) ∧ cF I J := by
  have hm : ∀ i, i < 4 → m i ≤ 2 ∧ I 4 i = Int32.ofNat (m i) := fun i hi => ⟨(g.1 i hi).1, (r.1 i hi).trans (g.1 i hi).2⟩
  rw [Cl_s]
  show ∃ J, Rn X (d + 4) co_Ch_after (0, [some (vr 1), some (vi b), some (vi s), some (vi u), some (vi what)], [], pm_mm al D I L) = _ ∧ _
  rw [sg_Ch_after_x_0, k_hasThree (d := d + 1) b s u hm]
  simp only [Option.bind_some, pm_ai, sg_Ch_after_x_7, b01_ne, vAfter]
  rw [Bool.and_comm (pm_in s (m 1))]
  cases hok : (pm_in b (m 0) && pm_in s (m 1) && pm_in u (m 2)) with
  | false => exact ⟨I, rfl, cF_refl⟩
  | true =>
    simp only [Bool.not_true, cond_false, cond_true]
    simp only [Bool.and_eq_true] at hok
    obtain ⟨⟨o1, o2⟩, o3⟩ := hok
    obtain ⟨s', hs', es⟩ := in_nat o2
    obtain ⟨b', hb', eb⟩ := in_nat o1
    obtain ⟨u', hu', eu⟩ := in_nat o3
    have m0 := (g.1 0 (by omega)).1
    have m1 := (g.1 1 (by omega)).1
    have m2 := (g.1 2 (by omega)).1
    obtain ⟨J, e1, e2, e3⟩ := k_prepare (X := X) (d := d + 1) (al := al) (D := D) (L := L) (I := I) (b := b') (s := s') (by omega) (by omega) (sR_gC (r.2.2.1 s' hs') (g.2.2.1 s' hs'))
    obtain ⟨p1, p2, p3, p4, p5⟩ := k_prepared g r hb' hs' e3
    obtain ⟨K, f1, f2, f3, f4⟩ := k_through (X := X) (d := d + 1) (al := al) (D := D) (L := L) (I := J) (J 7 u') p1 p2 p3 p4
    subst eb es eu
    have hb2 : b' < 2 := by omega
    rw [e1]
    simp (disch := omega) only [Option.bind_some, pm_av, sg_Ch_after_x_19, n_in, dt, cond_true, n_tn]
    rw [f1]
    have e7 : J 7 u' = I 89 u' := (e2 7 u' (by unfold prS tkS; omega)).trans (r.2.2.2.1 u' hu')
    rw [e7] at f3 f4
    have q5 := fun t ht => p5 (trd (I 89 u') (-1)) t ht
    obtain ⟨a1, a2, a3⟩ := acc_congr q5 (fun _ _ => rfl) 12 (Nat.le_refl _)
    have hBn : (bdO I b').2.2.2.2.1 = (I 87 (29 * b')).toNatClampNeg := rfl
    have hbit := ps_bits (B := bdO I b') (w := wn (scO I s')) (tr := trd (I 89 u') (-1)) p1 (fun i hi => ⟨i, hi, rfl⟩)
    have st : ∀ t, t < 12 → stD K (t + 1) (pst (bdO I b') (wn (scO I s')) (trd (I 89 u') (-1)) (t + 1)) := fun t ht => by rw [← q5 (t + 1) (by omega)]; exact f3 t ht
    have s57 : ∀ t, t < 12 → sma (K 57 (t + 1)) := fun t ht => by
      rw [(st t ht).2.1]; exact sma_b (n := 6) (by omega) (fun k hk hh => Nat.lt_of_lt_of_le ((hbit (t + 1) k hk).2.1 hh) p1)
    have s59 : ∀ t, t < 12 → sma (K 59 (t + 1)) := fun t ht => by
      rw [(st t ht).2.2.1]; exact sma_b (n := 6) (by omega) (fun k hk hh => Nat.lt_of_lt_of_le ((hbit (t + 1) k hk).2.2.2 hh) p1)
    have z57 : K 57 0 = 0 := f4.2.1.trans ((e2 57 0 (by unfold prS tkS; omega)).trans z.1)
    have z59 : K 59 0 = 0 := f4.2.2.1.trans ((e2 59 0 (by unfold prS tkS; omega)).trans z.2.1)
    have K3 : K 49 3 = Int32.ofNat (I 87 (29 * b')).toNatClampNeg := (f2 49 3 (by unfold plS; omega)).trans p2
    have K11 : ∀ j, K (11 + 5 * b') j = I (9 + 5 * b' + 2) j := fun j => by
      rw [f2 _ j (by unfold plS; omega), e2 _ j (by unfold prS tkS; omega), show 11 + 5 * b' = 9 + 5 * b' + 2 by omega]
    have w0 := k_inAll (X := X) (d := d + 2) (al := al) (D := D) (L := L) (I := K) (b := 0) (by omega) z57 s57
    have w2 := k_inAll (X := X) (d := d + 2) (al := al) (D := D) (L := L) (I := K) (b := 2) (by omega) z59 s59
    have w0 : Cl X (d + 4) 126 [vr 57] (pm_mm al D K L) = _ := w0
    have w2 : Cl X (d + 4) 126 [vr 59] (pm_mm al D K L) = _ := w2
    have w6 := k_worthInAll (X := X) (d := d + 3) (al := al) (D := D) (L := L) (I := K) hb2 p1 K3
    have w1 := k_firstToFaint (X := X) (d := d + 3) (al := al) (D := D) (L := L) (I := K) p1 K3
    have w3 := k_loudest (X := X) (d := d + 2) (al := al) (D := D) (L := L) (I := K) s57
    refine ⟨K, ?_, cF_pt e2 f2 f4.2.1 f4.2.2.1⟩
    simp only [Option.bind_some, pm_av]
    have c35 := sgb_Ch_after_35 (b := b') (s := s') hb2 (by omega) X (d + 4) (some (vi (Int32.ofNat s'))) (some (vi (Int32.ofNat u'))) what al D K L
    refine Eq.trans c35 ?_
    have v1 : fnt (bdO I b') (wn (scO I s')) (trd (I 89 u') (-1)) 12 = ftl (fun t => K 55 (t + 1)) (I 87 (29 * b')).toNatClampNeg 0 12 := by
      rw [fnt_ftl (B := bdO I b') p1 hbit 12 0 rfl rfl rfl]
      have : ∀ m t, t + m = 12 → ftl (fun u => (pst (bdO I b') (wn (scO I s')) (trd (I 89 u') (-1)) (u + 1)).2.2.1) (bdO I b').2.2.2.2.1 t m = ftl (fun t => K 55 (t + 1)) (I 87 (29 * b')).toNatClampNeg t m := by
        intro m
        induction m with
        | zero => intro t ht; rfl
        | succ m ih => intro t ht; rw [ftl, ftl, ih (t + 1) (by omega), (st t (by omega)).1.2.2.1, hBn]
      exact this 12 0 rfl
    have v5 : lks (bdO I b') (wn (scO I s')) (trd (I 89 u') (-1)) 12 = fo (fun t a => a + K 56 (t + 1)) 12 0 := by
      rw [← lks_fo]; exact fo_congr 12 _ (fun t a ht => by rw [(st t ht).2.2.2])
    rw [vAft, hBn, ← lou_congr (g := fun t => K 57 (t + 1)) (fun t ht => (st t ht).2.1), ← ff_congr (g := fun t => K 58 (t + 1)) 12 0 (fun t _ ht => (st t (by omega)).1.2.2.2),
      ← sil_congr (g := fun t => K 57 (t + 1)) (fun t ht => (st t ht).2.1), ← sil_congr (g := fun t => K 59 (t + 1)) (fun t ht => (st t ht).2.2.1), ← hu_congr (g := fun t => K 57 (t + 1)) (fun t ht => (st t ht).2.1),
      ← wo_congr (g := fun t => K 57 (t + 1)) (wr := K (11 + 5 * b')) (fun t ht => (st t ht).2.1) (fun p hp => (K11 p).trans ((r.2.1 b' hb').2.2.2.2.2 p hp).2.1), v1, v5, ← a1, ← f4.1]
    simp only [k_firstSilence, w1, w3, w0, w2, k_leakedInAll, w6, k_hush, k_hushBegin, Option.bind_some, pm_ai, sgb_Ch_after_99, sgb_Ch_after_107, sgb_Ch_after_115, sgb_Ch_after_126, sgb_Ch_after_137, sgb_Ch_after_145, sgb_Ch_after_165, sgb_Ch_after_181, sgb_Ch_after_189]
    by_cases c0 : what = 0
    · subst c0; rfl
    by_cases c1 : what = 1
    · subst c1; rfl
    by_cases c2 : what = 2
    · subst c2; rfl
    by_cases c3 : what = 3
    · subst c3; rfl
    by_cases c4 : what = 4
    · subst c4; rfl
    by_cases c5 : what = 5
    · subst c5; rfl
    by_cases c6 : what = 6
    · subst c6; rfl
    by_cases c7 : what = 7
    · subst c7; rfl
    by_cases c8 : what = 8
    · subst c8; rfl
    by_cases c9 : what = 9
    · subst c9; rfl
    · simp only [c0, c1, c2, c3, c4, c5, c6, c7, c8, c9, decide_false, cond_false]
end
