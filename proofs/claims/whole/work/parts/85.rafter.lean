section
variable {X : Nat × (Nat → Int32)} {d : Nat} {al : List Nat} {D : Nat → Bool} {I : Nat → Nat → Int32} {L : Nat → Nat → Int64}
/-- the first that isn't 0 -/
def ff (g : Nat → Int32) : Nat → Nat → Int32
  | _, 0 => -1
  | k, n + 1 => cond (decide (g k = 0)) (ff g (k + 1) n) (Int32.ofNat k)
theorem ff_congr {g h : Nat → Int32} : ∀ n k, (∀ j, k ≤ j → j < k + n → g j = h j) → ff g k n = ff h k n
  | 0, _, _ => rfl
  | n + 1, k, e => by rw [ff, ff, e k (by omega) (by omega), ff_congr n (k + 1) (fun j h1 h2 => e j (by omega) (by omega))]
theorem c_failed : Cl X (d + 1) 254 [vr 81] (pm_mm al D I L) = some (some (vi (ff (I 98) 0 12)), pm_mm al D I L) := by
  rw [Cl_s]
  show Rn X d co_Mo_failed (0, [some (vr 81), none], [], pm_mm al D I L) = _
  rw [sg_Mo_failed_0]
  suffices h : ∀ n k, k + n = 12 → Rn X d co_Mo_failed (2, [some (vr 81), some (vi (Int32.ofNat k))], [], pm_mm al D I L) = some (some (vi (ff (I 98) k n)), pm_mm al D I L) from h 12 0 rfl
  intro n
  induction n with
  | zero => intro k hk; obtain rfl : k = 12 := by omega
            rw [sg_Mo_failed_2]; rfl
  | succ n ih =>
    intro k hk
    rw [sg_Mo_failed_2]; simp (disch := omega) only [a0, a1, a2, a3, a4, a5, a6, a7, a8, a9, a10, a11, a12, a13, a20, a24, a60, a64, a84, a99, a100, a600, a720, a4096, a1000000, df, n_in, dt, n_tn, cond_true, cond_false, n_s, ff]
    cases decide (I 98 k = 0) with
    | true => exact ih (k + 1) (by omega)
    | false => rfl
/-- the loudest -/
def lou1 (g : Nat → Int32) (k b : Nat) : Nat := if on (g (k + 1)) ≤ on (g b) then b else k + 1
def lou (g : Nat → Int32) : Nat := fo (lou1 g) 11 0
theorem lou_le (g : Nat → Int32) : ∀ n, fo (lou1 g) n 0 ≤ n
  | 0 => Nat.le_refl 0
  | n + 1 => by
    have := lou_le g n
    rw [fo, lou1]; split <;> omega
theorem lou_congr {g h : Nat → Int32} (e : ∀ j, j < 12 → g j = h j) : lou g = lou h := by
  have : ∀ n, n ≤ 11 → fo (lou1 g) n 0 = fo (lou1 h) n 0 := by
    intro n
    induction n with
    | zero => intro _; rw [fo, fo]
    | succ n ih =>
      intro hn
      have := lou_le h n
      rw [fo, fo, ih (by omega), lou1, lou1, e (n + 1) (by omega), e _ (by omega)]
  exact this 11 (Nat.le_refl _)
theorem c_loudest : Cl X (d + 3) 255 [vr 81] (pm_mm al D I L) = some (some (vi (Int32.ofNat (lou (I 97)))), pm_mm al D I L) := by
  rw [Cl_s]
  show Rn X (d + 2) co_Mo_loudest (0, [some (vr 81), none, none], [], pm_mm al D I L) = _
  rw [sg_Mo_loudest_0]
  obtain ⟨b, e1, e2⟩ := lp 11 (fun k b => Rn X (d + 2) co_Mo_loudest (4, [some (vr 81), some (vi (Int32.ofNat b)), some (vi (Int32.ofNat (k + 1)))], [], pm_mm al D I L)) (fun k b => b = fo (lou1 (I 97)) k 0) (fun k b hk hq => by
    have hb : b ≤ k := by rw [hq]; exact lou_le _ k
    refine ⟨lou1 (I 97) k b, ?_, by rw [hq]; rfl⟩
    show Rn X (d + 2) co_Mo_loudest _ = Rn X (d + 2) co_Mo_loudest _
    rw [sg_Mo_loudest_4]; simp (disch := omega) only [a0, a1, a2, a3, a4, a5, a6, a7, a8, a9, a10, a11, a12, a13, a20, a24, a60, a64, a84, a99, a100, a600, a720, a4096, a1000000, df, n_in, dt, n_tn, cond_true, cond_false, c_ones, Option.bind_some, pm_ai, sg_Mo_loudest_19, sg_Mo_loudest_28, sg_Mo_loudest_36, n_s, lou1]
    by_cases h : on (I 97 (k + 1)) ≤ on (I 97 b)
    · rw [decide_eq_true h, if_pos h]; rfl
    · rw [decide_eq_false h, if_neg h]; rfl) 0 0 (by omega) rfl
  refine Eq.trans e1 ?_
  show Rn X (d + 2) co_Mo_loudest _ = _
  rw [sg_Mo_loudest_4, e2]; rfl
/-- the worths of what sounds -/
def wo1 (x : Int32) (wr : Nat → Int32) (p : Nat) (a : Int32) : Int32 := a + cond (hs x (Int32.ofNat p)) (wr p) 0
def wo (g wr : Nat → Int32) (n : Nat) : Int32 := fo (fun t a => fo (wo1 (g t) wr) n a) 12 0
theorem c_allOf3 : Cl X (d + 3) 256 [vr 81, vi 3] (pm_mm al D I L) = some (some (vi (fo (sil1 (I 97)) 12 0)), pm_mm al D I L) := by
  rw [Cl_s]
  show Rn X (d + 2) co_Mo_allOf (0, [some (vr 81), some (vi 3), none, none, none], [], pm_mm al D I L) = _
  rw [sg_Mo_allOf_0]
  have h36 : decide ((3 : Int32) = 6) = false := by decide
  obtain ⟨b, e1, e2⟩ := lp (σ := Int32 × Option pm_V) 12 (fun k s => Rn X (d + 2) co_Mo_allOf (4, [some (vr 81), some (vi 3), some (vi s.1), some (vi (Int32.ofNat k)), s.2], [], pm_mm al D I L)) (fun k s => s.1 = fo (sil1 (I 97)) k 0) (fun k s hk hq => by
    refine ⟨(s.1 + on (I 97 k), some (vi 0)), ?_, by show _ = sil1 (I 97) k (fo _ k 0); rw [← hq]; rfl⟩
    show Rn X (d + 2) co_Mo_allOf _ = Rn X (d + 2) co_Mo_allOf _
    rw [sg_Mo_allOf_4]; simp (disch := omega) only [a0, a1, a2, a3, a4, a5, a6, a7, a8, a9, a10, a11, a12, a13, a20, a24, a60, a64, a84, a99, a100, a600, a720, a4096, a1000000, df, n_in, dt, n_tn, cond_true, cond_false, c_ones, Option.bind_some, pm_ai, sg_Mo_allOf_25, sg_Mo_allOf_46, sg_Mo_allOf_51, sg_Mo_allOf_102, n_s, decide_true, h36]
    cases decide (I 81 25 ≤ 0) <;> rfl) 0 (0, none) (by omega) rfl
  refine Eq.trans e1 ?_
  show Rn X (d + 2) co_Mo_allOf _ = _
  rw [sg_Mo_allOf_4, e2]; rfl
theorem c_allOf4 : Cl X (d + 3) 256 [vr 81, vi 4] (pm_mm al D I L) = some (some (vi (fo (sil1 (I 99)) 12 0)), pm_mm al D I L) := by
  rw [Cl_s]
  show Rn X (d + 2) co_Mo_allOf (0, [some (vr 81), some (vi 4), none, none, none], [], pm_mm al D I L) = _
  rw [sg_Mo_allOf_0]
  have h36 : decide ((4 : Int32) = 6) = false := by decide
  have h33 : decide ((4 : Int32) = 3) = false := by decide
  obtain ⟨b, e1, e2⟩ := lp (σ := Int32 × Option pm_V) 12 (fun k s => Rn X (d + 2) co_Mo_allOf (4, [some (vr 81), some (vi 4), some (vi s.1), some (vi (Int32.ofNat k)), s.2], [], pm_mm al D I L)) (fun k s => s.1 = fo (sil1 (I 99)) k 0) (fun k s hk hq => by
    refine ⟨(s.1 + on (I 99 k), some (vi 0)), ?_, by show _ = sil1 (I 99) k (fo _ k 0); rw [← hq]; rfl⟩
    show Rn X (d + 2) co_Mo_allOf _ = Rn X (d + 2) co_Mo_allOf _
    rw [sg_Mo_allOf_4]; simp (disch := omega) only [a0, a1, a2, a3, a4, a5, a6, a7, a8, a9, a10, a11, a12, a13, a20, a24, a60, a64, a84, a99, a100, a600, a720, a4096, a1000000, df, n_in, dt, n_tn, cond_true, cond_false, c_ones, Option.bind_some, pm_ai, sg_Mo_allOf_42, sg_Mo_allOf_46, sg_Mo_allOf_51, sg_Mo_allOf_102, n_s, decide_true, h36, h33]
    cases decide (I 81 25 ≤ 0) <;> rfl) 0 (0, none) (by omega) rfl
  refine Eq.trans e1 ?_
  show Rn X (d + 2) co_Mo_allOf _ = _
  rw [sg_Mo_allOf_4, e2]; rfl
theorem c_allOf6 {b n : Nat} (hb : b < 8) (eb : I 81 23 = Int32.ofNat b) (hn : n ≤ 6) (en : I 81 25 = Int32.ofNat n) : Cl X (d + 3) 256 [vr 81, vi 6] (pm_mm al D I L) = some (some (vi (wo (I 97) (fun p => I 87 (29 * b + (11 + p))) n)), pm_mm al D I L) := by
  rw [Cl_s]
  show Rn X (d + 2) co_Mo_allOf (0, [some (vr 81), some (vi 6), none, none, none], [], pm_mm al D I L) = _
  rw [sg_Mo_allOf_0]
  have h36 : decide ((6 : Int32) = 3) = false := by decide
  have h46 : decide ((6 : Int32) = 4) = false := by decide
  obtain ⟨q, e1, e2⟩ := lp (σ := Int32 × Option pm_V) 12 (fun k s => Rn X (d + 2) co_Mo_allOf (4, [some (vr 81), some (vi 6), some (vi s.1), some (vi (Int32.ofNat k)), s.2], [], pm_mm al D I L)) (fun k s => s.1 = fo (fun t a => fo (wo1 (I 97 t) (fun p => I 87 (29 * b + (11 + p)))) n a) k 0) (fun k s hk hq => by
    refine ⟨(fo (wo1 (I 97 k) (fun p => I 87 (29 * b + (11 + p)))) n s.1, some (vi (Int32.ofNat n))), ?_, by show _ = fo (wo1 (I 97 k) _) n (fo _ k 0); rw [← hq]⟩
    show Rn X (d + 2) co_Mo_allOf _ = Rn X (d + 2) co_Mo_allOf _
    have hin := lf n (fun p a => Rn X (d + 2) co_Mo_allOf (51, [some (vr 81), some (vi 6), some (vi a), some (vi (Int32.ofNat k)), some (vi (Int32.ofNat p))], [], pm_mm al D I L)) (wo1 (I 97 k) (fun p => I 87 (29 * b + (11 + p)))) (fun p a hp => by
      show Rn X (d + 2) co_Mo_allOf _ = Rn X (d + 2) co_Mo_allOf _
      have hof := c_of (X := X) (d := d + 1) (al := al) (D := D) (L := L) (I := I) hb (k := 11 + p) (by omega) eb
      rw [sg_Mo_allOf_51]; simp (disch := omega) only [en, n_dle, df, decide_true, cond_true, cond_false, n_in, dt, n_tn, c_has, Option.bind_some, pm_ai, sg_Mo_allOf_78, b01_ne, ra0, ra1, ra2, ra3, ra4, ra5, ra6, ra7, ra8, ra9, ra10, ra11, ra12, ra13, ra20, ra24, ra60, ra64, ra84, ra99, ra100, ra600, ra720, ra4096, ra1000000, hof, sg_Mo_allOf_90, sg_Mo_allOf_94, n_s, wo1]
      cases hs (I 97 k) (Int32.ofNat p) <;> rfl) s.1
    rw [sg_Mo_allOf_4]; simp (disch := omega) only [a0, a1, a2, a3, a4, a5, a6, a7, a8, a9, a10, a11, a12, a13, a20, a24, a60, a64, a84, a99, a100, a600, a720, a4096, a1000000, df, cond_false, h36, h46, sg_Mo_allOf_46, Int32.add_zero]
    refine Eq.trans hin ?_
    show Rn X (d + 2) co_Mo_allOf _ = Rn X (d + 2) co_Mo_allOf _
    rw [sg_Mo_allOf_51]; simp (disch := omega) only [en, n_dle, dt, cond_true, sg_Mo_allOf_102, n_s]) 0 (0, none) (by omega) rfl
  refine Eq.trans e1 ?_
  show Rn X (d + 2) co_Mo_allOf _ = _
  rw [sg_Mo_allOf_4, e2]; rfl
/-- how many zeros from t on, among n -/
def zr (g : Nat → Int32) : Nat → Nat → Nat
  | _, 0 => 0
  | t, n + 1 => if g t = 0 then zr g (t + 1) n + 1 else 0
theorem zr_le (g : Nat → Int32) : ∀ n t, zr g t n ≤ n
  | 0, _ => Nat.le_refl 0
  | n + 1, t => by rw [zr]; have := zr_le g n (t + 1); split <;> omega
theorem zr_congr {g h : Nat → Int32} : ∀ n k, (∀ j, k ≤ j → j < k + n → g j = h j) → zr g k n = zr h k n
  | 0, _, _ => rfl
  | n + 1, k, e => by rw [zr, zr, e k (by omega) (by omega), zr_congr n (k + 1) (fun j h1 h2 => e j (by omega) (by omega))]
def hu1 (g : Nat → Int32) (t : Nat) (s : Nat × Int32) : Nat × Int32 := if zr g t (12 - t) ≤ s.1 then s else (zr g t (12 - t), Int32.ofNat t)
def hu (g : Nat → Int32) : Nat × Int32 := fo (hu1 g) 12 (0, -1)
theorem hu_congr {g h : Nat → Int32} (e : ∀ j, j < 12 → g j = h j) : hu g = hu h :=
  fo_congr 12 _ (fun k s hk => by rw [hu1, hu1, zr_congr (h := h) (12 - k) k (fun j h1 h2 => e j (by omega))])
theorem hu_le (g : Nat → Int32) : ∀ n, (fo (hu1 g) n (0, -1)).1 ≤ 12
  | 0 => Nat.zero_le _
  | n + 1 => by
    have := hu_le g n
    have := zr_le g (12 - n) n
    rw [fo, hu1]; split
    · assumption
    · show zr g n (12 - n) ≤ 12; omega
theorem c_longestHush (wh : Bool) : Cl X (d + 2) 257 [vr 81, vi (b01 wh)] (pm_mm al D I L) = some (some (vi (cond wh (hu (I 97)).2 (Int32.ofNat (hu (I 97)).1))), pm_mm al D I L) := by
  rw [Cl_s]
  show Rn X (d + 1) co_Mo_longestHush (0, [some (vr 81), some (vi (b01 wh)), none, none, none, none], [], pm_mm al D I L) = _
  rw [sg_Mo_longestHush_0]
  obtain ⟨q, e1, e2⟩ := lp (σ := (Nat × Int32) × Option pm_V) 12 (fun k s => Rn X (d + 1) co_Mo_longestHush (7, [some (vr 81), some (vi (b01 wh)), some (vi (Int32.ofNat s.1.1)), some (vi s.1.2), some (vi (Int32.ofNat k)), s.2], [], pm_mm al D I L)) (fun k s => s.1 = fo (hu1 (I 97)) k (0, -1)) (fun k s hk hq => by
    have hz := zr_le (I 97) (12 - k) k
    have hl : s.1.1 ≤ 12 := by rw [hq]; exact hu_le _ k
    refine ⟨(hu1 (I 97) k s.1, some (vi (Int32.ofNat (zr (I 97) k (12 - k))))), ?_, by show _ = hu1 (I 97) k (fo _ k _); rw [← hq]⟩
    show Rn X (d + 1) co_Mo_longestHush _ = Rn X (d + 1) co_Mo_longestHush _
    have hin : ∀ m n, k + n + m = 12 → Rn X (d + 1) co_Mo_longestHush (17, [some (vr 81), some (vi (b01 wh)), some (vi (Int32.ofNat s.1.1)), some (vi s.1.2), some (vi (Int32.ofNat k)), some (vi (Int32.ofNat n))], [], pm_mm al D I L) = Rn X (d + 1) co_Mo_longestHush (46, [some (vr 81), some (vi (b01 wh)), some (vi (Int32.ofNat s.1.1)), some (vi s.1.2), some (vi (Int32.ofNat k)), some (vi (Int32.ofNat (n + zr (I 97) (k + n) m)))], [], pm_mm al D I L) := by
      intro m
      induction m with
      | zero => intro n hn; rw [sg_Mo_longestHush_17]; simp (disch := omega) only [n_add, a0, a1, a2, a3, a4, a5, a6, a7, a8, a9, a10, a11, a12, a13, a20, a24, a60, a64, a84, a99, a100, a600, a720, a4096, a1000000, dt, cond_true, zr, Nat.add_zero]
      | succ m ih =>
        intro n hn
        rw [sg_Mo_longestHush_17]; simp (disch := omega) only [n_add, a0, a1, a2, a3, a4, a5, a6, a7, a8, a9, a10, a11, a12, a13, a20, a24, a60, a64, a84, a99, a100, a600, a720, a4096, a1000000, df, n_in, dt, n_tn, cond_true, cond_false, zr, n_s]
        by_cases hc : I 97 (k + n) = 0
        · rw [decide_eq_true hc, cond_true, if_pos hc, ih (n + 1) (by omega), show n + 1 + zr (I 97) (k + (n + 1)) m = n + (zr (I 97) (k + n + 1) m + 1) by rw [Nat.add_assoc k n 1]; omega]
        · rw [decide_eq_false hc, cond_false, if_neg hc]; rfl
    have hin := hin (12 - k) 0 (by omega)
    rw [sg_Mo_longestHush_7]; simp (disch := omega) only [a0, a1, a2, a3, a4, a5, a6, a7, a8, a9, a10, a11, a12, a13, a20, a24, a60, a64, a84, a99, a100, a600, a720, a4096, a1000000, df, cond_false]
    refine Eq.trans hin ?_
    simp (disch := omega) only [Nat.add_zero, Nat.zero_add, sg_Mo_longestHush_46, n_dle, sg_Mo_longestHush_58, c_greater, Option.bind_some, pm_ai, sg_Mo_longestHush_65, n_s, n_lt, hu1]
    by_cases hc : zr (I 97) k (12 - k) ≤ s.1.1
    · rw [decide_eq_true hc, if_pos hc, cond_true]
      by_cases hc2 : zr (I 97) k (12 - k) < s.1.1
      · rw [if_pos hc2]
      · rw [if_neg hc2, show zr (I 97) k (12 - k) = s.1.1 by omega]
    · rw [decide_eq_false hc, if_neg hc, cond_false, if_neg (by omega)]) 0 ((0, -1), none) (by omega) rfl
  refine Eq.trans e1 ?_
  show Rn X (d + 1) co_Mo_longestHush _ = _
  rw [sg_Mo_longestHush_7]
  simp only [sg_Mo_longestHush_81, b01_ne, e2]
  cases wh <;> rfl
/-- what is asked of a play -/
def vAft (B : PB) (w : Nat → Int32) (tr : Nat → Int32 → Bool) (wr : Nat → Int32) (what : Int32) : Int32 :=
  cond (decide (what = 0)) (ff (fun t => (pst B w tr (t + 1)).2.2.2.2.1) 0 12) (cond (decide (what = 1)) (fnt B w tr 12) (cond (decide (what = 2)) (Int32.ofNat (lou (fun t => (pst B w tr (t + 1)).2.2.2.1)))
  (cond (decide (what = 3)) (fo (sil1 (fun t => (pst B w tr (t + 1)).2.2.2.1)) 12 0) (cond (decide (what = 4)) (fo (sil1 (fun t => (pst B w tr (t + 1)).2.2.2.2.2.1)) 12 0) (cond (decide (what = 5)) (lks B w tr 12)
  (cond (decide (what = 6)) (wo (fun t => (pst B w tr (t + 1)).2.2.2.1) wr B.2.2.2.2.1) (cond (decide (what = 7)) (srn B w tr 12) (cond (decide (what = 8)) (Int32.ofNat (hu (fun t => (pst B w tr (t + 1)).2.2.2.1)).1)
  (cond (decide (what = 9)) (hu (fun t => (pst B w tr (t + 1)).2.2.2.1)).2 (-2))))))))))
def vAfter (I : Nat → Nat → Int32) (m : Nat → Nat) (b s u what : Int32) : Int32 :=
  cond (pm_in s (m 1) && pm_in b (m 0) && pm_in u (m 2)) (vAft (bdO I b.toNatClampNeg) (wn (scO I s.toNatClampNeg)) (trd (I 89 u.toNatClampNeg) (-1)) (fun p => I 87 (29 * b.toNatClampNeg + (11 + p))) what) (-2)
theorem sil_congr {g h : Nat → Int32} (e : ∀ j, j < 12 → g j = h j) : fo (sil1 g) 12 0 = fo (sil1 h) 12 0 := fo_congr 12 _ (fun k s hk => by rw [sil1, sil1, e k hk])
theorem wo_congr {g h wr vr : Nat → Int32} {n : Nat} (e : ∀ j, j < 12 → g j = h j) (e2 : ∀ p, p < n → wr p = vr p) : wo g wr n = wo h vr n :=
  fo_congr 12 _ (fun k s hk => fo_congr n _ (fun p a hp => by rw [wo1, wo1, e k hk, e2 p hp]))
/-- srn, lks and fnt ask the states alone -/
theorem acc_congr {B C : PB} {w v : Nat → Int32} {tr ur : Nat → Int32 → Bool} (hp : ∀ t, t ≤ 12 → pst B w tr t = pst C v ur t) (ht : ∀ t x, tr t x = ur t x) : ∀ t, t ≤ 12 → srn B w tr t = srn C v ur t ∧ lks B w tr t = lks C v ur t ∧ fnt B w tr t = fnt C v ur t
  | 0, _ => ⟨rfl, rfl, rfl⟩
  | t + 1, h => by
    obtain ⟨h1, h2, h3⟩ := acc_congr hp ht t (by omega)
    refine ⟨?_, ?_, ?_⟩
    · rw [srn, srn, h1, hp t (by omega), ht]
    · rw [lks, lks, h2, hp (t + 1) h]
    · rw [fnt, fnt, h3, hp t (by omega), hp (t + 1) h]
theorem r_after {m : Nat → Nat} (b s u what : Int32) (g : rG I m) : ∃ J, Cl X (d + 5) 258 [vr 81, vi b, vi s, vi u, vi what] (pm_mm al D I L) = some (some (vi (vAfter I m b s u what)), pm_mm al D J L) ∧ rF I J := by
  rw [Cl_s]
  show ∃ J, Rn X (d + 4) co_Mo_after (0, [some (vr 81), some (vi b), some (vi s), some (vi u), some (vi what)], [], pm_mm al D I L) = _ ∧ _
  have g' : rG (pm_up I 81 0 0) m := by rw [rG_up m rF_code]; exact g
  obtain ⟨J, e1, e2, e3⟩ := c_layAll (X := X) (d := d) (al := al) (D := D) (L := L) (I := pm_up I 81 0 0) b s u g'
  rw [sg_Mo_after_0, e1]
  simp only [Option.bind_some, pm_ai, sg_Mo_after_12, b01_ne, vAfter]
  cases hok : (pm_in s (m 1) && pm_in b (m 0) && pm_in u (m 2)) with
  | false => exact ⟨J, rfl, rF_code.trans (rF_la e2)⟩
  | true =>
    simp only [Bool.and_eq_true] at hok
    obtain ⟨⟨o1, o2⟩, o3⟩ := hok
    obtain ⟨s', hs', es⟩ := in_nat o1
    obtain ⟨b', hb', eb⟩ := in_nat o2
    obtain ⟨u', hu', eu⟩ := in_nat o3
    have m0 := (g.1 0 (by omega)).1
    have m1 := (g.1 1 (by omega)).1
    have m2 := (g.1 2 (by omega)).1
    obtain ⟨hl, h40⟩ := e3 b' s' u' eb es eu hb' hs' hu'
    obtain ⟨K, f1, f2, f3⟩ := c_plays_laid (X := X) (d := d + 1) (al := al) (D := D) (L := L) (J 81 40) (-1) g' hb' e2 hl
    simp only [Bool.not_true, cond_false, cond_true]
    rw [f1]
    simp only [Option.bind_some, pm_av, sg_Mo_after_27]
    have n6 : (I 87 (29 * b')).toNatClampNeg ≤ 6 := (g.2.1 b' hb').1
    have K23 : K 81 23 = Int32.ofNat b' := (f2 81 23 (by omega) (by omega)).trans hl.1.1
    have K25 : K 81 25 = Int32.ofNat (I 87 (29 * b')).toNatClampNeg := (f2 81 25 (by omega) (by omega)).trans (hl.1.2.1.trans (n_of (g.2.1 b' hb').2.1))
    have K87 : ∀ j, K 87 j = I 87 j := fun j => (f2 87 j (by omega) (by omega)).trans ((e2 87 j (by unfold laS; omega)).trans (up_ne (by omega)))
    have hp : ∀ t, t ≤ 12 → pst (PBr J b' (I 87 (29 * b')).toNatClampNeg) (J 93) (trd (J 81 40) (-1)) t = pst (bdO I b') (wn (scO I s')) (trd (I 89 u') (-1)) t := fun t ht => by
      rw [← show J 81 40 = I 89 u' from h40]
      exact pst_laid (I := pm_up I 81 0 0) g' hb' e2 hl (trd (J 81 40) (-1)) t ht
    obtain ⟨f3, f37, f38, f39⟩ := f3
    have f37 : K 81 37 = lks (PBr J b' (I 87 (29 * b')).toNatClampNeg) (J 93) (trd (J 81 40) (-1)) 12 := f37
    have f38 : K 81 38 = srn (PBr J b' (I 87 (29 * b')).toNatClampNeg) (J 93) (trd (J 81 40) (-1)) 12 := f38
    have f39 : K 81 39 = fnt (PBr J b' (I 87 (29 * b')).toNatClampNeg) (J 93) (trd (J 81 40) (-1)) 12 := f39
    obtain ⟨a1, a2, a3⟩ := acc_congr hp (fun t x => by rw [show J 81 40 = I 89 u' from h40]) 12 (Nat.le_refl _)
    have h97 : ∀ t, t < 12 → K 97 t = (pst (bdO I b') (wn (scO I s')) (trd (I 89 u') (-1)) (t + 1)).2.2.2.1 := fun t ht => by rw [(f3 t ht).2.2.1]; exact congrArg (fun q => q.2.2.2.1) (hp (t + 1) (by omega))
    have h98 : ∀ t, t < 12 → K 98 t = (pst (bdO I b') (wn (scO I s')) (trd (I 89 u') (-1)) (t + 1)).2.2.2.2.1 := fun t ht => by rw [(f3 t ht).2.2.2.1]; exact congrArg (fun q => q.2.2.2.2.1) (hp (t + 1) (by omega))
    have h99 : ∀ t, t < 12 → K 99 t = (pst (bdO I b') (wn (scO I s')) (trd (I 89 u') (-1)) (t + 1)).2.2.2.2.2.1 := fun t ht => by rw [(f3 t ht).2.2.2.2.1]; exact congrArg (fun q => q.2.2.2.2.2.1) (hp (t + 1) (by omega))
    refine ⟨K, ?_, rF_code.trans ((rF_la e2).trans (rF_pl f2))⟩
    have z6 := c_allOf6 (X := X) (d := d + 1) (al := al) (D := D) (L := L) (I := K) (b := b') (by omega) K23 n6 K25
    have z0 := c_longestHush (X := X) (d := d + 2) (al := al) (D := D) (L := L) (I := K) false
    have z1 := c_longestHush (X := X) (d := d + 2) (al := al) (D := D) (L := L) (I := K) true
    have z0 : Cl X (d + 4) 257 [vr 81, vi 0] (pm_mm al D K L) = _ := z0
    have z1 : Cl X (d + 4) 257 [vr 81, vi 1] (pm_mm al D K L) = _ := z1
    rw [eb, es, eu, n_tn (by omega), n_tn (by omega), n_tn (by omega), vAft, ← lou_congr h97, ← ff_congr (g := K 98) 12 0 (fun j _ h => h98 j (by omega)), ← sil_congr h97, ← sil_congr h99, ← hu_congr h97,
      ← wo_congr (wr := fun p => K 87 (29 * b' + (11 + p))) h97 (fun p _ => K87 _), ← a1, ← a2, ← a3, ← f37, ← f38, ← f39]
    by_cases c0 : what = 0
    · subst c0; simp only [decide_true, cond_true, c_failed, Option.bind_some, pm_ai, sg_Mo_after_88]
    by_cases c1 : what = 1
    · subst c1; rfl
    by_cases c2 : what = 2
    · subst c2; simp only [c0, decide_false, decide_true, cond_true, cond_false, c_loudest, Option.bind_some, pm_ai, sg_Mo_after_98, c1]
    by_cases c3 : what = 3
    · subst c3; simp only [c0, c1, c2, decide_false, decide_true, cond_true, cond_false, c_allOf3, Option.bind_some, pm_ai, sg_Mo_after_105]
    by_cases c4 : what = 4
    · subst c4; simp only [c0, c1, c2, c3, decide_false, decide_true, cond_true, cond_false, c_allOf4, Option.bind_some, pm_ai, sg_Mo_after_105]
    by_cases c5 : what = 5
    · subst c5; rfl
    by_cases c6 : what = 6
    · subst c6; simp only [c0, c1, c2, c3, c4, c5, decide_false, decide_true, cond_true, cond_false, z6, Option.bind_some, pm_ai, sg_Mo_after_105]; rfl
    by_cases c7 : what = 7
    · subst c7; rfl
    by_cases c8 : what = 8
    · subst c8; simp only [c0, c1, c2, c3, c4, c5, c6, c7, show decide ((8 : Int32) = 9) = false from rfl, decide_false, decide_true, cond_true, cond_false, sg_Mo_after_129, z0, Option.bind_some, pm_ai, sg_Mo_after_132]
    by_cases c9 : what = 9
    · subst c9; simp only [c0, c1, c2, c3, c4, c5, c6, c7, c8, decide_false, decide_true, cond_true, cond_false, sg_Mo_after_129, z1, Option.bind_some, pm_ai, sg_Mo_after_132]
    · simp only [c0, c1, c2, c3, c4, c5, c6, c7, c8, c9, decide_false, cond_false]
end
