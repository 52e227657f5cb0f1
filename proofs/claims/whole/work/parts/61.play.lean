section
variable {X : Nat × (Nat → Int32)} {d : Nat} {al : List Nat} {D : Nat → Bool} {I : Nat → Nat → Int32} {L : Nat → Nat → Int64}
/-- the least of a set, from k on, among n -/
def lo (x : Int32) : Nat → Nat → Int32
  | _, 0 => -1
  | k, n + 1 => cond (hs x (Int32.ofNat k)) (Int32.ofNat k) (lo x (k + 1) n)
theorem c_leastOf (x : Int32) : Cl X (d + 2) 209 [vr 81, vi x] (pm_mm al D I L) = some (some (vi (lo x 0 12)), pm_mm al D I L) := by
  rw [Cl_s]
  show Rn X (d + 1) co_Mo_leastOf (0, [some (vr 81), some (vi x), none], [], pm_mm al D I L) = _
  rw [sg_Mo_leastOf_0]
  suffices h : ∀ n k, k + n = 12 → Rn X (d + 1) co_Mo_leastOf (2, [some (vr 81), some (vi x), some (vi (Int32.ofNat k))], [], pm_mm al D I L) = some (some (vi (lo x k n)), pm_mm al D I L) from h 12 0 rfl
  intro n
  induction n with
  | zero => intro k hk; have : k = 12 := by omega
            subst this; rw [sg_Mo_leastOf_2]; rfl
  | succ n ih =>
    intro k hk
    have h0 : decide ((12 : Int32) ≤ Int32.ofNat k) = false := (n_dle (a := 12) (by decide) (by omega)).trans (decide_eq_false (by omega))
    rw [sg_Mo_leastOf_2, h0, cond_false, c_has]
    simp only [Option.bind_some, pm_ai, sg_Mo_leastOf_13, b01_ne, n_s, lo]
    cases hs x (Int32.ofNat k) with
    | true => rfl
    | false => exact ih (k + 1) (by omega)
/-- a band at play: size, leak, fill, strength, pipes, draws, row -/
abbrev PB : Type := Int32 × Int32 × Int32 × Int32 × Nat × (Int32 → Int32) × (Nat → Int32)
/-- behind a beat: air, force, fainted, sounds, silent, stolen, leaked -/
abbrev PS : Type := Int32 × Int32 × Int32 × Int32 × Int32 × Int32 × Int32
def nxc (tr : Bool) (s : PS) : Bool := tr && !decide (s.2.1 ≤ 0)
def nxf (B : PB) (tr : Bool) (s : PS) : Int32 := cond (nxc tr s) (s.2.1 - 1) (mn B.2.2.2.1 (s.2.1 + 1))
def nxa (B : PB) (tr : Bool) (s : PS) : Int32 := cond (nxc tr s) (mn B.1 (s.1 + B.2.2.1)) s.1
def nxl (B : PB) (tr : Bool) (s : PS) : Int32 := mn B.2.1 (nxa B tr s)
def nxd (B : PB) (w : Int32) (tr : Bool) (s : PS) : Int32 × Int32 × Int32 × Int32 := dr w s.2.2.1 (nxa B tr s - nxl B tr s) B.2.2.2.2.2.1 B.2.2.2.2.2.2 B.2.2.2.2.1
def nx (B : PB) (w : Int32) (tr : Bool) (s : PS) : PS :=
  ((nxd B w tr s).1, nxf B tr s, s.2.2.1 ||| ((nxd B w tr s).2.2.1 &&& s.2.2.2.2.1), (nxd B w tr s).2.1, (nxd B w tr s).2.2.1, (nxd B w tr s).2.2.2, nxl B tr s)
def pst (B : PB) (w : Nat → Int32) (tr : Nat → Int32 → Bool) : Nat → PS
  | 0 => (B.1, B.2.2.2.1, 0, 0, 0, 0, 0)
  | t + 1 => nx B (w t) (tr t (pst B w tr t).1) (pst B w tr t)
def srn (B : PB) (w : Nat → Int32) (tr : Nat → Int32 → Bool) : Nat → Int32
  | 0 => 0
  | t + 1 => srn B w tr t ||| cond (tr t (pst B w tr t).1 && decide ((pst B w tr t).2.1 = 0)) (1 <<< (Int32.ofNat t &&& 31)) 0
def lks (B : PB) (w : Nat → Int32) (tr : Nat → Int32 → Bool) : Nat → Int32
  | 0 => 0
  | t + 1 => lks B w tr t + (pst B w tr (t + 1)).2.2.2.2.2.2
def fnt (B : PB) (w : Nat → Int32) (tr : Nat → Int32 → Bool) : Nat → Int32
  | 0 => -1
  | t + 1 => cond (decide (fnt B w tr t = -1)) (lo ((pst B w tr (t + 1)).2.2.2.2.1 &&& (pst B w tr t).2.2.2.2.1) 0 12) (fnt B w tr t)
/-- by beats trodden, or by breath below -/
def trd (set below : Int32) (t : Nat) (air : Int32) : Bool := cond (decide (0 ≤ below)) (!decide (below ≤ air)) (hs set (Int32.ofNat t))
def plF (I J : Nat → Nat → Int32) : Prop := ∀ a j, ¬ (95 ≤ a ∧ a ≤ 100) → ¬ (a = 81 ∧ 37 ≤ j ∧ j ≤ 39) → J a j = I a j
/-- the rows of the reference behind its play, up to beat k -/
def plR (B : PB) (w : Nat → Int32) (tr : Nat → Int32 → Bool) (k : Nat) (J : Nat → Nat → Int32) : Prop :=
  (∀ t, t < k → J 95 t = (pst B w tr (t + 1)).1 ∧ J 96 t = (pst B w tr (t + 1)).2.1 ∧ J 97 t = (pst B w tr (t + 1)).2.2.2.1 ∧ J 98 t = (pst B w tr (t + 1)).2.2.2.2.1 ∧ J 99 t = (pst B w tr (t + 1)).2.2.2.2.2.1 ∧ J 100 t = (pst B w tr (t + 1)).2.2.1)
  ∧ J 81 37 = lks B w tr k ∧ J 81 38 = srn B w tr k ∧ J 81 39 = fnt B w tr k
/-- the band that the reference has at hand -/
def PBr (I : Nat → Nat → Int32) (b n : Nat) : PB := (I 81 27, I 87 (29 * b + 2), I 81 28, I 81 29, n, dwR I b, I 94)
end
section
variable {X : Nat × (Nat → Int32)} {d : Nat} {al : List Nat} {D : Nat → Bool} {I : Nat → Nat → Int32} {L : Nat → Nat → Int64}
theorem c_plays {b n : Nat} (set below : Int32) (hb : b < 8) (eb : I 81 23 = Int32.ofNat b) (hn : n ≤ 6) (en : I 81 25 = Int32.ofNat n)
    (hr : ∀ i, i < n → ∃ p, p < 6 ∧ I 94 i = Int32.ofNat p) :
    ∃ J, Cl X (d + 3) 210 [vr 81, vi set, vi below] (pm_mm al D I L) = some (none, pm_mm al D J L) ∧ plF I J ∧ plR (PBr I b n) (I 93) (trd set below) 12 J := by
  rw [Cl_s]
  show ∃ J, Rn X (d + 2) co_Mo_plays (0, [some (vr 81), some (vi set), some (vi below), none, none, none, none, none, none, none, none], [], pm_mm al D I L) = _ ∧ _
  rw [sg_Mo_plays_0]
  generalize hB : PBr I b n = B
  generalize hw : I 93 = w
  generalize htr : trd set below = tr
  have h := lp (σ := (Nat → Nat → Int32) × (Int32 × Int32 × Int32) × Option pm_V × Option pm_V × Option pm_V × Option pm_V) 12
    (fun t s => Rn X (d + 2) co_Mo_plays (32, [some (vr 81), some (vi set), some (vi below), some (vi s.2.1.1), some (vi s.2.1.2.1), some (vi s.2.1.2.2), some (vi (Int32.ofNat t)), s.2.2.1, s.2.2.2.1, s.2.2.2.2.1, s.2.2.2.2.2], [], pm_mm al D s.1 L))
    (fun t s => plF I s.1 ∧ plR B w tr t s.1 ∧ s.2.1 = ((pst B w tr t).1, (pst B w tr t).2.1, (pst B w tr t).2.2.1))
    (fun t s ht hq => by
      obtain ⟨J, ⟨br, lf, fa⟩, o7, o8, o9, o10⟩ := s
      obtain ⟨hF, ⟨hR, h37, h38, h39⟩, hs3⟩ := hq
      simp only at hF hR h37 h38 h39 hs3
      have e1 : br = (pst B w tr t).1 := congrArg (fun q => q.1) hs3
      have e2 : lf = (pst B w tr t).2.1 := congrArg (fun q => q.2.1) hs3
      have e3 : fa = (pst B w tr t).2.2.1 := congrArg (fun q => q.2.2) hs3
      clear hs3
      have h0 : decide ((12 : Int32) ≤ Int32.ofNat t) = false := (n_dle (a := 12) (by decide) (by omega)).trans (decide_eq_false (by omega))
      have hin : pm_in (Int32.ofNat t) 12 = true := (n_in (by omega)).trans (decide_eq_true ht)
      have htn : (Int32.ofNat t).toNatClampNeg = t := n_tn (by omega)
      -- up to 62: whether it is trodden
      have s1 : Rn X (d + 2) co_Mo_plays (32, [some (vr 81), some (vi set), some (vi below), some (vi br), some (vi lf), some (vi fa), some (vi (Int32.ofNat t)), o7, o8, o9, o10], [], pm_mm al D J L)
          = Rn X (d + 2) co_Mo_plays (62, [some (vr 81), some (vi set), some (vi below), some (vi br), some (vi lf), some (vi fa), some (vi (Int32.ofNat t)), o7, o8, o9, o10], [vi (b01 (tr t br))], pm_mm al D J L) := by
        rw [sg_Mo_plays_32, h0, cond_false, ← htr]
        cases hbl : decide (0 ≤ below) with
        | true =>
          simp only [cond_true, trd, hbl]
          cases hb2 : decide (below ≤ br) <;> rfl
        | false =>
          simp only [cond_false, trd, hbl, c_has, Option.bind_some, pm_ai, sg_Mo_plays_49]
      generalize hT : tr t br = T at s1
      -- up to 106: whether he can
      have s2 : Rn X (d + 2) co_Mo_plays (62, [some (vr 81), some (vi set), some (vi below), some (vi br), some (vi lf), some (vi fa), some (vi (Int32.ofNat t)), o7, o8, o9, o10], [vi (b01 T)], pm_mm al D J L)
          = Rn X (d + 2) co_Mo_plays (106, [some (vr 81), some (vi set), some (vi below), some (vi br), some (vi lf), some (vi fa), some (vi (Int32.ofNat t)), some (vi (b01 T)), o8, o9, o10], [vi (b01 (T && !decide (lf ≤ 0)))], pm_mm al D (pm_up J 81 38 (J 81 38 ||| cond (T && decide (lf = 0)) (1 <<< (Int32.ofNat t &&& 31)) 0)) L) := by
        rw [sg_Mo_plays_62]
        cases T with
        | false => simp only [b01_ne, Bool.not_false, cond_true, sg_Mo_plays_86, sg_Mo_plays_87, sg_Mo_plays_105, Bool.false_and, cond_false]; rfl
        | true =>
          simp only [b01_ne, Bool.not_true, cond_false, Bool.true_and]
          cases hl : decide (lf = 0) <;> cases hl2 : decide (lf ≤ 0) <;> simp only [cond_true, cond_false, b01_ne, Bool.not_true, hl2, sg_Mo_plays_86, sg_Mo_plays_87, sg_Mo_plays_105] <;> rfl
      -- up to 165: the leak
      have k29 : J 81 29 = B.2.2.2.1 := (hF 81 29 (by omega) (by omega)).trans (by rw [← hB]; rfl)
      have k27 : J 81 27 = B.1 := (hF 81 27 (by omega) (by omega)).trans (by rw [← hB]; rfl)
      have k28 : J 81 28 = B.2.2.1 := (hF 81 28 (by omega) (by omega)).trans (by rw [← hB]; rfl)
      generalize hJ1 : pm_up J 81 38 (J 81 38 ||| cond (T && decide (lf = 0)) (1 <<< (Int32.ofNat t &&& 31)) 0) = J1 at s2
      have kJ1 : ∀ a j, ¬ (a = 81 ∧ j = 38) → J1 a j = J a j := fun a j h => by rw [← hJ1]; exact if_neg h
      have eb1 : J1 81 23 = Int32.ofNat b := (kJ1 81 23 (by omega)).trans ((hF 81 23 (by omega) (by omega)).trans eb)
      have s3 : Rn X (d + 2) co_Mo_plays (106, [some (vr 81), some (vi set), some (vi below), some (vi br), some (vi lf), some (vi fa), some (vi (Int32.ofNat t)), some (vi (b01 T)), o8, o9, o10], [vi (b01 (T && !decide (lf ≤ 0)))], pm_mm al D J1 L)
          = Rn X (d + 2) co_Mo_plays (165, [some (vr 81), some (vi set), some (vi below), some (vi (nxa B T (pst B w tr t))), some (vi (nxf B T (pst B w tr t))), some (vi fa), some (vi (Int32.ofNat t)), pm_nl (some (vi (b01 T))), some (vi (b01 (T && !decide (lf ≤ 0)))), o9, o10], [vi (nxl B T (pst B w tr t))], pm_mm al D J1 L) := by
        have hc : nxc T (pst B w tr t) = (T && !decide (lf ≤ 0)) := by rw [nxc, ← e2]
        have hl2 : J1 87 (29 * b + 2) = B.2.1 := (kJ1 87 _ (by omega)).trans ((hF 87 _ (by omega) (by omega)).trans (by rw [← hB]; rfl))
        rw [sg_Mo_plays_106]
        have hof := c_of (X := X) (d := d + 1) (al := al) (D := D) (L := L) (I := J1) hb (k := 2) (by omega) eb1
        have hof : Cl X (d + 2) 195 [vr 81, vi 2] (pm_mm al D J1 L) = _ := hof
        simp only [nxa, nxf, nxl, hc, b01_ne, kJ1 81 29 (by omega), kJ1 81 27 (by omega), kJ1 81 28 (by omega), k29, k27, k28, c_lesser, Option.bind_some, pm_ai]
        cases (T && !decide (lf ≤ 0)) with
        | false => simp only [Bool.not_false, cond_true, cond_false, sg_Mo_plays_131, b01_ne, sg_Mo_plays_155, hof, Option.bind_some, pm_ai, sg_Mo_plays_161, c_lesser, hl2, e1, e2]
        | true => simp only [Bool.not_true, cond_true, cond_false, sg_Mo_plays_131, b01_ne, kJ1 81 27 (by omega), kJ1 81 28 (by omega), k27, k28, c_lesser, Option.bind_some, pm_ai, sg_Mo_plays_151, sg_Mo_plays_155, hof, sg_Mo_plays_161, hl2, e1, e2]
      -- the draws
      generalize hJ2 : pm_up J1 81 37 (J1 81 37 + nxl B T (pst B w tr t)) = J2
      have kJ2 : ∀ a j, ¬ (a = 81 ∧ 37 ≤ j ∧ j ≤ 38) → J2 a j = J a j := fun a j h => by rw [← hJ2, pm_up, if_neg (by omega)]; exact kJ1 a j (by omega)
      have kF : ∀ a j, ¬ (95 ≤ a ∧ a ≤ 100) → ¬ (a = 81 ∧ 37 ≤ j ∧ j ≤ 39) → J2 a j = I a j := fun a j h1 h2 => (kJ2 a j (by omega)).trans (hF a j h1 h2)
      have r93 : J2 93 t = w t := (kF 93 t (by omega) (by omega)).trans (congrFun hw t)
      have r94 : J2 94 = B.2.2.2.2.2.2 := by funext i; exact (kF 94 i (by omega) (by omega)).trans (by rw [← hB]; rfl)
      have rdw : dwR J2 b = B.2.2.2.2.2.1 := by funext p; rw [dwR, kF 87 _ (by omega) (by omega), ← hB]; rfl
      have rn : n = B.2.2.2.2.1 := by rw [← hB]; rfl
      have hdr := c_draws (X := X) (d := d) (al := al) (D := D) (L := L) (I := J2) (t := t) (b := b) (n := n) (nxa B T (pst B w tr t) - nxl B T (pst B w tr t)) fa hb ((kF 81 23 (by omega) (by omega)).trans eb) hn ((kF 81 25 (by omega) (by omega)).trans en) ht (fun i hi => by rw [kF 94 i (by omega) (by omega)]; exact hr i hi)
      have hdd : dr (J2 93 t) fa (nxa B T (pst B w tr t) - nxl B T (pst B w tr t)) (dwR J2 b) (J2 94) n = nxd B (w t) T (pst B w tr t) := by
        rw [r93, r94, rdw, e3, nxd, ← rn]
      rw [hdd] at hdr
      have hpt : pst B w tr (t + 1) = nx B (w t) T (pst B w tr t) := by rw [pst, ← e1, hT]
      generalize hq : nxd B (w t) T (pst B w tr t) = q at hdr
      generalize hJ3 : nf3 J2 t q.2.1 q.2.2.1 q.2.2.2 = J3 at hdr
      have h98 : J3 98 t = q.2.2.1 := by rw [← hJ3, nf3_2]
      have kJ3 : ∀ a j, ¬ (97 ≤ a ∧ a ≤ 99 ∧ j = t) → J3 a j = J2 a j := fun a j h => by
        rw [← hJ3, nf3, pm_up, if_neg (by omega), pm_up, if_neg (by omega), pm_up, if_neg (by omega)]
      -- who faints now
      have s4 : Rn X (d + 2) co_Mo_plays (190, [some (vr 81), some (vi set), some (vi below), some (vi (nxa B T (pst B w tr t))), some (vi (nxf B T (pst B w tr t))), some (vi fa), some (vi (Int32.ofNat t)), pm_nl (some (vi (b01 T))), pm_nl (some (vi (b01 (T && !decide (lf ≤ 0))))), some (vi (nxl B T (pst B w tr t))), o10], [vi q.1], pm_mm al D J3 L)
          = Rn X (d + 2) co_Mo_plays (217, [some (vr 81), some (vi set), some (vi below), some (vi q.1), some (vi (nxf B T (pst B w tr t))), some (vi fa), some (vi (Int32.ofNat t)), pm_nl (some (vi (b01 T))), pm_nl (some (vi (b01 (T && !decide (lf ≤ 0))))), some (vi (nxl B T (pst B w tr t))), o10], [vi (q.2.2.1 &&& (pst B w tr t).2.2.2.2.1)], pm_mm al D J3 L) := by
        rw [sg_Mo_plays_190]
        have hle : decide (Int32.ofNat t ≤ 0) = decide (t ≤ 0) := n_dle (b := 0) (by omega) (by decide)
        rw [hle]
        match t, ht, hR, h98, hin, htn, kJ3, kJ2 with
        | 0, _, _, _, _, _, _, _ =>
          have : q.2.2.1 &&& (pst B w tr 0).2.2.2.2.1 = 0 := Int32.and_zero
          rw [this]; rfl
        | u + 1, hu, hR, h98, hin, htn, kJ3, kJ2 =>
          have hsub : Int32.ofNat (u + 1) - 1 = Int32.ofNat u := by rw [← n_s]; exact Int32.add_sub_cancel _ _
          rw [decide_eq_false (by omega), cond_false, hin, cond_true, hsub, n_in (by omega), decide_eq_true (by omega), cond_true, htn, n_tn (by omega), h98, kJ3 98 u (by omega), kJ2 98 u (by omega), (hR u (by omega)).2.2.2.1]
      have hnow : (pst B w tr (t + 1)).2.2.2.2.1 = q.2.2.1 := by rw [hpt, nx, hq]
      have k39 : J3 81 39 = fnt B w tr t := (kJ3 81 39 (by omega)).trans ((kJ2 81 39 (by omega)).trans h39)
      have s5 : ∃ p9 p10, Rn X (d + 2) co_Mo_plays (217, [some (vr 81), some (vi set), some (vi below), some (vi q.1), some (vi (nxf B T (pst B w tr t))), some (vi fa), some (vi (Int32.ofNat t)), pm_nl (some (vi (b01 T))), pm_nl (some (vi (b01 (T && !decide (lf ≤ 0))))), some (vi (nxl B T (pst B w tr t))), o10], [vi (q.2.2.1 &&& (pst B w tr t).2.2.2.2.1)], pm_mm al D J3 L)
          = Rn X (d + 2) co_Mo_plays (32, [some (vr 81), some (vi set), some (vi below), some (vi q.1), some (vi (nxf B T (pst B w tr t))), some (vi (fa ||| (q.2.2.1 &&& (pst B w tr t).2.2.2.2.1))), some (vi (Int32.ofNat (t + 1))), pm_nl (some (vi (b01 T))), pm_nl (some (vi (b01 (T && !decide (lf ≤ 0))))), p9, p10], [], pm_mm al D (pm_up (pm_up (pm_up (pm_up J3 81 39 (fnt B w tr (t + 1))) 95 t q.1) 96 t (nxf B T (pst B w tr t))) 100 t (fa ||| (q.2.2.1 &&& (pst B w tr t).2.2.2.2.1))) L) := by
        refine ⟨pm_nl (some (vi (nxl B T (pst B w tr t)))), some (vi (q.2.2.1 &&& (pst B w tr t).2.2.2.2.1)), ?_⟩
        rw [sg_Mo_plays_217]
        simp only [k39, fnt, hnow]
        cases decide (fnt B w tr t = -1) with
        | true => simp only [cond_true, c_leastOf, Option.bind_some, pm_ai, sg_Mo_plays_234, sg_Mo_plays_241, hin, htn, n_s]
        | false => simp only [cond_false, sg_Mo_plays_241, hin, htn, cond_true, n_s]
      obtain ⟨p9, p10, s5⟩ := s5
      refine ⟨(pm_up (pm_up (pm_up (pm_up J3 81 39 (fnt B w tr (t + 1))) 95 t q.1) 96 t (nxf B T (pst B w tr t))) 100 t (fa ||| (q.2.2.1 &&& (pst B w tr t).2.2.2.2.1)), (q.1, nxf B T (pst B w tr t), fa ||| (q.2.2.1 &&& (pst B w tr t).2.2.2.2.1)), pm_nl (some (vi (b01 T))), pm_nl (some (vi (b01 (T && !decide (lf ≤ 0))))), p9, p10), s1.trans (s2.trans (s3.trans ?_)), ?_⟩
      · rw [sg_Mo_plays_165, hJ2]
        rw [hdr]
        exact s4.trans s5
      · simp only
        refine ⟨fun a j h1 h2 => ?_, ⟨fun u hu => ?_, ?_, ?_, ?_⟩, ?_⟩
        · rw [pm_up, if_neg (by omega), pm_up, if_neg (by omega), pm_up, if_neg (by omega), pm_up, if_neg (by omega), kJ3 a j (by omega), kF a j h1 h2]
        · by_cases hut : u = t
          · subst hut
            rw [hpt, nx, hq]
            refine ⟨by simp [pm_up], by simp [pm_up], ?_, ?_, ?_, by simp [pm_up, e3]⟩
            · simp only [pm_up]; rw [if_neg (by omega), if_neg (by omega), if_neg (by omega), if_neg (by omega), ← hJ3, nf3_1]
            · simp only [pm_up]; rw [if_neg (by omega), if_neg (by omega), if_neg (by omega), if_neg (by omega), ← hJ3, nf3_2]
            · simp only [pm_up]; rw [if_neg (by omega), if_neg (by omega), if_neg (by omega), if_neg (by omega), ← hJ3, nf3_3]
          · have hg : ∀ a, a ≠ 81 → pm_up (pm_up (pm_up (pm_up J3 81 39 (fnt B w tr (t + 1))) 95 t q.1) 96 t (nxf B T (pst B w tr t))) 100 t (fa ||| (q.2.2.1 &&& (pst B w tr t).2.2.2.2.1)) a u = J a u := fun a ha => by
              rw [pm_up, if_neg (by omega), pm_up, if_neg (by omega), pm_up, if_neg (by omega), pm_up, if_neg (by omega), kJ3 a u (by omega), kJ2 a u (by omega)]
            rw [hg 95 (by omega), hg 96 (by omega), hg 97 (by omega), hg 98 (by omega), hg 99 (by omega), hg 100 (by omega)]
            exact hR u (by omega)
        · rw [pm_up, if_neg (by omega), pm_up, if_neg (by omega), pm_up, if_neg (by omega), pm_up, if_neg (by omega), kJ3 81 37 (by omega), ← hJ2, pm_up, if_pos ⟨rfl, rfl⟩, kJ1 81 37 (by omega), h37, lks, hpt]; rfl
        · rw [pm_up, if_neg (by omega), pm_up, if_neg (by omega), pm_up, if_neg (by omega), pm_up, if_neg (by omega), kJ3 81 38 (by omega), ← hJ2, pm_up, if_neg (by omega), ← hJ1, pm_up, if_pos ⟨rfl, rfl⟩, h38, srn, ← e1, ← e2, hT]
        · rw [pm_up, if_neg (by omega), pm_up, if_neg (by omega), pm_up, if_neg (by omega), pm_up, if_pos ⟨rfl, rfl⟩]
        · rw [hpt, nx, hq, e3])
    0 (pm_up (pm_up (pm_up I 81 37 0) 81 38 0) 81 39 (-1), (I 81 27, I 81 29, 0), none, none, none, none) (Nat.zero_le 12) (by
      refine ⟨fun a j h1 h2 => ?_, ⟨fun u hu => absurd hu (Nat.not_lt_zero u), ?_, ?_, ?_⟩, ?_⟩
      · simp only; rw [pm_up, if_neg (by omega), pm_up, if_neg (by omega), pm_up, if_neg (by omega)]
      · simp [pm_up, lks]
      · simp [pm_up, srn]
      · simp [pm_up, fnt]
      · simp only [pst, ← hB, PBr])
  obtain ⟨⟨J, s, o7, o8, o9, o10⟩, e1, e2, e3, e4⟩ := h
  refine ⟨J, e1.trans ?_, e2, e3⟩
  simp only
  rw [sg_Mo_plays_32]
  rfl
end
