section
variable {X : Nat × (Nat → Int32)} {d : Nat} {al : List Nat} {D : Nat → Bool} {I : Nat → Nat → Int32} {L : Nat → Nat → Int64}
/-- sums over a set of pipes -/
def sm1 (f : Nat → Int32) (set : Int32) (p : Nat) (a : Int32) : Int32 := a + cond (tb set p) (f p) 0
def sm (f : Nat → Int32) (n : Nat) (set : Int32) : Int32 := fo (sm1 f set) n 0
theorem sm_congr {f g : Nat → Int32} {n : Nat} (set : Int32) (h : ∀ p, p < n → f p = g p) : sm f n set = sm g n set := fo_congr n _ (fun p a hp => by rw [sm1, sm1, h p hp])
theorem c_sumOf {b n q : Nat} (set : Int32) (hb : b < 8) (eb : I 81 23 = Int32.ofNat b) (hn : n ≤ 6) (en : I 81 25 = Int32.ofNat n) (hq : q ≤ 23) : Cl X (d + 2) 276 [vr 81, vi (Int32.ofNat q), vi set] (pm_mm al D I L) = some (some (vi (sm (fun p => I 87 (29 * b + (q + p))) n set)), pm_mm al D I L) := by
  rw [Cl_s]
  show Rn X (d + 1) co_Mo_sumOf (0, [some (vr 81), some (vi (Int32.ofNat q)), some (vi set), none, none], [], pm_mm al D I L) = _
  rw [sg_Mo_sumOf_0]
  have h := lf n (fun p a => Rn X (d + 1) co_Mo_sumOf (5, [some (vr 81), some (vi (Int32.ofNat q)), some (vi set), some (vi a), some (vi (Int32.ofNat p))], [], pm_mm al D I L)) (sm1 (fun p => I 87 (29 * b + (q + p))) set) (fun p a hp => by
    show Rn X (d + 1) co_Mo_sumOf _ = Rn X (d + 1) co_Mo_sumOf _
    have hof := c_of (X := X) (d := d) (al := al) (D := D) (L := L) (I := I) hb (k := q + p) (by omega) eb
    rw [sg_Mo_sumOf_5, en]
    simp (disch := omega) only [n_dle, df, cond_false, c_has, hs_tb, Option.bind_some, pm_ai, sg_Mo_sumOf_21, b01_ne, n_add, hof, sg_Mo_sumOf_32, sg_Mo_sumOf_36, n_s, sm1]
    cases tb set p <;> rfl) 0
  refine Eq.trans h ?_
  show Rn X (d + 1) co_Mo_sumOf _ = _
  rw [sg_Mo_sumOf_5, en]
  simp (disch := omega) only [n_dle, dt, cond_true]; rfl
theorem k_sumOf {b s n : Nat} (set : Int32) (hb : b < 2) (hs : s < 2) (hn : n ≤ 6) (en : I (9 + 5 * b) 4 = Int32.ofNat n) : Cl X (d + 1) 12 [vr (9 + 5 * b), vr (10 + 5 * b + s), vi set] (pm_mm al D I L) = some (some (vi (sm (I (10 + 5 * b + s)) n set)), pm_mm al D I L) := by
  rw [Cl_s]
  refine Eq.trans (show _ = Rn X d co_Ba_sumOf (0, [some (vr (9 + 5 * b)), some (vr (10 + 5 * b + s)), some (vi set), none, none], [], pm_mm al D I L) from rfl) ?_
  rw [sgb_Ba_sumOf_0 hb hs]
  have h := lf n (fun p a => Rn X d co_Ba_sumOf (5, [some (vr (9 + 5 * b)), some (vr (10 + 5 * b + s)), some (vi set), some (vi a), some (vi (Int32.ofNat p))], [], pm_mm al D I L)) (sm1 (I (10 + 5 * b + s)) set) (fun p a hp => by
    show Rn X d co_Ba_sumOf _ = Rn X d co_Ba_sumOf _
    rw [sgb_Ba_sumOf_5 hb hs, en]
    simp (disch := omega) only [n_dle, df, cond_false, hs0_tb, n_in, dt, cond_true, n_tn, sgb_Ba_sumOf_30 hb hs, n_s, sm1]
    cases tb set p with
    | true => rfl
    | false => simp only [Bool.not_false, cond_true, cond_false, Int32.add_zero]) 0
  refine Eq.trans h ?_
  show Rn X d co_Ba_sumOf _ = _
  rw [sgb_Ba_sumOf_5 hb hs, en]
  simp (disch := omega) only [n_dle, dt, cond_true]; rfl
/-- chord: sets one after the other: how many, the best -/
def ch1 (dw wo : Nat → Int32) (N : Int32) (set : Nat) (s : Int32 × Nat) : Int32 × Nat := cond (decide (N < dw set)) s (s.1 + 1, cond (decide (wo set ≤ wo s.2)) s.2 set)
def chd (dw wo : Nat → Int32) (N : Int32) (k : Nat) : Int32 × Nat := fo (ch1 dw wo N) k (0, 0)
theorem chd_lt (dw wo : Nat → Int32) (N : Int32) : ∀ k, (chd dw wo N k).2 ≤ k
  | 0 => Nat.le_refl 0
  | k + 1 => by
    have := chd_lt dw wo N k
    show (ch1 dw wo N k (chd dw wo N k)).2 ≤ k + 1
    rw [ch1]
    cases decide (N < dw k) with
    | true => rw [cond_true]; omega
    | false => rw [cond_false]; cases decide (wo k ≤ wo (chd dw wo N k).2) <;> simp only [cond_true, cond_false] <;> omega
def vChord (I : Nat → Nat → Int32) (m : Nat → Nat) (b N what : Int32) : Int32 :=
  cond (pm_in N 61 && pm_in b (m 0) && pm_in what 3)
    (let n := (I 87 (29 * b.toNatClampNeg)).toNatClampNeg
     let wo := fun k => sm (fun p => I 87 (29 * b.toNatClampNeg + (11 + p))) n (Int32.ofNat k)
     let q := chd (fun k => sm (fun p => I 87 (29 * b.toNatClampNeg + (5 + p))) n (Int32.ofNat k)) wo N (2 ^ n)
     cond (decide (what = 0)) (wo q.2) (cond (decide (what = 1)) (Int32.ofNat q.2) q.1)) (-1)
theorem r_chord {m : Nat → Nat} (b N what : Int32) (g : rG I m) : ∃ J, Cl X (d + 4) 277 [vr 81, vi b, vi N, vi what] (pm_mm al D I L) = some (some (vi (vChord I m b N what)), pm_mm al D J L) ∧ rF I J := by
  rw [Cl_s]
  show ∃ J, Rn X (d + 3) co_Mo_chord (0, [some (vr 81), some (vi b), some (vi N), some (vi what), none, none, none], [], pm_mm al D I L) = _ ∧ _
  obtain ⟨m0, e0⟩ := g.1 0 (by omega)
  have h60 : (if 0 ≤ N ∧ N ≤ 60 then (1 : Int32) else 0) = b01 (pm_in N 61) := in_m (m := 61) (by omega)
  have h3 : (if 0 ≤ what ∧ what ≤ 2 then (1 : Int32) else 0) = b01 (pm_in what 3) := in_m (m := 3) (by omega)
  rw [sg_Mo_chord_0, vChord]
  simp only [c_in, h60, Option.bind_some, pm_ai, sg_Mo_chord_12, b01_ne, sg_Mo_chord_32]
  cases hN : pm_in N 61 with
  | false => exact ⟨_, rfl, rF_code⟩
  | true =>
    simp only [Bool.not_true, cond_false, Bool.true_and]
    cases hb : pm_in b (m 0) with
    | false =>
      rw [c_hand_f (d := d) (I := pm_up I 81 0 0) m0 e0 hb]
      simp only [Option.bind_some, pm_ai, sg_Mo_chord_20, sg_Mo_chord_32]
      exact ⟨_, rfl, rF_code⟩
    | true =>
      obtain ⟨b', hb', eb⟩ := in_nat hb
      obtain ⟨J, e1, e2, e3⟩ := c_hand_t (X := X) (d := d) (al := al) (D := D) (L := L) (I := pm_up I 81 0 0) m0 e0 hb'
      have hF : rF I J := rF_code.trans (fun a h1 h2 => by funext j; exact e2 a j (by unfold hdS; omega))
      have J87 : ∀ j, J 87 j = I 87 j := fun j => (e2 87 j (by unfold hdS; omega)).trans (up_ne (by omega))
      have n6 : (I 87 (29 * b')).toNatClampNeg ≤ 6 := (g.2.1 b' hb').1
      have J25 : J 81 25 = Int32.ofNat (I 87 (29 * b')).toNatClampNeg := e3.2.1.trans (n_of (g.2.1 b' hb').2.1)
      have hp2 := p2_le n6
      subst eb
      rw [e1, n_tn (by omega)]
      simp only [Option.bind_some, pm_ai, sg_Mo_chord_20, sg_Mo_chord_32, c_in, h3, sg_Mo_chord_29, b01_ne, show decide ((1 : Int32) = 0) = false from rfl, cond_false, Bool.true_and]
      cases hw : pm_in what 3 with
      | false => exact ⟨J, rfl, hF⟩
      | true =>
        refine ⟨J, ?_, hF⟩
        simp only [Bool.not_true, cond_false, cond_true]
        generalize hdw : (fun k => sm (fun p => I 87 (29 * b' + (5 + p))) (I 87 (29 * b')).toNatClampNeg (Int32.ofNat k)) = dw
        generalize hwo : (fun k => sm (fun p => I 87 (29 * b' + (11 + p))) (I 87 (29 * b')).toNatClampNeg (Int32.ofNat k)) = wo
        have hdk : ∀ k, sm (fun p => I 87 (29 * b' + (5 + p))) (I 87 (29 * b')).toNatClampNeg (Int32.ofNat k) = dw k := fun k => congrFun hdw k
        have hwk : ∀ k, sm (fun p => I 87 (29 * b' + (11 + p))) (I 87 (29 * b')).toNatClampNeg (Int32.ofNat k) = wo k := fun k => congrFun hwo k
        simp only [hwk]
        have s5 : ∀ k, Cl X (d + 3) 276 [vr 81, vi 5, vi (Int32.ofNat k)] (pm_mm al D J L) = some (some (vi (dw k)), pm_mm al D J L) := fun k => by
          have := c_sumOf (X := X) (d := d + 1) (al := al) (D := D) (L := L) (I := J) (q := 5) (Int32.ofNat k) (show b' < 8 by omega) e3.1 n6 J25 (by omega)
          rw [← hdk, ← sm_congr (Int32.ofNat k) (f := fun p => J 87 (29 * b' + (5 + p))) (fun p _ => J87 _)]; exact this
        have s11 : ∀ k, Cl X (d + 3) 276 [vr 81, vi 11, vi (Int32.ofNat k)] (pm_mm al D J L) = some (some (vi (wo k)), pm_mm al D J L) := fun k => by
          have := c_sumOf (X := X) (d := d + 1) (al := al) (D := D) (L := L) (I := J) (q := 11) (Int32.ofNat k) (show b' < 8 by omega) e3.1 n6 J25 (by omega)
          rw [← hwk, ← sm_congr (Int32.ofNat k) (f := fun p => J 87 (29 * b' + (11 + p))) (fun p _ => J87 _)]; exact this
        generalize hn : (I 87 (29 * b')).toNatClampNeg = n at *
        have h := lf (2 ^ n) (fun k (_ : Unit) => Rn X (d + 3) co_Mo_chord (43, [some (vr 81), some (vi (Int32.ofNat b')), some (vi N), some (vi what), some (vi (Int32.ofNat (chd dw wo N k).2)), some (vi (chd dw wo N k).1), some (vi (Int32.ofNat k))], [], pm_mm al D J L)) (fun _ q => q) (fun k _ hk => by
          show Rn X (d + 3) co_Mo_chord _ = Rn X (d + 3) co_Mo_chord _
          rw [sg_Mo_chord_43, J25, pw_shl (by omega)]
          simp (disch := omega) only [n_dle, df, cond_false, s5, Option.bind_some, pm_ai, sg_Mo_chord_61, s11, sg_Mo_chord_76, sg_Mo_chord_84, sg_Mo_chord_94, sg_Mo_chord_96, n_s]
          have hcs : chd dw wo N (k + 1) = ch1 dw wo N k (chd dw wo N k) := rfl
          rw [hcs, ch1]
          cases decide (N < dw k) with
          | true => rfl
          | false => cases decide (wo k ≤ wo (chd dw wo N k).2) <;> rfl) ()
        refine Eq.trans h ?_
        show Rn X (d + 3) co_Mo_chord _ = _
        rw [sg_Mo_chord_43, J25, pw_shl (by omega), n_dle (by omega) (by omega), dt (Nat.le_refl _), cond_true, s11]
        simp only [Option.bind_some, pm_ai, sg_Mo_chord_114, sg_Mo_chord_129]
        cases decide (what = 0) <;> cases decide (what = 1) <;> rfl
theorem q_chord {m : Nat → Nat} (b N what : Int32) (g : rG I m) (r : RL I m) : Cl X (d + 4) 151 [vr 1, vi b, vi N, vi what] (pm_mm al D I L) = some (some (vi (vChord I m b N what)), pm_mm al D I L) := by
  rw [Cl_s]
  show Rn X (d + 3) co_Ch_chord (0, [some (vr 1), some (vi b), some (vi N), some (vi what), none, none, none, none, none, none], [], pm_mm al D I L) = _
  have m0 := (g.1 0 (by omega)).1
  have h1 : Cl X (d + 3) 93 [vr 2, vi 0, vi b] (pm_mm al D I L) = _ := k_has (d := d + 2) (s := 0) (m := m 0) b (by omega) m0 ((r.1 0 (by omega)).trans (g.1 0 (by omega)).2)
  have hN2 : pm_in N 61 = (!decide (N < 0) && decide (N ≤ 60)) := by
    have e0 : (0 : Int32).toInt = 0 := rfl
    have e1 : (60 : Int32).toInt = 60 := rfl
    rw [Bool.eq_iff_iff, in_iff, Bool.and_eq_true, Bool.not_eq_true', decide_eq_false_iff_not, decide_eq_true_iff, t_lt, t_le]; omega
  rw [sg_Ch_chord_x_0, h1, vChord]
  simp only [Option.bind_some, pm_ai]
  cases hb : pm_in b (m 0) with
  | false =>
    rw [Bool.and_false, Bool.false_and]
    exact (sg_Ch_chord_x0_9 ..).trans (sgb_Ch_chord_22 ..)
  | true =>
    obtain ⟨b', hb', eb⟩ := in_nat hb
    subst eb
    have hb2 : b' < 2 := by omega
    have n6 := (g.2.1 b' hb').1
    have hp2 := p2_le n6
    obtain ⟨r1, r2, r3, r4, r5, r6⟩ := r.2.1 b' hb'
    have en : I (9 + 5 * b') 4 = Int32.ofNat (I 87 (29 * b')).toNatClampNeg := r1.trans (n_of (g.2.1 b' hb').2.1)
    refine Eq.trans (sgb_Ch_chord_9 (b := b') hb2 ..) ?_
    rw [n_tn (by omega), show decide (b01 true = 0) = false from rfl, cond_false, hN2]
    cases hk1 : decide (N < 0) with
    | true => exact sgb_Ch_chord_22 ..
    | false =>
      cases hk2 : decide (N ≤ 60) with
      | false => exact sgb_Ch_chord_22 ..
      | true =>
        simp only [cond_false, cond_true, Bool.not_false, Bool.and_self, Bool.true_and]
        have hN0 : 0 ≤ N := Int32.not_lt.mp (of_decide_eq_false hk1)
        generalize hdw : (fun k => sm (fun p => I 87 (29 * b' + (5 + p))) (I 87 (29 * b')).toNatClampNeg (Int32.ofNat k)) = dw
        generalize hwo : (fun k => sm (fun p => I 87 (29 * b' + (11 + p))) (I 87 (29 * b')).toNatClampNeg (Int32.ofNat k)) = wo
        have hdk : ∀ k, sm (fun p => I 87 (29 * b' + (5 + p))) (I 87 (29 * b')).toNatClampNeg (Int32.ofNat k) = dw k := fun k => congrFun hdw k
        have hwk : ∀ k, sm (fun p => I 87 (29 * b' + (11 + p))) (I 87 (29 * b')).toNatClampNeg (Int32.ofNat k) = wo k := fun k => congrFun hwo k
        simp only [hwk]
        have s5 : ∀ k, Cl X (d + 3) 12 [vr (9 + 5 * b'), vr (10 + 5 * b'), vi (Int32.ofNat k)] (pm_mm al D I L) = some (some (vi (dw k)), pm_mm al D I L) := fun k => by
          have := k_sumOf (X := X) (d := d + 2) (al := al) (D := D) (L := L) (I := I) (s := 0) (Int32.ofNat k) hb2 (by omega) n6 en
          rw [← hdk, sm_congr (Int32.ofNat k) (g := I (10 + 5 * b' + 0)) (fun p hp => by rw [show 10 + 5 * b' + 0 = 9 + 5 * b' + 1 by omega, (r6 p hp).1])]; exact this
        have s11 : ∀ k, Cl X (d + 3) 12 [vr (9 + 5 * b'), vr (11 + 5 * b'), vi (Int32.ofNat k)] (pm_mm al D I L) = some (some (vi (wo k)), pm_mm al D I L) := fun k => by
          have := k_sumOf (X := X) (d := d + 2) (al := al) (D := D) (L := L) (I := I) (s := 1) (Int32.ofNat k) hb2 (by omega) n6 en
          rw [← hwk, sm_congr (Int32.ofNat k) (g := I (10 + 5 * b' + 1)) (fun p hp => by rw [show 10 + 5 * b' + 1 = 9 + 5 * b' + 2 by omega, (r6 p hp).2.1])]
          rw [show 11 + 5 * b' = 10 + 5 * b' + 1 by omega]; exact this
        have z0 : ∀ f : Nat → Int32, ∀ n, sm f n 0 = 0 := fun f n => by
          show fo (sm1 f 0) n 0 = 0
          induction n with
          | zero => rfl
          | succ n ih => rw [fo, ih, sm1, tb_0]; rfl
        have dz : dw 0 = 0 := by rw [← hdw]; exact z0 _ _
        have wz : wo 0 = 0 := by rw [← hwo]; exact z0 _ _
        generalize hn : (I 87 (29 * b')).toNatClampNeg = n at *
        have first : ∀ o9, ∃ p9, Rn X (d + 3) co_Ch_chord (47, [some (vr 1), some (vi (Int32.ofNat b')), some (vi N), some (vi what), some (vr (9 + 5 * b')), some (vi (-1)), some (vi 0), some (vi 0), some (vi 0), o9], [], pm_mm al D I L) = Rn X (d + 3) co_Ch_chord (47, [some (vr 1), some (vi (Int32.ofNat b')), some (vi N), some (vi what), some (vr (9 + 5 * b')), some (vi (wo (chd dw wo N 1).2)), some (vi (Int32.ofNat (chd dw wo N 1).2)), some (vi (chd dw wo N 1).1), some (vi (Int32.ofNat 1)), p9], [], pm_mm al D I L) := fun o9 => by
          refine ⟨some (vi 0), ?_⟩
          have hcs : chd dw wo N 1 = (1, 0) := by
            show ch1 dw wo N 0 (0, 0) = _
            rw [ch1, dz, df (Int32.not_lt.mpr hN0), cond_false, wz]; rfl
          have s50 : Cl X (d + 3) 12 [vr (9 + 5 * b'), vr (10 + 5 * b'), vi 0] (pm_mm al D I L) = _ := s5 0
          have s110 : Cl X (d + 3) 12 [vr (9 + 5 * b'), vr (11 + 5 * b'), vi 0] (pm_mm al D I L) = _ := s11 0
          have hpp : ¬ 2 ^ n ≤ 0 := by have := Nat.one_le_two_pow (n := n); omega
          have hp0 : decide (Int32.ofNat (2 ^ n) ≤ 0) = false := (n_dle (b := 0) (by omega) (by omega)).trans (df hpp)
          rw [sgb_Ch_chord_47 hb2, en, pw_shl (by omega), hp0, cond_false, s50, dz]
          simp only [Option.bind_some, pm_ai, sgb_Ch_chord_71 hb2, df (Int32.not_lt.mpr hN0), cond_false, s110, sgb_Ch_chord_90 hb2, sgb_Ch_chord_107 hb2, wz, hcs]
          rfl
        have h : ∀ i k o9, 1 ≤ k → k + i = 2 ^ n → Rn X (d + 3) co_Ch_chord (47, [some (vr 1), some (vi (Int32.ofNat b')), some (vi N), some (vi what), some (vr (9 + 5 * b')), some (vi (wo (chd dw wo N k).2)), some (vi (Int32.ofNat (chd dw wo N k).2)), some (vi (chd dw wo N k).1), some (vi (Int32.ofNat k)), o9], [], pm_mm al D I L) = some (some (vi (cond (decide (what = 0)) (wo (chd dw wo N (2 ^ n)).2) (cond (decide (what = 1)) (Int32.ofNat (chd dw wo N (2 ^ n)).2) (cond (decide (what = 2)) (chd dw wo N (2 ^ n)).1 (-1))))), pm_mm al D I L) := by
          intro i
          induction i with
          | zero =>
            intro k o9 h1k hk
            obtain rfl : k = 2 ^ n := by omega
            rw [sgb_Ch_chord_47 hb2, en, pw_shl (by omega), n_dle (by omega) (by omega), dt (Nat.le_refl _), cond_true]
            cases decide (what = 0) <;> cases decide (what = 1) <;> cases decide (what = 2) <;> rfl
          | succ i ih =>
            intro k o9 h1k hk
            rw [sgb_Ch_chord_47 hb2, en, pw_shl (by omega)]
            have ih' := fun o9 => ih (k + 1) o9 (by omega) (by omega)
            have hcs : chd dw wo N (k + 1) = ch1 dw wo N k (chd dw wo N k) := rfl
            rw [hcs] at ih'
            generalize chd dw wo N k = q at ih'
            rw [ch1] at ih'
            simp (disch := omega) only [n_dle, df, cond_false, s5, Option.bind_some, pm_ai, sgb_Ch_chord_71 hb2, s11, sgb_Ch_chord_90 hb2, sgb_Ch_chord_107 hb2, n_s]
            cases hd : decide (N < dw k) with
            | true => rw [hd] at ih'; exact ih' o9
            | false =>
              rw [hd] at ih'
              simp only [cond_false] at ih' ⊢
              cases hd2 : decide (wo k ≤ wo q.2) with
              | true => rw [hd2] at ih'; exact ih' _
              | false => rw [hd2] at ih'; exact ih' _
        obtain ⟨p9, hf⟩ := first none
        refine Eq.trans hf ?_
        refine Eq.trans (h (2 ^ n - 1) 1 p9 (by omega) (by have := Nat.one_le_two_pow (n := n); omega)) ?_
        cases hw : pm_in what 3 with
        | true =>
          obtain ⟨w', hw', ew⟩ := in_nat hw
          have : w' = 0 ∨ w' = 1 ∨ w' = 2 := by omega
          rcases this with rfl | rfl | rfl <;> subst ew <;> rfl
        | false =>
          have q0 : decide (what = 0) = false := df (fun c => by subst c; revert hw; decide)
          have q1 : decide (what = 1) = false := df (fun c => by subst c; revert hw; decide)
          have q2 : decide (what = 2) = false := df (fun c => by subst c; revert hw; decide)
          rw [q0, q1, q2]; rfl
end
