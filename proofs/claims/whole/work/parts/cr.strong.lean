section
variable {X : Nat × (Nat → Int32)} {d : Nat} {al : List Nat} {D : Nat → Bool} {I : Nat → Nat → Int32} {L : Nat → Nat → Int64}
/-- what a plain question leaves -/
def cX (I J : Nat → Nat → Int32) : Prop := (∀ a, ¬ (34 ≤ a ∧ a ≤ 80) → True → J a = I a) ∧ J 57 0 = I 57 0 ∧ J 59 0 = I 59 0 ∧ J 64 = I 64
theorem cX_refl : cX I I := ⟨fun _ _ _ => rfl, rfl, rfl, rfl⟩
theorem cX_F {J : Nat → Nat → Int32} (h : cX I J) : cF I J := ⟨fun a a1 _ => h.1 a a1 trivial, h.2⟩
theorem cX_pt {I J K : Nat → Nat → Int32} (e2 : ∀ a j, ¬ prS a j → J a j = I a j) (f2 : ∀ a j, ¬ plS a j → K a j = J a j) (h1 : K 57 0 = J 57 0) (h2 : K 59 0 = J 59 0) : cX I K := by
  refine ⟨fun a h1 h2 => ?_, ?_, ?_, ?_⟩
  · funext j; rw [f2 a j (by unfold plS; omega), e2 a j (by unfold prS tkS; omega)]
  · rw [h1, e2 57 0 (by unfold prS tkS; omega)]
  · rw [h2, e2 59 0 (by unfold prS tkS; omega)]
  · funext j; rw [f2 64 j (by unfold plS; omega), e2 64 j (by unfold prS tkS; omega)]
theorem p_played {m : Nat → Nat} (b s u beat what : Int32) (g : rG I m) (r : RL I m) : ∃ J, Cl X (d + 5) 123 [vr 1, vi b, vi s, vi u, vi beat, vi what] (pm_mm al D I L) = some (some (vi (vPlayed I m b s u beat what)), pm_mm al D J L) ∧ cX I J := by
  have hm : ∀ i, i < 4 → m i ≤ 2 ∧ I 4 i = Int32.ofNat (m i) := fun i hi => ⟨(g.1 i hi).1, (r.1 i hi).trans (g.1 i hi).2⟩
  rw [Cl_s]
  show ∃ J, Rn X (d + 4) co_Ch_played (0, [some (vr 1), some (vi b), some (vi s), some (vi u), some (vi beat), some (vi what)], [], pm_mm al D I L) = _ ∧ _
  rw [sg_Ch_played_x_0, k_hasThree b s u hm]
  simp only [Option.bind_some, pm_ai, sg_Ch_played_x_7, b01_ne, vPlayed]
  have hc : (pm_in s (m 1) && pm_in b (m 0) && pm_in u (m 2) && pm_in beat 12) = (pm_in b (m 0) && pm_in s (m 1) && pm_in u (m 2) && pm_in beat 12) := by rw [Bool.and_comm (pm_in s (m 1))]
  have hbt : pm_in beat 12 = (!decide (beat < 0) && decide (beat < 12)) := by
    have h0 : (0 : Int32).toInt = 0 := rfl
    have h12 : (12 : Int32).toInt = 12 := rfl
    rw [Bool.eq_iff_iff, in_iff, Bool.and_eq_true, Bool.not_eq_true', decide_eq_false_iff_not, decide_eq_true_iff, t_lt, t_lt]; omega
  have no : ∀ (o0 o1 o2 o3 o4 o5 : Option pm_V), Rn X (d + 4) co_Ch_played (22, [o0, o1, o2, o3, o4, o5], [], pm_mm al D I L) = some (some (vi (-1)), pm_mm al D I L) := fun o0 o1 o2 o3 o4 o5 => sg_Ch_played_0_0_22 ..
  rw [hc]
  cases hok : (pm_in b (m 0) && pm_in s (m 1) && pm_in u (m 2)) with
  | false =>
    simp only [Bool.not_false, cond_true, no, Bool.false_and, cond_false]
    exact ⟨I, rfl, cX_refl⟩
  | true =>
    simp only [Bool.not_true, cond_false, Bool.true_and, hbt]
    cases h1 : decide (beat < 0) with
    | true =>
      simp only [cond_true, no, Bool.not_true, Bool.false_and, cond_false]
      exact ⟨I, rfl, cX_refl⟩
    | false =>
      cases h2 : decide (beat < 12) with
      | false =>
        simp only [cond_false, no, Bool.and_false]
        exact ⟨I, rfl, cX_refl⟩
      | true =>
        have ht : pm_in beat 12 = true := by rw [hbt, h1, h2]; rfl
        simp only [Bool.and_eq_true] at hok
        obtain ⟨⟨o2, o1⟩, o3⟩ := hok
        obtain ⟨s', hs', es⟩ := in_nat o1
        obtain ⟨b', hb', eb⟩ := in_nat o2
        obtain ⟨u', hu', eu⟩ := in_nat o3
        obtain ⟨t', ht', et⟩ := in_nat ht
        have m0 := (g.1 0 (by omega)).1
        have m1 := (g.1 1 (by omega)).1
        have m2 := (g.1 2 (by omega)).1
        obtain ⟨J, e1, e2, e3⟩ := k_prepare (X := X) (d := d + 1) (al := al) (D := D) (L := L) (I := I) (b := b') (s := s') (by omega) (by omega) (sR_gC (r.2.2.1 s' hs') (g.2.2.1 s' hs'))
        obtain ⟨p1, p2, p3, p4, p5⟩ := k_prepared g r hb' hs' e3
        obtain ⟨K, f1, f2, f3, f4⟩ := k_through (X := X) (d := d + 1) (al := al) (D := D) (L := L) (I := J) (J 7 u') p1 p2 p3 p4
        subst eb es eu et
        have hu2 : pm_in (Int32.ofNat u') 2 = true := (n_in (by omega)).trans (decide_eq_true (by omega))
        simp only [cond_false, cond_true, Bool.not_false, Bool.and_self]
        rw [e1]
        simp only [Option.bind_some, pm_av, sg_Ch_played_x_30, hu2, cond_true, n_tn (show u' < 2147483648 by omega)]
        rw [f1]
        simp only [Option.bind_some, pm_av, sg_Ch_played_x_46]
        rw [k_behind what ht' (f3 t' ht')]
        simp only [Option.bind_some, pm_ai, sg_Ch_played_x_57]
        refine ⟨K, ?_, cX_pt e2 f2 f4.2.1 f4.2.2.1⟩
        · have e7 : J 7 u' = I 89 u' := (e2 7 u' (by unfold prS tkS; omega)).trans (r.2.2.2.1 u' hu')
          rw [p5 _ (t' + 1) (by omega), e7, n_tn (by omega), n_tn (by omega), n_tn (by omega)]
theorem p_drawn {m : Nat → Nat} (b s seed what : Int32) (g : rG I m) (r : RL I m) : ∃ J, Cl X (d + 5) 124 [vr 1, vi b, vi s, vi seed, vi what] (pm_mm al D I L) = some (some (vi (vDrawn I m b s seed what)), pm_mm al D J L) ∧ cX I J := by
  have hm : ∀ i, i < 4 → m i ≤ 2 ∧ I 4 i = Int32.ofNat (m i) := fun i hi => ⟨(g.1 i hi).1, (r.1 i hi).trans (g.1 i hi).2⟩
  rw [Cl_s]
  show ∃ J, Rn X (d + 4) co_Ch_drawn (0, [some (vr 1), some (vi b), some (vi s), some (vi seed), some (vi what), none, none, none], [], pm_mm al D I L) = _ ∧ _
  rw [sg_Ch_drawn_x_0, k_hasPair (d := d + 2) b s hm]
  simp only [Option.bind_some, pm_ai, sg_Ch_drawn_x_6, b01_ne, vDrawn]
  rw [Bool.and_comm (pm_in s (m 1))]
  cases hok : (pm_in b (m 0) && pm_in s (m 1)) with
  | false => exact ⟨I, rfl, cX_refl⟩
  | true =>
    simp only [Bool.not_true, cond_false, cond_true]
    simp only [Bool.and_eq_true] at hok
    obtain ⟨s', hs', es⟩ := in_nat hok.2
    obtain ⟨b', hb', eb⟩ := in_nat hok.1
    have m0 := (g.1 0 (by omega)).1
    have m1 := (g.1 1 (by omega)).1
    have h := lf 12 (fun t (q : Unit) => Rn X (d + 4) co_Ch_drawn (20, [some (vr 1), some (vi b), some (vi s), some (vi seed), some (vi what), some (vi (dwS seed t).1), some (vi (dwS seed t).2), some (vi (Int32.ofNat t))], [], pm_mm al D I L)) (fun _ q => q) (fun t q ht => by
      have h0 : decide ((12 : Int32) ≤ Int32.ofNat t) = false := (n_dle (a := 12) (by decide) (by omega)).trans (decide_eq_false (by omega))
      show Rn X (d + 4) co_Ch_drawn _ = Rn X (d + 4) co_Ch_drawn _
      have hsh : sdb (dwS seed t).1 <<< (Int32.ofNat t &&& 31) = cond (decide (sdb (dwS seed t).1 = 1)) (1 <<< (Int32.ofNat t &&& 31)) 0 := by
        rcases sdb_01 (dwS seed t).1 with e | e
        · have hz : ∀ t : Fin 12, (0 : Int32) <<< (Int32.ofNat t.val &&& 31) = 0 := by decide +kernel
          rw [e]; exact hz ⟨t, ht⟩
        · rw [e]; rfl
      rw [sg_Ch_drawn_x_20, h0, cond_false]
      show Rn X (d + 4) co_Ch_drawn (20, [some (vr 1), some (vi b), some (vi s), some (vi seed), some (vi what), some (vi (sd1 (dwS seed t).1)), some (vi ((dwS seed t).2 ||| (sdb (dwS seed t).1 <<< (Int32.ofNat t &&& 31)))), some (vi (Int32.ofNat t + 1))], [], pm_mm al D I L) = _
      rw [hsh, n_s, dwS]) ()
    obtain ⟨J, e1, e2, e3⟩ := k_prepare (X := X) (d := d + 1) (al := al) (D := D) (L := L) (I := I) (b := b') (s := s') (by omega) (by omega) (sR_gC (r.2.2.1 s' hs') (g.2.2.1 s' hs'))
    obtain ⟨p1, p2, p3, p4, p5⟩ := k_prepared g r hb' hs' e3
    obtain ⟨K, f1, f2, f3, f4⟩ := k_through (X := X) (d := d + 1) (al := al) (D := D) (L := L) (I := J) (dwS seed 12).2 p1 p2 p3 p4
    have ho : Cl X (d + 4) 51 [vr 49, vi 11, vi what] (pm_mm al D K L) = _ := k_behind (d := d + 3) (t := 11) what (by omega) (f3 11 (by omega))
    subst eb es
    cases h6 : decide (what = 6) with
    | true =>
      refine ⟨I, Eq.trans h ?_, cX_refl⟩
      show Rn X (d + 4) co_Ch_drawn _ = _
      rw [sg_Ch_drawn_x_20, h6]; rfl
    | false =>
      refine ⟨K, Eq.trans h ?_, cX_pt e2 f2 f4.2.1 f4.2.2.1⟩
      · show Rn X (d + 4) co_Ch_drawn _ = _
        rw [sg_Ch_drawn_x_20, h6, show decide ((12 : Int32) ≤ Int32.ofNat 12) = true from rfl, cond_true, cond_false, e1]
        simp only [Option.bind_some, pm_av, sg_Ch_drawn_x_75]
        rw [f1]
        simp only [Option.bind_some, pm_av, sg_Ch_drawn_x_84]
        rw [ho]
        simp only [Option.bind_some, pm_ai, sg_Ch_drawn_x_95, cond_false]
        rw [p5 _ (11 + 1) (by omega), n_tn (by omega), n_tn (by omega)]
theorem p_after {m : Nat → Nat} (b s u what : Int32) (g : rG I m) (r : RL I m) (z : cZ I) : ∃ J, Cl X (d + 5) 125 [vr 1, vi b, vi s, vi u, vi what] (pm_mm al D I L) = some (some (vi (vAfter I m b s u what)), pm_mm al D J L) ∧ cX I J := by
  have hm : ∀ i, i < 4 → m i ≤ 2 ∧ I 4 i = Int32.ofNat (m i) := fun i hi => ⟨(g.1 i hi).1, (r.1 i hi).trans (g.1 i hi).2⟩
  rw [Cl_s]
  show ∃ J, Rn X (d + 4) co_Ch_after (0, [some (vr 1), some (vi b), some (vi s), some (vi u), some (vi what)], [], pm_mm al D I L) = _ ∧ _
  rw [sg_Ch_after_x_0, k_hasThree (d := d + 1) b s u hm]
  simp only [Option.bind_some, pm_ai, sg_Ch_after_x_7, b01_ne, vAfter]
  rw [Bool.and_comm (pm_in s (m 1))]
  cases hok : (pm_in b (m 0) && pm_in s (m 1) && pm_in u (m 2)) with
  | false => exact ⟨I, rfl, cX_refl⟩
  | true =>
    simp only [Bool.not_true, cond_false, cond_true]
    simp only [Bool.and_eq_true] at hok
    obtain ⟨⟨o1, o2⟩, o3⟩ := hok
    obtain ⟨s', hs', es⟩ := in_nat o2
    obtain ⟨b', hb', eb⟩ := in_nat o1
    obtain ⟨u', hu', eu⟩ := in_nat o3
    have m0 := (g.1 0 (by omega)).1
    have m1 := (g.1 1 (by omega)).1
    have m2 := (g.1 2 (by omega)).1
    obtain ⟨J, e1, e2, e3⟩ := k_prepare (X := X) (d := d + 1) (al := al) (D := D) (L := L) (I := I) (b := b') (s := s') (by omega) (by omega) (sR_gC (r.2.2.1 s' hs') (g.2.2.1 s' hs'))
    obtain ⟨p1, p2, p3, p4, p5⟩ := k_prepared g r hb' hs' e3
    obtain ⟨K, f1, f2, f3, f4⟩ := k_through (X := X) (d := d + 1) (al := al) (D := D) (L := L) (I := J) (J 7 u') p1 p2 p3 p4
    subst eb es eu
    have hb2 : b' < 2 := by omega
    rw [e1]
    simp (disch := omega) only [Option.bind_some, pm_av, sg_Ch_after_x_19, n_in, dt, cond_true, n_tn]
    rw [f1]
    have e7 : J 7 u' = I 89 u' := (e2 7 u' (by unfold prS tkS; omega)).trans (r.2.2.2.1 u' hu')
    rw [e7] at f3 f4
    have q5 := fun t ht => p5 (trd (I 89 u') (-1)) t ht
    obtain ⟨a1, a2, a3⟩ := acc_congr q5 (fun _ _ => rfl) 12 (Nat.le_refl _)
    have hBn : (bdO I b').2.2.2.2.1 = (I 87 (29 * b')).toNatClampNeg := rfl
    have hbit := ps_bits (B := bdO I b') (w := wn (scO I s')) (tr := trd (I 89 u') (-1)) p1 (fun i hi => ⟨i, hi, rfl⟩)
    have st : ∀ t, t < 12 → stD K (t + 1) (pst (bdO I b') (wn (scO I s')) (trd (I 89 u') (-1)) (t + 1)) := fun t ht => by rw [← q5 (t + 1) (by omega)]; exact f3 t ht
    have s57 : ∀ t, t < 12 → sma (K 57 (t + 1)) := fun t ht => by
      rw [(st t ht).2.1]; exact sma_b (n := 6) (by omega) (fun k hk hh => Nat.lt_of_lt_of_le ((hbit (t + 1) k hk).2.1 hh) p1)
    have s59 : ∀ t, t < 12 → sma (K 59 (t + 1)) := fun t ht => by
      rw [(st t ht).2.2.1]; exact sma_b (n := 6) (by omega) (fun k hk hh => Nat.lt_of_lt_of_le ((hbit (t + 1) k hk).2.2.2 hh) p1)
    have z57 : K 57 0 = 0 := f4.2.1.trans ((e2 57 0 (by unfold prS tkS; omega)).trans z.1)
    have z59 : K 59 0 = 0 := f4.2.2.1.trans ((e2 59 0 (by unfold prS tkS; omega)).trans z.2.1)
    have K3 : K 49 3 = Int32.ofNat (I 87 (29 * b')).toNatClampNeg := (f2 49 3 (by unfold plS; omega)).trans p2
    have K11 : ∀ j, K (11 + 5 * b') j = I (9 + 5 * b' + 2) j := fun j => by
      rw [f2 _ j (by unfold plS; omega), e2 _ j (by unfold prS tkS; omega), show 11 + 5 * b' = 9 + 5 * b' + 2 by omega]
    have w0 := k_inAll (X := X) (d := d + 2) (al := al) (D := D) (L := L) (I := K) (b := 0) (by omega) z57 s57
    have w2 := k_inAll (X := X) (d := d + 2) (al := al) (D := D) (L := L) (I := K) (b := 2) (by omega) z59 s59
    have w0 : Cl X (d + 4) 126 [vr 57] (pm_mm al D K L) = _ := w0
    have w2 : Cl X (d + 4) 126 [vr 59] (pm_mm al D K L) = _ := w2
    have w6 := k_worthInAll (X := X) (d := d + 3) (al := al) (D := D) (L := L) (I := K) hb2 p1 K3
    have w1 := k_firstToFaint (X := X) (d := d + 3) (al := al) (D := D) (L := L) (I := K) p1 K3
    have w3 := k_loudest (X := X) (d := d + 2) (al := al) (D := D) (L := L) (I := K) s57
    refine ⟨K, ?_, cX_pt e2 f2 f4.2.1 f4.2.2.1⟩
    simp only [Option.bind_some, pm_av]
    have c35 := sgb_Ch_after_35 (b := b') (s := s') hb2 (by omega) X (d + 4) (some (vi (Int32.ofNat s'))) (some (vi (Int32.ofNat u'))) what al D K L
    refine Eq.trans c35 ?_
    have v1 : fnt (bdO I b') (wn (scO I s')) (trd (I 89 u') (-1)) 12 = ftl (fun t => K 55 (t + 1)) (I 87 (29 * b')).toNatClampNeg 0 12 := by
      rw [fnt_ftl (B := bdO I b') p1 hbit 12 0 rfl rfl rfl]
      have : ∀ m t, t + m = 12 → ftl (fun u => (pst (bdO I b') (wn (scO I s')) (trd (I 89 u') (-1)) (u + 1)).2.2.1) (bdO I b').2.2.2.2.1 t m = ftl (fun t => K 55 (t + 1)) (I 87 (29 * b')).toNatClampNeg t m := by
        intro m
        induction m with
        | zero => intro t ht; rfl
        | succ m ih => intro t ht; rw [ftl, ftl, ih (t + 1) (by omega), (st t (by omega)).1.2.2.1, hBn]
      exact this 12 0 rfl
    have v5 : lks (bdO I b') (wn (scO I s')) (trd (I 89 u') (-1)) 12 = fo (fun t a => a + K 56 (t + 1)) 12 0 := by
      rw [← lks_fo]; exact fo_congr 12 _ (fun t a ht => by rw [(st t ht).2.2.2])
    rw [vAft, hBn, ← lou_congr (g := fun t => K 57 (t + 1)) (fun t ht => (st t ht).2.1), ← ff_congr (g := fun t => K 58 (t + 1)) 12 0 (fun t _ ht => (st t (by omega)).1.2.2.2),
      ← sil_congr (g := fun t => K 57 (t + 1)) (fun t ht => (st t ht).2.1), ← sil_congr (g := fun t => K 59 (t + 1)) (fun t ht => (st t ht).2.2.1), ← hu_congr (g := fun t => K 57 (t + 1)) (fun t ht => (st t ht).2.1),
      ← wo_congr (g := fun t => K 57 (t + 1)) (wr := K (11 + 5 * b')) (fun t ht => (st t ht).2.1) (fun p hp => (K11 p).trans ((r.2.1 b' hb').2.2.2.2.2 p hp).2.1), v1, v5, ← a1, ← f4.1]
    simp only [k_firstSilence, w1, w3, w0, w2, k_leakedInAll, w6, k_hush, k_hushBegin, Option.bind_some, pm_ai, sgb_Ch_after_99, sgb_Ch_after_107, sgb_Ch_after_115, sgb_Ch_after_126, sgb_Ch_after_137, sgb_Ch_after_145, sgb_Ch_after_165, sgb_Ch_after_181, sgb_Ch_after_189]
    by_cases c0 : what = 0
    · subst c0; rfl
    by_cases c1 : what = 1
    · subst c1; rfl
    by_cases c2 : what = 2
    · subst c2; rfl
    by_cases c3 : what = 3
    · subst c3; rfl
    by_cases c4 : what = 4
    · subst c4; rfl
    by_cases c5 : what = 5
    · subst c5; rfl
    by_cases c6 : what = 6
    · subst c6; rfl
    by_cases c7 : what = 7
    · subst c7; rfl
    by_cases c8 : what = 8
    · subst c8; rfl
    by_cases c9 : what = 9
    · subst c9; rfl
    · simp only [c0, c1, c2, c3, c4, c5, c6, c7, c8, c9, decide_false, cond_false]
theorem cX_nd {I J K : Nat → Nat → Int32} (e2 : ∀ a j, ¬ prS a j → J a j = I a j) (f : ndF J K) : cX I K := by
  refine ⟨fun a h1 h2 => ?_, ?_, ?_, ?_⟩
  · funext j; rw [f.1 a j (by unfold plS; omega) (by omega), e2 a j (by unfold prS tkS; omega)]
  · rw [f.2.1, e2 57 0 (by unfold prS tkS; omega)]
  · rw [f.2.2, e2 59 0 (by unfold prS tkS; omega)]
  · funext j; rw [f.1 64 j (by unfold plS; omega) (by omega), e2 64 j (by unfold prS tkS; omega)]
theorem p_need {m : Nat → Nat} (b s u what : Int32) (g : rG I m) (r : RL I m) : ∃ J, Cl X (d + 5) 127 [vr 1, vi b, vi s, vi u, vi what] (pm_mm al D I L) = some (some (vi (vNeed I m b s u what)), pm_mm al D J L) ∧ cX I J := by
  have hm : ∀ i, i < 4 → m i ≤ 2 ∧ I 4 i = Int32.ofNat (m i) := fun i hi => ⟨(g.1 i hi).1, (r.1 i hi).trans (g.1 i hi).2⟩
  rw [Cl_s]
  show ∃ J, Rn X (d + 4) co_Ch_need (0, [some (vr 1), some (vi b), some (vi s), some (vi u), some (vi what)], [], pm_mm al D I L) = _ ∧ _
  rw [sg_Ch_need_x_0, k_hasThree (d := d + 1) b s u hm]
  simp only [Option.bind_some, pm_ai, sg_Ch_need_x_7, b01_ne, vNeed]
  rw [Bool.and_comm (pm_in s (m 1))]
  cases hok : (pm_in b (m 0) && pm_in s (m 1) && pm_in u (m 2)) with
  | false => exact ⟨I, rfl, cX_refl⟩
  | true =>
    simp only [Bool.not_true, cond_false, Bool.true_and]
    simp only [Bool.and_eq_true] at hok
    obtain ⟨⟨o1, o2⟩, o3⟩ := hok
    obtain ⟨s', hs', es⟩ := in_nat o2
    obtain ⟨b', hb', eb⟩ := in_nat o1
    obtain ⟨u', hu', eu⟩ := in_nat o3
    have m0 := (g.1 0 (by omega)).1
    have m1 := (g.1 1 (by omega)).1
    have m2 := (g.1 2 (by omega)).1
    obtain ⟨J, e1, e2, e3⟩ := k_prepare (X := X) (d := d + 1) (al := al) (D := D) (L := L) (I := I) (b := b') (s := s') (by omega) (by omega) (sR_gC (r.2.2.1 s' hs') (g.2.2.1 s' hs'))
    obtain ⟨hp, h0, h1, h2⟩ := k_pd g r hb' hs' e3
    subst eb es eu
    have e7 : J 7 u' = I 89 u' := (e2 7 u' (by unfold prS tkS; omega)).trans (r.2.2.2.1 u' hu')
    have gB := bG_O g hb'
    rw [e1]
    simp (disch := omega) only [Option.bind_some, pm_av, sg_Ch_need_x_18, n_in, dt, cond_true, n_tn, e7]
    cases hw : pm_in what 4 with
    | true =>
      obtain ⟨w', hw', ew⟩ := in_nat hw
      have : w' = 0 ∨ w' = 1 ∨ w' = 2 ∨ w' = 3 := by omega
      rcases this with rfl | rfl | rfl | rfl <;> subst ew
      · obtain ⟨K, f1, f2⟩ := k_leastSize (X := X) (d := d) (al := al) (D := D) (L := L) (I 89 u') hp h0 h1 h2 gB
        refine ⟨K, ?_, cX_nd e2 f2⟩
        show ((Cl X (d + 4) 128 [vr 1, vi (I 89 u')] (pm_mm al D J L)).bind pm_ai).bind _ = _
        rw [f1]
        simp only [Option.bind_some, pm_ai, sg_Ch_need_x_65]; rfl
      · obtain ⟨K, f1, f2⟩ := k_leastFill (X := X) (d := d) (al := al) (D := D) (L := L) (I 89 u') hp h0 h1 h2 gB
        refine ⟨K, ?_, cX_nd e2 f2⟩
        show ((Cl X (d + 4) 129 [vr 1, vi (I 89 u')] (pm_mm al D J L)).bind pm_ai).bind _ = _
        rw [f1]
        simp only [Option.bind_some, pm_ai, sg_Ch_need_x_79]; rfl
      · obtain ⟨K, f1, f2⟩ := k_leastStrength (X := X) (d := d) (al := al) (D := D) (L := L) (I 89 u') hp h0 h1 h2 gB
        refine ⟨K, ?_, cX_nd e2 f2⟩
        show ((Cl X (d + 4) 130 [vr 1, vi (I 89 u')] (pm_mm al D J L)).bind pm_ai).bind _ = _
        rw [f1]
        simp only [Option.bind_some, pm_ai, sg_Ch_need_x_93]; rfl
      · obtain ⟨K, f1, f2⟩ := k_laziest (X := X) (d := d) (al := al) (D := D) (L := L) (I 89 u') hp h0 h1 h2
        refine ⟨K, ?_, cX_nd e2 f2⟩
        show ((Cl X (d + 4) 131 [vr 1] (pm_mm al D J L)).bind pm_ai).bind _ = _
        rw [f1]
        simp only [Option.bind_some, pm_ai, sg_Ch_need_x_98]; rfl
    | false =>
      have n0 : decide (what = 0) = false := df (fun c => by subst c; revert hw; decide)
      have n1 : decide (what = 1) = false := df (fun c => by subst c; revert hw; decide)
      have n2 : decide (what = 2) = false := df (fun c => by subst c; revert hw; decide)
      have n3 : decide (what = 3) = false := df (fun c => by subst c; revert hw; decide)
      simp only [n0, n1, n2, n3, cond_false]
      exact ⟨J, rfl, cX_nd e2 ndF_refl⟩
theorem p_canon {m : Nat → Nat} (b s u k : Int32) (g : rG I m) (r : RL I m) : ∃ J, Cl X (d + 5) 132 [vr 1, vi b, vi s, vi u, vi k] (pm_mm al D I L) = some (some (vi (vCanon I m b s u k)), pm_mm al D J L) ∧ cX I J := by
  have hm : ∀ i, i < 4 → m i ≤ 2 ∧ I 4 i = Int32.ofNat (m i) := fun i hi => ⟨(g.1 i hi).1, (r.1 i hi).trans (g.1 i hi).2⟩
  rw [Cl_s]
  show ∃ J, Rn X (d + 4) co_Ch_canon (0, [some (vr 1), some (vi b), some (vi s), some (vi u), some (vi k)], [], pm_mm al D I L) = _ ∧ _
  rw [sg_Ch_canon_x_0, k_hasThree (d := d + 1) b s u hm]
  simp only [Option.bind_some, pm_ai, sg_Ch_canon_x_7, b01_ne, vCanon, sgb_Ch_canon_23, in16]
  rw [Bool.and_comm (pm_in s (m 1))]
  cases hok : (pm_in b (m 0) && pm_in s (m 1) && pm_in u (m 2)) with
  | false => exact ⟨I, rfl, cX_refl⟩
  | true =>
    simp only [Bool.not_true, cond_false, Bool.true_and]
    by_cases hk : 1 ≤ k ∧ k ≤ 6
    · rw [df (Int32.not_lt.mpr hk.1), dt hk.2, dt hk]
      simp only [Bool.and_eq_true] at hok
      obtain ⟨⟨o1, o2⟩, o3⟩ := hok
      obtain ⟨s', hs', es⟩ := in_nat o2
      obtain ⟨b', hb', eb⟩ := in_nat o1
      obtain ⟨u', hu', eu⟩ := in_nat o3
      have m0 := (g.1 0 (by omega)).1
      have m1 := (g.1 1 (by omega)).1
      have m2 := (g.1 2 (by omega)).1
      have hkn : ∃ k', 1 ≤ k' ∧ k' ≤ 6 ∧ k = Int32.ofNat k' := by
        have e1 : (1 : Int32).toInt = 1 := rfl
        have e6 : (6 : Int32).toInt = 6 := rfl
        have e0 : (0 : Int32).toInt = 0 := rfl
        have h1 := t_le.mp hk.1
        have h2 := t_le.mp hk.2
        exact ⟨k.toNatClampNeg, by rw [t_tn]; omega, by rw [t_tn]; omega, n_of (t_le.mpr (by omega))⟩
      obtain ⟨k', hk1, hk6, ek⟩ := hkn
      obtain ⟨J, e1, e2, e3⟩ := k_prepare (X := X) (d := d + 1) (al := al) (D := D) (L := L) (I := I) (b := b') (s := s') (by omega) (by omega) (sR_gC (r.2.2.1 s' hs') (g.2.2.1 s' hs'))
      obtain ⟨⟨h1, h2, h3, h4, h5, h6, h7, h8⟩, z0, z1, z2⟩ := k_pd g r hb' hs' e3
      subst eb es eu ek
      have hn6 : (I 87 (29 * b')).toNatClampNeg ≤ 6 := h1
      generalize hM : pm_ups J 52 (fun t => if k' ≤ t ∧ t < 12 then J 52 t ||| J 52 (t - k') else J 52 t) = M
      have kM : ∀ a j, a ≠ 52 → M a j = J a j := fun a j h => by rw [← hM, ups_ne h]
      have M52 : ∀ t, M 52 t = if k' ≤ t ∧ t < 12 then J 52 t ||| J 52 (t - k') else J 52 t := fun t => by rw [← hM, ups_eq]
      have hpd : pdP M (bdO I b') (wnk (scO I s') k') := by
        refine ⟨h1, (kM 49 3 (by decide)).trans h2, fun p hp => (kM 51 p (by decide)).trans (h3 p hp), fun t ht j hj hb => ?_, (kM 49 4 (by decide)).trans h5, fun i hi => (kM 50 i (by decide)).trans (h6 i hi), fun t ht i hi => ?_, h8⟩
        · rw [M52] at hb
          by_cases hc : k' ≤ t ∧ t < 12
          · rw [if_pos hc, tb_or, Bool.or_eq_true] at hb
            rcases hb with hb | hb
            · exact h4 t ht j hj hb
            · exact h4 (t - k') (by omega) j hj hb
          · rw [if_neg hc] at hb; exact h4 t ht j hj hb
        · have hi' : i < (I 87 (29 * b')).toNatClampNeg := hi
          have a1 := h7 t ht i hi
          have a2 := h7 (t - k') (by omega) i hi
          rw [hs_tb _ (by omega), hs_tb _ (by omega)] at a1 a2
          rw [hs_tb _ (by omega), hs_tb _ (by omega), M52, wnk, wnk_eq]
          by_cases hc : k' ≤ t
          · rw [if_pos ⟨hc, ht⟩, if_pos hc, tb_or, tb_or, a1, a2]; rfl
          · rw [if_neg (fun c => hc c.1), if_neg hc, a1]
      obtain ⟨K, f1, f2, f3, f4, f5, f6, f7⟩ := k_throughB (X := X) (d := d + 1) (al := al) (D := D) (L := L) (I 89 u') hpd ((kM 49 0 (by decide)).trans z0) ((kM 49 1 (by decide)).trans z1) ((kM 49 2 (by decide)).trans z2)
      have e7 : M 7 u' = I 89 u' := (kM 7 u' (by decide)).trans ((e2 7 u' (by unfold prS tkS; omega)).trans (r.2.2.2.1 u' hu'))
      have hbit := ps_bits (B := bdO I b') (w := wnk (scO I s') k') (tr := trd (I 89 u') (-1)) h1 (fun i hi => ⟨i, hi, rfl⟩)
      have s58 : ∀ t, t < 12 → sma (K 58 (t + 1)) := fun t ht => by
        rw [(f3 t ht).1.2.2.2]; exact sma_b (n := 6) (by omega) (fun j hj hh => Nat.lt_of_lt_of_le ((hbit (t + 1) j hj).2.2.1 hh) hn6)
      have w1 := k_inAll (X := X) (d := d + 2) (al := al) (D := D) (L := L) (I := K) (b := 1) (by omega) f7 s58
      have w1 : Cl X (d + 4) 126 [vr 58] (pm_mm al D K L) = _ := w1
      simp only [cond_true, cond_false]
      rw [e1]
      simp only [Option.bind_some, pm_av, sg_Ch_canon_x_31]
      rw [k_follow hk1 hk6, hM]
      simp (disch := omega) only [Option.bind_some, pm_av, sg_Ch_canon_x_40, n_in, dt, cond_true, n_tn, e7, f1, sgb_Ch_canon_56, w1, pm_ai, sg_Ch_canon_x_66]
      have hg : fo (sil1 (fun t => K 58 (t + 1))) 12 0 = fo (sil1 (fun t => (pst (bdO I b') (wnk (scO I s') k') (trd (I 89 u') (-1)) (t + 1)).2.2.2.2.1)) 12 0 := sil_congr (fun t ht => (f3 t ht).1.2.2.2)
      refine ⟨K, by rw [← hg], ?_⟩
      refine ⟨fun a a1 a2 => ?_, ?_, ?_, ?_⟩
      · funext j; rw [f2 a j (by unfold plS; omega), kM a j (by omega), e2 a j (by unfold prS tkS; omega)]
      · rw [f5, kM 57 0 (by decide), e2 57 0 (by unfold prS tkS; omega)]
      · rw [f6, kM 59 0 (by decide), e2 59 0 (by unfold prS tkS; omega)]
      · funext j; rw [f2 64 j (by unfold plS; omega), kM 64 j (by omega), e2 64 j (by unfold prS tkS; omega)]
    · rw [df hk]
      refine ⟨I, ?_, cX_refl⟩
      by_cases c1 : k < 1
      · rw [dt c1]; rfl
      · rw [df c1, df (fun c => hk ⟨Int32.not_lt.mp c1, c⟩)]; rfl
theorem p_cut {m : Nat → Nat} (b s u : Int32) (wh : Bool) (g : rG I m) (r : RL I m) : ∃ J, Cl X (d + 5) 136 [vr 1, vi b, vi s, vi u, vi (b01 wh)] (pm_mm al D I L) = some (some (vi (vCut I m b s u wh)), pm_mm al D J L) ∧ cX I J := by
  have hm : ∀ i, i < 4 → m i ≤ 2 ∧ I 4 i = Int32.ofNat (m i) := fun i hi => ⟨(g.1 i hi).1, (r.1 i hi).trans (g.1 i hi).2⟩
  rw [Cl_s]
  show ∃ J, Rn X (d + 4) co_Ch_cut (0, [some (vr 1), some (vi b), some (vi s), some (vi u), some (vi (b01 wh)), none, none, none, none, none, none], [], pm_mm al D I L) = _ ∧ _
  rw [sg_Ch_cut_x_0, k_hasThree (d := d + 1) b s u hm]
  simp only [Option.bind_some, pm_ai, vCut]
  rw [Bool.and_comm (pm_in s (m 1))]
  cases hok : (pm_in b (m 0) && pm_in s (m 1) && pm_in u (m 2)) with
  | false => exact ⟨I, sg_Ch_cut_x0_7 .., cX_refl⟩
  | true =>
    simp only [Bool.and_eq_true] at hok
    obtain ⟨⟨o1, o2⟩, o3⟩ := hok
    obtain ⟨s', hs', es⟩ := in_nat o2
    obtain ⟨b', hb', eb⟩ := in_nat o1
    obtain ⟨u', hu', eu⟩ := in_nat o3
    have m0 := (g.1 0 (by omega)).1
    have m1 := (g.1 1 (by omega)).1
    have m2 := (g.1 2 (by omega)).1
    have hb2 : b' < 2 := by omega
    have hs2 : s' < 2 := by omega
    subst eb es eu
    obtain ⟨J, e1, e2, e3⟩ := k_takeBand (X := X) (d := d + 2) (al := al) (D := D) (L := L) (I := I) (q := 9 + 5 * b') (by omega)
    have hbd := bd_tk g r hb' e3
    have hn6 : (I 87 (29 * b')).toNatClampNeg ≤ 6 := hbd.1
    have J0 : ∀ a j, a < 49 → J a j = I a j := fun a j h => e2 a j (by unfold tkS; omega)
    have hnt : ntP J s' (scO I s') := nt_up (nt_of g r hs') hs2 (fun a j a1 a2 => J0 a j (by omega))
    have h8 : (scO I s').1 ≤ 8 := hnt.1.1
    have hp2 : 2 ^ (scO I s').1 ≤ 256 := Nat.pow_le_pow_right (n := 2) (by omega) h8
    have gB := bG_O g hb'
    have hww : ∀ x, ww (scO I s') (J (11 + 5 * b')) (I 87 (29 * b')).toNatClampNeg x = ww (scO I s') (fun p => I 87 (29 * b' + (11 + p))) (I 87 (29 * b')).toNatClampNeg x := fun x => by
      refine fo_congr _ _ (fun k a hk => ?_)
      by_cases hp : (scO I s').2.1 k < (I 87 (29 * b')).toNatClampNeg
      · rw [J0 _ _ (by omega), show 11 + 5 * b' = 9 + 5 * b' + 2 by omega, ((r.2.1 b' hb').2.2.2.2.2 _ hp).2.1]
      · rw [df hp, Bool.and_false]; rfl
    have loop : ∀ n out K o, out + n = 2 ^ (scO I s').1 → qcF J K → ∃ M, Rn X (d + 4) co_Ch_cut (52, [some (vr 1), some (vi (Int32.ofNat b')), some (vi (Int32.ofNat s')), some (vi (Int32.ofNat u')), some (vi (b01 wh)), some (vr (9 + 5 * b')), some (vr (19 + 4 * s')), some (vi (ct (bdO I b') (scO I s') (fun p => I 87 (29 * b' + (11 + p))) (I 89 u') out).1), some (vi (ct (bdO I b') (scO I s') (fun p => I 87 (29 * b' + (11 + p))) (I 89 u') out).2), some (vi (Int32.ofNat out)), o], [], pm_mm al D K L)
        = some (some (vi (cond wh (ct (bdO I b') (scO I s') (fun p => I 87 (29 * b' + (11 + p))) (I 89 u') (2 ^ (scO I s').1)).2 (ct (bdO I b') (scO I s') (fun p => I 87 (29 * b' + (11 + p))) (I 89 u') (2 ^ (scO I s').1)).1)), pm_mm al D M L) ∧ qcF J M := by
      intro n
      induction n with
      | zero =>
        intro out K o ho hK
        obtain rfl : out = 2 ^ (scO I s').1 := by omega
        refine ⟨K, ?_, hK⟩
        have K0 : K (19 + 4 * s') 0 = Int32.ofNat (scO I s').1 := (hK.1 _ 0 (by unfold plS; omega) (by omega)).trans hnt.2.1
        rw [sgb_Ch_cut_52 hb2 hs2, K0]
        simp (disch := omega) only [pw_shl, n_dle, dt, cond_true, b01_ne, sgb_Ch_cut_139]
        cases wh <;> rfl
      | succ n ih =>
        intro out K o ho hK
        have K0 : K (19 + 4 * s') 0 = Int32.ofNat (scO I s').1 := (hK.1 _ 0 (by unfold plS; omega) (by omega)).trans hnt.2.1
        have kn : ntP K s' (scO I s') := nt_up hnt hs2 (fun a j a1 a2 => hK.1 a j (by unfold plS; omega) (by omega))
        have kp : K (9 + 5 * b') 4 = Int32.ofNat (I 87 (29 * b')).toNatClampNeg := (hK.1 _ 4 (by unfold plS; omega) (by omega)).trans ((J0 _ 4 (by omega)).trans ((r.2.1 b' hb').1.trans (n_of (g.2.1 b' hb').2.1)))
        have k11 : K (11 + 5 * b') = J (11 + 5 * b') := by funext j; exact hK.1 _ j (by unfold plS; omega) (by omega)
        have hwl := k_worthLeft (X := X) (d := d + 3) (al := al) (D := D) (L := L) (I := K) (Int32.ofNat out) hb2 hs2 kn hn6 kp
        rw [k11, hww] at hwl
        have kbd : bdP K (bdO I b') := bd_up hbd (fun a j a1 a2 a3 => hK.1 a j (by unfold plS; omega) (by omega))
        have htn := k_takeNotesLeft (X := X) (d := d + 1) (al := al) (D := D) (L := L) (I := K) (Int32.ofNat out) hs2 kn hn6 kbd.2.1
        generalize hM : pm_ups K 52 (fun t => if t < 12 then wgs (scO I s') (fun k => !tb (Int32.ofNat out) k && decide ((scO I s').2.1 k < (I 87 (29 * b')).toNatClampNeg)) (fun _ => 0) (scO I s').1 t else K 52 t) = M at htn
        have kM : ∀ a j, a ≠ 52 → M a j = K a j := fun a j h => by rw [← hM, ups_ne h]
        have hpd : pdP M (bdO I b') (wgs (scO I s') (fun k => !tb (Int32.ofNat out) k) (fun _ => 0) (scO I s').1) := pd_of (bd_up kbd (fun a j a1 a2 a3 => kM a j (by omega))) (fun t ht i hi => by
          rw [← hM, ups_eq, if_pos ht, wg_mask _ (fun k => !tb (Int32.ofNat out) k) _ _ _ hi _ (fun k hk => (hnt.1.2 k hk).1)]; rfl)
        obtain ⟨P, p1, p2⟩ := k_wellB (X := X) (d := d + 1) (al := al) (D := D) (L := L) (I 89 u') 0 hpd
        have kz : bdP M (bdO I b') := bd_up kbd (fun a j a1 a2 a3 => kM a j (by omega))
        have hval : well (fun t => (pst (M 49 0, (bdO I b').2.1, M 49 1, M 49 2, (bdO I b').2.2.2.2.1, (bdO I b').2.2.2.2.2.1, (bdO I b').2.2.2.2.2.2) (wgs (scO I s') (fun k => !tb (Int32.ofNat out) k) (fun _ => 0) (scO I s').1) (trw (I 89 u') 0) (t + 1)).2.2.2.2.1) 0 12 = ctw (bdO I b') (scO I s') (I 89 u') out := by
          rw [kz.2.2.2.2.2.2.1, kz.2.2.2.2.2.2.2.1, kz.2.2.2.2.2.2.2.2]
          exact well_congr 12 0 (fun t _ ht => by rw [pst_trw gB])
        rw [hval] at p1
        have hP : qcF J P := ⟨fun a j a1 a2 => by rw [p2.1 a j a1, kM a j a2]; exact hK.1 a j a1 a2, by rw [p2.2.1, kM 57 0 (by omega)]; exact hK.2.1, by rw [p2.2.2, kM 59 0 (by omega)]; exact hK.2.2⟩
        have M7 : M 7 u' = I 89 u' := (kM 7 u' (by omega)).trans ((hK.1 7 u' (by unfold plS; omega) (by omega)).trans ((J0 7 u' (by omega)).trans (r.2.2.2.1 u' hu')))
        have hs1 : ct (bdO I b') (scO I s') (fun p => I 87 (29 * b' + (11 + p))) (I 89 u') (out + 1) = ct1 (fun out => ww (scO I s') (fun p => I 87 (29 * b' + (11 + p))) (I 87 (29 * b')).toNatClampNeg (Int32.ofNat out)) (ctw (bdO I b') (scO I s') (I 89 u')) out (ct (bdO I b') (scO I s') (fun p => I 87 (29 * b' + (11 + p))) (I 89 u') out) := rfl
        have ih' := fun K => ih (out + 1) K
        rw [hs1] at ih'
        rw [sgb_Ch_cut_52 hb2 hs2, K0]
        generalize ct (bdO I b') (scO I s') (fun p => I 87 (29 * b' + (11 + p))) (I 89 u') out = q at ih'
        rw [ct1] at ih'
        simp (disch := omega) only [pw_shl, n_dle, df, cond_false, hwl, Option.bind_some, pm_ai, sgb_Ch_cut_73 hb2 hs2, htn, pm_av, sgb_Ch_cut_93 hb2 hs2, n_in, dt, cond_true, n_tn, M7, p1, sgb_Ch_cut_110 hb2 hs2, b01_ne, sgb_Ch_cut_121 hb2 hs2, n_s]
        by_cases hc : ww (scO I s') (fun p => I 87 (29 * b' + (11 + p))) (I 87 (29 * b')).toNatClampNeg (Int32.ofNat out) ≤ q.1
        · rw [dt hc] at ih' ⊢
          exact ih' K _ (by omega) hK
        · rw [df hc] at ih' ⊢
          simp only [cond_false] at ih' ⊢
          cases hwl : ctw (bdO I b') (scO I s') (I 89 u') out with
          | true => rw [hwl] at ih'; exact ih' P _ (by omega) hP
          | false => rw [hwl] at ih'; exact ih' P _ (by omega) hP
    obtain ⟨M, f1, f2⟩ := loop (2 ^ (scO I s').1) 0 J none (by omega) ⟨fun _ _ _ _ => rfl, rfl, rfl⟩
    refine ⟨M, ?_, ?_⟩
    · refine Eq.trans (sgb_Ch_cut_7 (b := b') (s := s') hb2 hs2 ..) ?_
      rw [e1]
      simp only [Option.bind_some, pm_av, sgb_Ch_cut_43 hb2 hs2, n_tn (show b' < 2147483648 by omega), n_tn (show s' < 2147483648 by omega), n_tn (show u' < 2147483648 by omega)]
      exact f1
    · refine ⟨fun a a1 a2 => ?_, ?_, ?_, ?_⟩
      · funext j; rw [f2.1 a j (by unfold plS; omega) (by omega), e2 a j (by unfold tkS; omega)]
      · rw [f2.2.1, e2 57 0 (by unfold tkS; omega)]
      · rw [f2.2.2, e2 59 0 (by unfold tkS; omega)]
      · funext j; rw [f2.1 64 j (by unfold plS; omega) (by omega), e2 64 j (by unfold tkS; omega)]
theorem p_rank {m : Nat → Nat} (b s u k : Int32) (g : rG I m) (r : RL I m) : ∃ J, Cl X (d + 5) 133 [vr 1, vi b, vi s, vi u, vi k] (pm_mm al D I L) = some (some (vi (vRank I m b s u k)), pm_mm al D J L) ∧ cX I J := by
  have hm : ∀ i, i < 4 → m i ≤ 2 ∧ I 4 i = Int32.ofNat (m i) := fun i hi => ⟨(g.1 i hi).1, (r.1 i hi).trans (g.1 i hi).2⟩
  rw [Cl_s]
  show ∃ J, Rn X (d + 4) co_Ch_rank (0, [some (vr 1), some (vi b), some (vi s), some (vi u), some (vi k), none], [], pm_mm al D I L) = _ ∧ _
  rw [sg_Ch_rank_x_0, k_hasThree (d := d + 1) b s u hm]
  simp only [Option.bind_some, pm_ai, vRank]
  rw [Bool.and_comm (pm_in s (m 1))]
  cases hok : (pm_in b (m 0) && pm_in s (m 1) && pm_in u (m 2)) with
  | false => exact ⟨I, (sg_Ch_rank_x0_7 ..).trans (sgb_Ch_rank_33 ..), cX_refl⟩
  | true =>
    simp only [Bool.and_eq_true] at hok
    obtain ⟨⟨o1, o2⟩, o3⟩ := hok
    obtain ⟨s', hs', es⟩ := in_nat o2
    obtain ⟨b', hb', eb⟩ := in_nat o1
    obtain ⟨u', hu', eu⟩ := in_nat o3
    have m0 := (g.1 0 (by omega)).1
    have m1 := (g.1 1 (by omega)).1
    have m2 := (g.1 2 (by omega)).1
    have hb2 : b' < 2 := by omega
    have hs2 : s' < 2 := by omega
    subst eb es eu
    rw [n_tn (by omega), n_tn (by omega), n_tn (by omega)]
    have n6 := (g.2.1 b' hb').1
    have en := n_of (g.2.1 b' hb').2.1
    have hrg := rk_rng (k := k) n6 en
    have c7 := sgb_Ch_rank_7 (b := b') (s := s') hb2 hs2 X (d + 4) (Int32.ofNat u') k none 1 al D I L
    have I4 : I (9 + 5 * b') 4 = I 87 (29 * b') := (r.2.1 b' hb').1
    rw [show b01 true = 1 from rfl, c7, show decide ((1 : Int32) = 0) = false from rfl, cond_false, I4]
    cases hk1 : decide (k < -1) with
    | true =>
      rw [hk1] at hrg
      rw [← hrg]
      exact ⟨I, sgb_Ch_rank_33 .., cX_refl⟩
    | false =>
      cases hk2 : decide (k < I 87 (29 * b')) with
      | false =>
        rw [hk1, hk2] at hrg
        rw [← hrg]
        exact ⟨I, sgb_Ch_rank_33 .., cX_refl⟩
      | true =>
        rw [hk1, hk2] at hrg
        rw [← hrg]
        have hk : -1 ≤ k ∧ k ≤ Int32.ofNat (I 87 (29 * b')).toNatClampNeg - 1 := by
          rw [← en]; exact of_decide_eq_true hrg.symm
        obtain ⟨J, e1, e2, e3⟩ := k_prepare (X := X) (d := d + 1) (al := al) (D := D) (L := L) (I := I) (b := b') (s := s') hb2 hs2 (sR_gC (r.2.2.1 s' hs') (g.2.2.1 s' hs'))
        obtain ⟨hp, h0, h1, h2⟩ := k_pd g r hb' hs' e3
        have e7 : J 7 u' = I 89 u' := (e2 7 u' (by unfold prS tkS; omega)).trans (r.2.2.2.1 u' hu')
        obtain ⟨K, f1, f2, f3⟩ := k_bestDrawingRow (X := X) (d := d) (al := al) (D := D) (L := L) (I := J) (I 89 u') hp h0 h1 h2
        simp only [cond_false, cond_true]
        rw [e1]
        simp (disch := omega) only [Option.bind_some, pm_av, sgb_Ch_rank_41, n_in, dt, cond_true, n_tn, e7, f1, pm_ai, sgb_Ch_rank_54]
        refine ⟨K, ?_, ⟨fun a a1 a2 => ?_, ?_, ?_, ?_⟩⟩
        · show _ = some (some (vi (bsK (bst (rkv (bdO I b') (wn (scO I s')) (I 89 u')) (bdO I b').2.2.2.2.1) k)), pm_mm al D K L)
          rw [bsK]
          by_cases hk1 : k = -1
          · subst hk1; simp only [decide_true, cond_true, sgb_Ch_rank_74]
          · obtain ⟨k', hk', ek⟩ := k_rng n6 hk hk1
            rw [df hk1]
            subst ek
            simp (disch := omega) only [cond_false, n_in, dt, cond_true, n_tn, sgb_Ch_rank_74, f3 k' (by omega)]
        · funext j; rw [f2.1 a j (by unfold plS; omega) (by omega) (by omega), e2 a j (by unfold prS tkS; omega)]
        · rw [f2.2.1, e2 57 0 (by unfold prS tkS; omega)]
        · rw [f2.2.2, e2 59 0 (by unfold prS tkS; omega)]
        · funext j; rw [f2.1 64 j (by unfold plS; omega) (by omega) (by omega), e2 64 j (by unfold prS tkS; omega)]
theorem p_tour {m : Nat → Nat} (b k : Int32) (g : rG I m) (r : RL I m) : ∃ J, Cl X (d + 5) 145 [vr 1, vi b, vi k] (pm_mm al D I L) = some (some (vi (vTour I m b k)), pm_mm al D J L) ∧ cX I J := by
  rw [Cl_s]
  show ∃ J, Rn X (d + 4) co_Ch_tour (0, [some (vr 1), some (vi b), some (vi k), none], [], pm_mm al D I L) = _ ∧ _
  have m0 := (g.1 0 (by omega)).1
  have h1 : Cl X (d + 4) 93 [vr 2, vi 0, vi b] (pm_mm al D I L) = _ := k_has (d := d + 3) (s := 0) (m := m 0) b (by omega) m0 ((r.1 0 (by omega)).trans (g.1 0 (by omega)).2)
  rw [sg_Ch_tour_x_0, h1, vTour]
  simp only [Option.bind_some, pm_ai]
  cases hb : pm_in b (m 0) with
  | false => exact ⟨I, (sg_Ch_tour_x0_9 ..).trans (sgb_Ch_tour_33 ..), cX_refl⟩
  | true =>
    obtain ⟨b', hb', eb⟩ := in_nat hb
    subst eb
    have hb2 : b' < 2 := by omega
    rw [n_tn (by omega)]
    have n6 := (g.2.1 b' hb').1
    have en := n_of (g.2.1 b' hb').2.1
    have hrg := rk_rng (k := k) n6 en
    have c9 := sgb_Ch_tour_9 (b := b') hb2 X (d + 4) k none 1 al D I L
    have I4 : I (9 + 5 * b') 4 = I 87 (29 * b') := (r.2.1 b' hb').1
    rw [show b01 true = 1 from rfl, c9, show decide ((1 : Int32) = 0) = false from rfl, cond_false, I4]
    cases hk1 : decide (k < -1) with
    | true =>
      rw [hk1] at hrg
      rw [← hrg]
      exact ⟨I, sgb_Ch_tour_33 .., cX_refl⟩
    | false =>
      cases hk2 : decide (k < I 87 (29 * b')) with
      | false =>
        rw [hk1, hk2] at hrg
        rw [← hrg]
        exact ⟨I, sgb_Ch_tour_33 .., cX_refl⟩
      | true =>
        rw [hk1, hk2] at hrg
        rw [← hrg]
        have hk : -1 ≤ k ∧ k ≤ Int32.ofNat (I 87 (29 * b')).toNatClampNeg - 1 := by
          rw [← en]; exact of_decide_eq_true hrg.symm
        have gp := gP_O (sx := 0) (sy := 0) g hb' ⟨by decide, by decide⟩ ⟨by decide, by decide⟩
        obtain ⟨K, f1, f2, f3⟩ := k_shortestTour (X := X) (d := d) (al := al) (D := D) (L := L) (I := I) (P := PT I b' 0 0) hb2 n6 (cP_of g r hb') gp rfl
        simp only [cond_false, cond_true]
        rw [f1]
        simp only [Option.bind_some, pm_ai, sgb_Ch_tour_48]
        refine ⟨K, ?_, ⟨fun a a1 a2 => ?_, ?_, ?_, ?_⟩⟩
        · show _ = some (some (vi (bsK (bst (trv (PT I b' 0 0) (I 87 (29 * b')).toNatClampNeg) (I 87 (29 * b')).toNatClampNeg) k)), pm_mm al D K L)
          rw [bsK]
          by_cases hk1 : k = -1
          · subst hk1; simp only [decide_true, cond_true, sgb_Ch_tour_64]
          · obtain ⟨k', hk', ek⟩ := k_rng n6 hk hk1
            rw [df hk1]
            subst ek
            simp (disch := omega) only [cond_false, n_in, dt, cond_true, n_tn, sgb_Ch_tour_64, f3 k' (by omega)]
        · funext j; exact f2 a j (by omega) (by omega)
        · exact f2 57 0 (by omega) (by omega)
        · exact f2 59 0 (by omega) (by omega)
        · funext j; exact f2 64 j (by omega) (by omega)
theorem cX_la {J : Nat → Nat → Int32} (k2 : laF I J) : cX I J := ⟨fun a a1 a2 => by funext j; exact k2 a j (by omega) (by omega), k2 _ _ (by omega) (by omega), k2 _ _ (by omega) (by omega), by funext j; exact k2 _ j (by omega) (by omega)⟩
theorem p_leather {m : Nat → Nat} (b x : Int32) (g : rG I m) (r : RL I m) : ∃ J, Cl X (d + 5) 142 [vr 1, vi b, vi x] (pm_mm al D I L) = some (some (vi (vLeather I m b x)), pm_mm al D J L) ∧ cX I J := by
  rw [Cl_s]
  show ∃ J, Rn X (d + 4) co_Ch_leather (0, [some (vr 1), some (vi b), some (vi x), none], [], pm_mm al D I L) = _ ∧ _
  have m0 := (g.1 0 (by omega)).1
  have h1 : Cl X (d + 4) 93 [vr 2, vi 0, vi b] (pm_mm al D I L) = _ := k_has (d := d + 3) (s := 0) (m := m 0) b (by omega) m0 ((r.1 0 (by omega)).trans (g.1 0 (by omega)).2)
  rw [sg_Ch_leather_x_0, h1, vLeather]
  simp only [Option.bind_some, pm_ai]
  cases hb : pm_in b (m 0) with
  | false => exact ⟨I, sg_Ch_leather_x0_9 .., cX_refl⟩
  | true =>
    obtain ⟨b', hb', eb⟩ := in_nat hb
    subst eb
    have hb2 : b' < 2 := by omega
    rw [n_tn (by omega)]
    have n6 := (g.2.1 b' hb').1
    have hp2 := p2_le n6
    have hc := cP_of (sx := 0) (sy := 0) g r hb'
    have c9 := sgb_Ch_leather_9 (b := b') hb2 X (d + 4) x none 1 al D I L
    have hin := in_two (k := x) (n := 2 ^ (I 87 (29 * b')).toNatClampNeg) (by omega)
    rw [show b01 true = 1 from rfl, c9, show decide ((1 : Int32) = 0) = false from rfl, cond_false, hc.1, pw_shl (by omega), hin]
    cases hk1 : decide (x < 0) with
    | true => exact ⟨I, sgb_Ch_leather_38 .., cX_refl⟩
    | false =>
      cases hk2 : decide (x < Int32.ofNat (2 ^ (I 87 (29 * b')).toNatClampNeg)) with
      | false => exact ⟨I, sgb_Ch_leather_38 .., cX_refl⟩
      | true =>
        rw [hk1, hk2] at hin
        obtain ⟨K, k1, k2, k3⟩ := k_lay (X := X) (d := d) (al := al) (D := D) (L := L) (I := I) (P := PT I b' 0 0) x 0 0 hb2 n6 hc rfl (bits_in hin (by omega))
        simp only [cond_false, cond_true, k1, Option.bind_some, pm_ai, sgb_Ch_leather_51]
        exact ⟨K, rfl, fun a a1 a2 => by funext j; exact k2 a j (by omega) (by omega), k2 _ _ (by omega) (by omega), k2 _ _ (by omega) (by omega), by funext j; exact k2 _ j (by omega) (by omega)⟩
theorem p_joined {m : Nat → Nat} (b x : Int32) (g : rG I m) (r : RL I m) : ∃ J, Cl X (d + 5) 144 [vr 1, vi b, vi x] (pm_mm al D I L) = some (some (vi (vJoined I m b x)), pm_mm al D J L) ∧ cX I J := by
  rw [Cl_s]
  show ∃ J, Rn X (d + 4) co_Ch_joined (0, [some (vr 1), some (vi b), some (vi x), none], [], pm_mm al D I L) = _ ∧ _
  have m0 := (g.1 0 (by omega)).1
  have h1 : Cl X (d + 4) 93 [vr 2, vi 0, vi b] (pm_mm al D I L) = _ := k_has (d := d + 3) (s := 0) (m := m 0) b (by omega) m0 ((r.1 0 (by omega)).trans (g.1 0 (by omega)).2)
  rw [sg_Ch_joined_x_0, h1, vJoined]
  simp only [Option.bind_some, pm_ai]
  cases hb : pm_in b (m 0) with
  | false => exact ⟨I, (sg_Ch_joined_x0_9 ..).trans (sgb_Ch_joined_32 ..), cX_refl⟩
  | true =>
    obtain ⟨b', hb', eb⟩ := in_nat hb
    subst eb
    have hb2 : b' < 2 := by omega
    rw [n_tn (by omega)]
    have n6 := (g.2.1 b' hb').1
    have hc := cP_of (sx := 0) (sy := 0) g r hb'
    have c9 := sgb_Ch_joined_9 (b := b') hb2 X (d + 4) x none 1 al D I L
    have hin := in_two (k := x) (n := (I 87 (29 * b')).toNatClampNeg) (by omega)
    rw [show b01 true = 1 from rfl, c9, show decide ((1 : Int32) = 0) = false from rfl, cond_false, hc.1, hin]
    cases hk1 : decide (x < 0) with
    | true => exact ⟨I, sgb_Ch_joined_32 .., cX_refl⟩
    | false =>
      cases hk2 : decide (x < Int32.ofNat (I 87 (29 * b')).toNatClampNeg) with
      | false => exact ⟨I, sgb_Ch_joined_32 .., cX_refl⟩
      | true =>
        rw [hk1, hk2] at hin
        obtain ⟨x', hx', ex⟩ := in_nat hin
        subst ex
        obtain ⟨K, k1, k2, k3⟩ := k_lay (X := X) (d := d) (al := al) (D := D) (L := L) (I := I) (P := PT I b' 0 0) (mk1 (Int32.ofNat (I 87 (29 * b')).toNatClampNeg)) 0 0 hb2 n6 hc rfl (mk_bits n6)
        have k1 : Cl X (d + 4) 32 [vr 73, vr (9 + 5 * b'), vi ((1 <<< (Int32.ofNat (I 87 (29 * b')).toNatClampNeg &&& 31)) - 1), vi 0, vi 0] (pm_mm al D I L) = _ := k1
        simp (disch := omega) only [cond_false, cond_true, k1, Option.bind_some, pm_ai, sgb_Ch_joined_62, n_in, dt, n_tn]
        rw [k3 x' hx' (by rw [tb_mk n6 (by omega), dt hx'])]
        exact ⟨K, rfl, cX_la k2⟩
theorem p_centre {m : Nat → Nat} (b : Int32) (much : Bool) (g : rG I m) (r : RL I m) : ∃ J, Cl X (d + 5) 147 [vr 1, vi b, vi (b01 much)] (pm_mm al D I L) = some (some (vi (vCentre I m b much)), pm_mm al D J L) ∧ cX I J := by
  rw [Cl_s]
  show ∃ J, Rn X (d + 4) co_Ch_centre (0, [some (vr 1), some (vi b), some (vi (b01 much)), none, none, none, none, none], [], pm_mm al D I L) = _ ∧ _
  have m0 := (g.1 0 (by omega)).1
  have h1 : Cl X (d + 4) 93 [vr 2, vi 0, vi b] (pm_mm al D I L) = _ := k_has (d := d + 3) (s := 0) (m := m 0) b (by omega) m0 ((r.1 0 (by omega)).trans (g.1 0 (by omega)).2)
  rw [sg_Ch_centre_x_0, h1, vCentre]
  simp only [Option.bind_some, pm_ai]
  cases hb : pm_in b (m 0) with
  | false => exact ⟨I, sg_Ch_centre_x0_9 .., cX_refl⟩
  | true =>
    obtain ⟨b', hb', eb⟩ := in_nat hb
    subst eb
    have hb2 : b' < 2 := by omega
    rw [n_tn (by omega)]
    have n6 := (g.2.1 b' hb').1
    have hc0 := cP_of (sx := 0) (sy := 0) g r hb'
    have loop : ∀ n k K o7, k + n = 100 → laF I K → ∃ M, Rn X (d + 4) co_Ch_centre (35, [some (vr 1), some (vi (Int32.ofNat b')), some (vi (b01 much)), some (vr (9 + 5 * b')), some (vi (fo (cs1 (ctv I b')) k (1000000, 0)).1), some (vi (fo (cs1 (ctv I b')) k (1000000, 0)).2), some (vi (Int32.ofNat k)), o7], [], pm_mm al D K L) = some (some (vi (cond much (fo (cs1 (ctv I b')) 100 (1000000, 0)).1 (fo (cs1 (ctv I b')) 100 (1000000, 0)).2)), pm_mm al D M L) ∧ laF I M := by
      intro n
      induction n with
      | zero =>
        intro k K o7 hk hK
        obtain rfl : k = 100 := by omega
        refine ⟨K, ?_, hK⟩
        rw [sgb_Ch_centre_35 hb2]
        simp only [b01_ne, sgb_Ch_centre_102]
        cases much <;> rfl
      | succ n ih =>
        intro k K o7 hk hK
        have cK : cP K b' (I 87 (29 * b')).toNatClampNeg (PT I b' (Int32.ofNat (k / 10)) (Int32.ofNat (k % 10))) := cP_up (cP_of g r hb') hb2 (fun a j a1 a2 => hK a j (by omega) (by omega))
        obtain ⟨M, m1, m2, m3⟩ := k_lay (X := X) (d := d) (al := al) (D := D) (L := L) (I := K) (mk1 (Int32.ofNat (I 87 (29 * b')).toNatClampNeg)) (Int32.ofNat (k / 10)) (Int32.ofNat (k % 10)) hb2 n6 cK (by rw [PT, if_pos rfl]) (mk_bits n6)
        have m1 : Cl X (d + 4) 32 [vr 73, vr (9 + 5 * b'), vi ((1 <<< (Int32.ofNat (I 87 (29 * b')).toNatClampNeg &&& 31)) - 1), vi (Int32.ofNat (k / 10)), vi (Int32.ofNat (k % 10))] (pm_mm al D K L) = some (some (vi (ctv I b' k)), pm_mm al D M L) := m1
        obtain ⟨N, n1, n2⟩ := ih (k + 1) M (some (vi (ctv I b' k))) (by omega) (fun a j a1 a2 => (m2 a j a1 a2).trans (hK a j a1 a2))
        refine ⟨N, ?_, n2⟩
        rw [← n1]
        rw [sgb_Ch_centre_35 hb2, cK.1]
        simp (disch := omega) only [lr1, lr2, lr3, lr4, lr5, lr6, lr7, lr8, lr9, lr10, lr11, lr12, lr13, lr20, lr24, lr60, lr64, lr84, lr99, lr100, lr600, lr720, lr4096, lr1000000]
        simp (disch := omega) only [a0, a1, a2, a3, a4, a5, a6, a7, a8, a9, a10, a11, a12, a13, a20, a24, a60, a64, a84, a99, a100, a600, a720, a4096, a1000000, df, cond_false, ld1, ld2, ld3, ld4, ld5, ld6, ld7, ld8, ld9, ld10, ld11, ld12, ld13, ld20, ld24, ld60, ld64, ld84, ld99, ld100, ld600, ld720, ld4096, ld1000000, m1, Option.bind_some, pm_ai, sgb_Ch_centre_68 hb2, sgb_Ch_centre_85 hb2, n_s]
        rw [fo]
        generalize fo (cs1 (ctv I b')) k (1000000, 0) = s
        rw [cs1]
        cases decide (s.1 ≤ ctv I b' k) <;> rfl
    obtain ⟨M, f1, f2⟩ := loop 100 0 I none rfl (fun _ _ _ _ => rfl)
    have h0 := (ctv_rg (k := 0) g hb' (by omega)).2
    have hl1 : ctv I b' 0 < 1000000 := by rw [t_lt]; have e : (1000000 : Int32).toInt = 1000000 := rfl; omega
    have hl2 : ctv I b' 0 < 1000000 := by rw [t_lt]; have e : (1000000 : Int32).toInt = 1000000 := rfl; omega
    rw [cs_shift (f := ctv I b') (z := 0) hl1 hl2 99] at f1
    refine ⟨M, ?_, cX_la f2⟩
    refine Eq.trans (sgb_Ch_centre_9 (b := b') hb2 ..) ?_
    exact f1
theorem p_leaves {m : Nat → Nat} (b : Int32) (g : rG I m) (r : RL I m) : ∃ J, Cl X (d + 5) 148 [vr 1, vi b] (pm_mm al D I L) = some (some (vi (vLeaves I m b)), pm_mm al D J L) ∧ cX I J := by
  rw [Cl_s]
  show ∃ J, Rn X (d + 4) co_Ch_leaves (0, [some (vr 1), some (vi b), none, none, none], [], pm_mm al D I L) = _ ∧ _
  have m0 := (g.1 0 (by omega)).1
  have h1 : Cl X (d + 4) 93 [vr 2, vi 0, vi b] (pm_mm al D I L) = _ := k_has (d := d + 3) (s := 0) (m := m 0) b (by omega) m0 ((r.1 0 (by omega)).trans (g.1 0 (by omega)).2)
  rw [sg_Ch_leaves_x_0, h1, vLeaves]
  simp only [Option.bind_some, pm_ai]
  cases hb : pm_in b (m 0) with
  | false => exact ⟨I, sg_Ch_leaves_x0_9 .., cX_refl⟩
  | true =>
    obtain ⟨b', hb', eb⟩ := in_nat hb
    subst eb
    have hb2 : b' < 2 := by omega
    rw [n_tn (by omega)]
    have n6 := (g.2.1 b' hb').1
    have hp2 := p2_le n6
    have hp1 : 1 ≤ 2 ^ (I 87 (29 * b')).toNatClampNeg := Nat.one_le_two_pow
    have hc0 := cP_of (sx := 0) (sy := 0) g r hb'
    have FL : ∀ K, laF I K → ∀ set : Int32, (∀ k, k < 32 → tb set k = true → k < (I 87 (29 * b')).toNatClampNeg) → ∃ M, Cl X (d + 4) 32 [vr 73, vr (9 + 5 * b'), vi set, vi 0, vi 0] (pm_mm al D K L) = some (some (vi (lv (PT I b' 0 0) (I 87 (29 * b')).toNatClampNeg set).1), pm_mm al D M L) ∧ laF I M := fun K hK set hset => by
      obtain ⟨M, m1, m2, m3⟩ := k_lay (X := X) (d := d) (al := al) (D := D) (L := L) (I := K) (P := PT I b' 0 0) set 0 0 hb2 n6 (cP_up hc0 hb2 (fun a j a1 a2 => hK a j (by omega) (by omega))) rfl hset
      exact ⟨M, m1, fun a j a1 a2 => (m2 a j a1 a2).trans (hK a j a1 a2)⟩
    obtain ⟨K, k1, k2⟩ := FL I (fun _ _ _ _ => rfl) (mk1 (Int32.ofNat (I 87 (29 * b')).toNatClampNeg)) (mk_bits n6)
    have k1 : Cl X (d + 4) 32 [vr 73, vr (9 + 5 * b'), vi ((1 <<< (Int32.ofNat (I 87 (29 * b')).toNatClampNeg &&& 31)) - 1), vi 0, vi 0] (pm_mm al D I L) = _ := k1
    have loop : ∀ n k K, k + n = 2 ^ (I 87 (29 * b')).toNatClampNeg → laF I K → ∃ M, Rn X (d + 4) co_Ch_leaves (46, [some (vr 1), some (vi (Int32.ofNat b')), some (vr (9 + 5 * b')), some (vi (lv (PT I b' 0 0) (I 87 (29 * b')).toNatClampNeg (mk1 (Int32.ofNat (I 87 (29 * b')).toNatClampNeg))).1), some (vi (Int32.ofNat k))], [], pm_mm al D K L) = some (some (vi (fv (lvf I b') k n)), pm_mm al D M L) ∧ laF I M := by
      intro n
      induction n with
      | zero =>
        intro k K hk hK
        refine ⟨K, ?_, hK⟩
        rw [sgb_Ch_leaves_46 hb2, (hK _ _ (by omega) (by omega)).trans hc0.1, pw_shl (by omega)]
        simp (disch := omega) only [n_dle, dt, cond_true, fv]
      | succ n ih =>
        intro k K hk hK
        obtain ⟨M, m1, m2⟩ := FL K hK (Int32.ofNat k) (bits_in (in_nn (by omega) (by omega)) (by omega))
        obtain ⟨N, n1, n2⟩ := ih (k + 1) M (by omega) m2
        have M4 : M (9 + 5 * b') 4 = Int32.ofNat (I 87 (29 * b')).toNatClampNeg := (m2 _ _ (by omega) (by omega)).trans hc0.1
        have bc := k_bitCount (X := X) (d := d + 3) (al := al) (D := D) (L := L) (I := M) (x := Int32.ofNat k) (by rw [n_ti (by omega)]; omega) (by rw [n_ti (by omega)]; omega)
        rw [sgb_Ch_leaves_46 hb2, (hK _ _ (by omega) (by omega)).trans hc0.1, pw_shl (by omega)]
        simp (disch := omega) only [n_dle, df, cond_false, m1, Option.bind_some, pm_ai, sgb_Ch_leaves_69 hb2, bc, sgb_Ch_leaves_80 hb2, M4, n_s, fv, lvf]
        cases decide ((lv (PT I b' 0 0) (I 87 (29 * b')).toNatClampNeg (mk1 (Int32.ofNat (I 87 (29 * b')).toNatClampNeg))).1 * on (Int32.ofNat k) ≤ (lv (PT I b' 0 0) (I 87 (29 * b')).toNatClampNeg (Int32.ofNat k)).1 * Int32.ofNat (I 87 (29 * b')).toNatClampNeg) with
        | true => exact ⟨N, n1, n2⟩
        | false => exact ⟨M, rfl, m2⟩
    obtain ⟨M, f1, f2⟩ := loop (2 ^ (I 87 (29 * b')).toNatClampNeg - 1) 1 K (by omega) k2
    refine ⟨M, ?_, cX_la f2⟩
    refine Eq.trans (sgb_Ch_leaves_9 (b := b') hb2 ..) ?_
    rw [hc0.1, show decide (b01 true = 0) = false from rfl, cond_false, k1]
    simp only [Option.bind_some, pm_ai, sgb_Ch_leaves_42 hb2]
    exact f1
theorem p_share {m : Nat → Nat} (b x : Int32) (under : Bool) (g : rG I m) (r : RL I m) : ∃ J, Cl X (d + 5) 143 [vr 1, vi b, vi x, vi (b01 under)] (pm_mm al D I L) = some (some (vl (vShare I m b x under)), pm_mm al D J L) ∧ cX I J := by
  rw [Cl_s]
  show ∃ J, Rn X (d + 4) co_Ch_share (0, [some (vr 1), some (vi b), some (vi x), some (vi (b01 under)), none, none, none, none, none, none, none], [], pm_mm al D I L) = _ ∧ _
  have m0 := (g.1 0 (by omega)).1
  have h1 : Cl X (d + 4) 93 [vr 2, vi 0, vi b] (pm_mm al D I L) = _ := k_has (d := d + 3) (s := 0) (m := m 0) b (by omega) m0 ((r.1 0 (by omega)).trans (g.1 0 (by omega)).2)
  rw [sg_Ch_share_x_0, h1, vShare]
  simp only [Option.bind_some, pm_ai]
  cases hb : pm_in b (m 0) with
  | false => exact ⟨I, (sg_Ch_share_x0_9 ..).trans (sgb_Ch_share_32 ..), cX_refl⟩
  | true =>
    obtain ⟨b', hb', eb⟩ := in_nat hb
    subst eb
    have hb2 : b' < 2 := by omega
    rw [n_tn (by omega)]
    have n6 := (g.2.1 b' hb').1
    have hp2 := p2_le n6
    have hc := cP_of (sx := 0) (sy := 0) g r hb'
    have gp := gP_O (sx := 0) (sy := 0) g hb' ⟨by decide, by decide⟩ ⟨by decide, by decide⟩
    have c9 := sgb_Ch_share_9 (b := b') hb2 X (d + 4) x (b01 under) none none none none none none none 1 al D I L
    have hin := in_two (k := x) (n := (I 87 (29 * b')).toNatClampNeg) (by omega)
    rw [show b01 true = 1 from rfl, c9, show decide ((1 : Int32) = 0) = false from rfl, cond_false, hc.1, hin]
    generalize hn : (I 87 (29 * b')).toNatClampNeg = n at *
    cases hk1 : decide (x < 0) with
    | true => exact ⟨I, sgb_Ch_share_32 .., cX_refl⟩
    | false =>
      cases hk2 : decide (x < Int32.ofNat n) with
      | false => exact ⟨I, sgb_Ch_share_32 .., cX_refl⟩
      | true =>
        rw [hk1, hk2] at hin
        obtain ⟨x', hx', ex⟩ := in_nat hin
        subst ex
        rw [n_tn (by omega)]
        have FL : ∀ K, laF I K → ∀ set : Int32, (∀ k, k < 32 → tb set k = true → k < n) → ∃ M, Cl X (d + 4) 32 [vr 73, vr (9 + 5 * b'), vi set, vi 0, vi 0] (pm_mm al D K L) = some (some (vi (lv (PT I b' 0 0) n set).1), pm_mm al D M L) ∧ laF I M := fun K hK set hset => by
          obtain ⟨M, m1, m2, m3⟩ := k_lay (X := X) (d := d) (al := al) (D := D) (L := L) (I := K) (P := PT I b' 0 0) set 0 0 hb2 n6 (cP_up hc hb2 (fun a j a1 a2 => hK a j (by omega) (by omega))) rfl hset
          exact ⟨M, m1, fun a j a1 a2 => (m2 a j a1 a2).trans (hK a j a1 a2)⟩
        have loop : ∀ i k K o8 o9 o10, k + i = 2 ^ n → laF I K → ∃ M, Rn X (d + 4) co_Ch_share (53, [some (vr 1), some (vi (Int32.ofNat b')), some (vi (Int32.ofNat x')), some (vi (b01 under)), some (vr (9 + 5 * b')), some (vl (fo (sh1 (PT I b' 0 0) n x') k 0)), none, some (vi (Int32.ofNat k)), o8, o9, o10], [], pm_mm al D K L) = some (some (vl (pa (fo (sh1 (PT I b' 0 0) n x') (2 ^ n) 0) (Int64.ofNat (fac n)) under)), pm_mm al D M L) ∧ laF I M := by
          intro i
          induction i with
          | zero =>
            intro k K o8 o9 o10 hk hK
            obtain rfl : k = 2 ^ n := by omega
            refine ⟨K, ?_, hK⟩
            have hf := fac_rg n6
            have hrg := sh_rg gp n6 hx' (2 ^ n) hp2
            have hpt := k_part (X := X) (d := d + 2) (al := al) (D := D) (I := K) (L := L) (up := fo (sh1 (PT I b' 0 0) n x') (2 ^ n) 0) (down := Int64.ofNat (fac n)) under (by omega) (by rw [u_ti (by omega)]; omega) (by rw [u_ti (by omega)]; omega)
            rw [sgb_Ch_share_53 hb2, (hK _ _ (by omega) (by omega)).trans hc.1, pw_shl (by omega)]
            simp (disch := omega) only [n_dle, dt, cond_true, k_factorial, Option.bind_some, pm_al, sgb_Ch_share_158, hpt, sgb_Ch_share_162]
          | succ i ih =>
            intro k K o8 o9 o10 hk hK
            have hkb := bits_in (in_nn (v := k) (n := 2 ^ n) (by omega) (by omega)) (by omega)
            rw [sgb_Ch_share_53 hb2, (hK _ _ (by omega) (by omega)).trans hc.1, pw_shl (by omega)]
            have ih' := fun K o8 o9 o10 => ih (k + 1) K o8 o9 o10 (by omega)
            simp only [fo] at ih'
            rw [sh1] at ih'
            simp (disch := omega) only [n_dle, df, cond_false, hs0_tb, sgb_Ch_share_142 hb2, n_s]
            cases hbx : tb (Int32.ofNat k) x' with
            | true =>
              rw [hbx] at ih'
              exact ih' K o8 o9 o10 hK
            | false =>
              rw [hbx] at ih'
              have hcn := cn_free (f := fun q => tb (Int32.ofNat k) q) hbx hx'
              have hon := on_n (by omega) hkb
              generalize cn (fun q => tb (Int32.ofNat k) q) n = s at hcn hon ih'
              obtain ⟨M, m1, m2⟩ := FL K hK (Int32.ofNat k ||| (1 <<< (Int32.ofNat x' &&& 31))) (fun q hq hb => by
                rw [tb_or, tb_shl (by omega) hq, Bool.or_eq_true, decide_eq_true_iff] at hb
                rcases hb with hb | hb
                · exact hkb q hq hb
                · omega)
              obtain ⟨N, n1, n2⟩ := FL M m2 (Int32.ofNat k) hkb
              have K4 := (hK (9 + 5 * b') 4 (by omega) (by omega)).trans hc.1
              have bc := k_bitCount (X := X) (d := d + 3) (al := al) (D := D) (L := L) (I := K) (x := Int32.ofNat k) (by rw [n_ti (by omega)]; omega) (by rw [n_ti (by omega)]; omega)
              simp (disch := omega) only [Bool.not_false, cond_true, bc, Option.bind_some, pm_ai, hon, sgb_Ch_share_79 hb2, k_factorial, pm_al, sgb_Ch_share_86 hb2, K4, ls0, ls1, ls2, ls3, ls4, ls5, ls6, ls7, ls8, ls9, ls10, ls11, ls12, ls13, ls20, ls24, ls60, ls64, ls84, ls99, ls100, ls600, ls720, ls4096, ls1000000, n_sub, sgb_Ch_share_99 hb2, m1, sgb_Ch_share_123 hb2, n1, sgb_Ch_share_136 hb2, sgb_Ch_share_142 hb2, n_s, un_mul]
              exact ih' N _ _ _ n2
        obtain ⟨M, f1, f2⟩ := loop (2 ^ n) 0 I none none none (by omega) (fun _ _ _ _ => rfl)
        exact ⟨M, f1, cX_la f2⟩
theorem p_shift {m : Nat → Nat} (b s u dd k : Int32) (g : rG I m) (r : RL I m) (z : cZ I) : ∃ J, Cl X (d + 16) 135 [vr 1, vi b, vi s, vi u, vi dd, vi k] (pm_mm al D I L) = some (some (vi (vShift I m b s u dd k)), pm_mm al D J L) ∧ cX I J := by
  have hm : ∀ i, i < 4 → m i ≤ 2 ∧ I 4 i = Int32.ofNat (m i) := fun i hi => ⟨(g.1 i hi).1, (r.1 i hi).trans (g.1 i hi).2⟩
  rw [Cl_s]
  show ∃ J, Rn X (d + 15) co_Ch_shift (0, [some (vr 1), some (vi b), some (vi s), some (vi u), some (vi dd), some (vi k), none, none], [], pm_mm al D I L) = _ ∧ _
  rw [sg_Ch_shift_x_0, k_hasThree (d := d + 12) b s u hm]
  simp only [Option.bind_some, pm_ai, vShift]
  rw [Bool.and_comm (pm_in s (m 1))]
  cases hok : (pm_in b (m 0) && pm_in s (m 1) && pm_in u (m 2)) with
  | false => exact ⟨I, (sg_Ch_shift_x0_7 ..).trans (sgb_Ch_shift_21 ..), cX_refl⟩
  | true =>
    simp only [Bool.and_eq_true] at hok
    obtain ⟨⟨o1, o2⟩, o3⟩ := hok
    obtain ⟨s', hs', es⟩ := in_nat o2
    obtain ⟨b', hb', eb⟩ := in_nat o1
    obtain ⟨u', hu', eu⟩ := in_nat o3
    have m0 := (g.1 0 (by omega)).1
    have m1 := (g.1 1 (by omega)).1
    have m2 := (g.1 2 (by omega)).1
    have hb2 : b' < 2 := by omega
    have hs2 : s' < 2 := by omega
    subst eb es eu
    rw [n_tn (show b' < 2147483648 by omega), n_tn (show s' < 2147483648 by omega), n_tn (show u' < 2147483648 by omega)]
    obtain ⟨⟨g1, g2⟩, g3, g4⟩ := g.2.2.1 s' hs'
    have h8 : (scO I s').1 ≤ 8 := g1
    have eN : I 88 (25 * s') = Int32.ofNat (scO I s').1 := n_of g3
    have cN : I (19 + 4 * s') 0 = Int32.ofNat (scO I s').1 := (nt_of g r hs').2.1
    have h7 : ∀ o6 o7, Rn X (d + 15) co_Ch_shift (7, [some (vr 1), some (vi (Int32.ofNat b')), some (vi (Int32.ofNat s')), some (vi (Int32.ofNat u')), some (vi dd), some (vi k), o6, o7], [vi (b01 true)], pm_mm al D I L) = _ := fun o6 o7 => sgb_Ch_shift_7 hb2 hs2 X (d + 15) (Int32.ofNat u') dd k o6 o7 (b01 true) al D I L
    rw [h7, b01_ne, Bool.not_true, cond_false, eN, cN, okS, sgb_Ch_shift_21, sgb_Ch_shift_50]
    have d1 : decide (dd < 0) = !decide (0 ≤ dd) := d_ltle ..
    have d2 : decide (k < -1) = !decide (-1 ≤ k) := d_ltle ..
    rw [d1, d2]
    cases c1 : decide (0 ≤ dd) with
    | false => exact ⟨I, rfl, cX_refl⟩
    | true =>
      cases c2 : decide (dd ≤ 2) with
      | false => exact ⟨I, rfl, cX_refl⟩
      | true =>
        cases c3 : decide (-1 ≤ k) with
        | false => exact ⟨I, rfl, cX_refl⟩
        | true =>
          cases c4 : decide (k < Int32.ofNat (scO I s').1) with
          | false => exact ⟨I, rfl, cX_refl⟩
          | true =>
            simp only [Bool.not_true, cond_false, cond_true, Bool.and_self]
            have c1 := of_decide_eq_true c1
            have c2 := of_decide_eq_true c2
            have c3 := of_decide_eq_true c3
            have c4 := of_decide_eq_true c4
            obtain ⟨J, e1, e2, e3⟩ := k_takeBand (X := X) (d := d + 13) (al := al) (D := D) (L := L) (I := I) (q := 9 + 5 * b') (by omega)
            have hbd := bd_tk g r hb' e3
            have J0 : ∀ a j, a < 49 → J a j = I a j := fun a j h => e2 a j (by unfold tkS; omega)
            have hnt : ntP J s' (scO I s') := nt_up (nt_of g r hs') hs2 (fun a j a1 a2 => J0 a j (by omega))
            have ed : dd = Int32.ofNat dd.toNatClampNeg := n_of c1
            have hd2 : dd.toNatClampNeg ≤ 2 := by
              have c2 := t_le.mp c2
              have : (2 : Int32).toInt = 2 := rfl
              rw [t_tn]; omega
            generalize dd.toNatClampNeg = f at ed hd2
            subst ed
            obtain ⟨M, f1, f2, f3⟩ := k_search (X := X) (d := d) (al := al) (D := D) (L := L) (S := scO I s') (set := I 89 u') hs2 (bG_O g hb') (fun i hi => rw_O i hi hbd.1) hd2 hbd hnt (fun j hj => (e2 64 j (by unfold tkS; omega)).trans (z.2.2 j hj))
            have J7 : J 7 u' = I 89 u' := (J0 7 u' (by omega)).trans (r.2.2.2.1 u' hu')
            refine ⟨M, ?_, ?_⟩
            · rw [e1]
              simp only [Option.bind_some, pm_av]
              rw [sg_Ch_shift_x_68, n_in (by omega), dt (show u' < 2 by omega), cond_true, n_tn (by omega), J7, f1]
              simp only [Option.bind_some, pm_ai]
              rw [sg_Ch_shift_x_92, sg_Ch_shift_x_127, sg_Ch_shift_x_127, b01_ne]
              show _ = some (some (vi (cond (decide ((bSh I b' s' u' f).1 < 1000000)) (cond (decide (k = -1)) (Int32.ofNat (bSh I b' s' u' f).1) (Int32.ofNat (sfd (f + 1) (scO I s').1 (bSh I b' s' u' f).2 k.toNatClampNeg))) (-1))), _)
              have f3 : SB M (scO I s') (I 89 u') f (bSh I b' s' u' f) := f3
              refine Eq.trans (show _ = cond (!decide ((bSh I b' s' u' f).1 < 1000000)) _ _ from rfl) ?_
              generalize bSh I b' s' u' f = q at f3
              by_cases hq : q.1 < 1000000
              · obtain ⟨w1, w2⟩ := f3.2.2.2.2 hq
                rw [dt hq, w1]
                simp only [Bool.not_true, cond_false, cond_true]
                by_cases hk : k = -1
                · rw [dt hk]; rfl
                · have hk0 : 0 ≤ k := by
                    rw [t_le] at c3 ⊢
                    rw [t_eq] at hk
                    have a1 : (-1 : Int32).toInt = -1 := rfl
                    have a2 : (0 : Int32).toInt = 0 := rfl
                    omega
                  have hkN : k.toNatClampNeg < (scO I s').1 := by
                    rw [t_lt, n_ti (by omega)] at c4
                    rw [t_le] at hk0
                    have a2 : (0 : Int32).toInt = 0 := rfl
                    rw [t_tn]; omega
                  have hin : pm_in k 8 = true := by rw [n_of hk0, n_in (by omega)]; exact dt (by omega)
                  rw [df hk, hin, w2 _ hkN]; rfl
              · rw [df hq]; rfl
            · refine ⟨fun a a1 a2 => ?_, ?_, ?_, ?_⟩
              · funext j; rw [f2.1 a j (by unfold plS; omega) (by omega) (by omega), e2 a j (by unfold tkS; omega)]
              · rw [f2.2.1, e2 57 0 (by unfold tkS; omega)]
              · rw [f2.2.2, e2 59 0 (by unfold tkS; omega)]
              · funext j; rw [f2.1 64 j (by unfold plS; omega) (by omega) (by omega), e2 64 j (by unfold tkS; omega)]
end
