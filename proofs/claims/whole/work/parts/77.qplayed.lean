section
variable {X : Nat × (Nat → Int32)} {d : Nat} {al : List Nat} {D : Nat → Bool} {I : Nat → Nat → Int32} {L : Nat → Nat → Int64}
/-- the class was told what the reference was told -/
def bR (I : Nat → Nat → Int32) (b : Nat) : Prop := I (9 + 5 * b) 4 = I 87 (29 * b) ∧ I (9 + 5 * b) 0 = I 87 (29 * b + 1) ∧ I (9 + 5 * b) 1 = I 87 (29 * b + 2) ∧ I (9 + 5 * b) 2 = I 87 (29 * b + 3) ∧ I (9 + 5 * b) 3 = I 87 (29 * b + 4)
  ∧ ∀ p, p < (I 87 (29 * b)).toNatClampNeg → I (9 + 5 * b + 1) p = I 87 (29 * b + (5 + p)) ∧ I (9 + 5 * b + 2) p = I 87 (29 * b + (11 + p)) ∧ I (9 + 5 * b + 3) p = I 87 (29 * b + (17 + p)) ∧ I (9 + 5 * b + 4) p = I 87 (29 * b + (23 + p))
def sR (I : Nat → Nat → Int32) (s : Nat) : Prop := I (19 + 4 * s) 0 = I 88 (25 * s) ∧ ∀ k, k < (I 88 (25 * s)).toNatClampNeg → I (19 + 4 * s + 1) k = I 88 (25 * s + 1 + 3 * k + 0) ∧ I (19 + 4 * s + 2) k = I 88 (25 * s + 1 + 3 * k + 1) ∧ I (19 + 4 * s + 3) k = I 88 (25 * s + 1 + 3 * k + 2)
def lR (I : Nat → Nat → Int32) (l : Nat) : Prop := I (27 + 3 * l) 0 = I 90 (17 * l) ∧ ∀ k, k < (I 90 (17 * l)).toNatClampNeg → I (27 + 3 * l + 1) k = I 90 (17 * l + 1 + 2 * k + 0) ∧ I (27 + 3 * l + 2) k = I 90 (17 * l + 1 + 2 * k + 1)
def RL (I : Nat → Nat → Int32) (m : Nat → Nat) : Prop := (∀ i, i < 4 → I 4 i = I 86 i) ∧ (∀ b, b < m 0 → bR I b) ∧ (∀ s, s < m 1 → sR I s) ∧ (∀ u, u < m 2 → I 7 u = I 89 u) ∧ (∀ l, l < m 3 → lR I l)
  ∧ (∀ k, k < 600 → I 3 k = I 82 k) ∧ I 2 1 = I 83 0 ∧ I 2 2 = I 84 0 ∧ I 2 3 = I 85 0
/-- a question of the class leaves what both were told -/
def cF (I J : Nat → Nat → Int32) : Prop := (∀ a, ¬ (34 ≤ a ∧ a ≤ 80) → ¬ (220 ≤ a ∧ a < 232) → J a = I a) ∧ J 57 0 = I 57 0 ∧ J 59 0 = I 59 0 ∧ J 64 = I 64
theorem cF_refl : cF I I := ⟨fun _ _ _ => rfl, rfl, rfl, rfl⟩
theorem cF.trans {I J K : Nat → Nat → Int32} (h : cF I J) (g : cF J K) : cF I K := ⟨fun a h1 h2 => (g.1 a h1 h2).trans (h.1 a h1 h2), g.2.1.trans h.2.1, g.2.2.1.trans h.2.2.1, g.2.2.2.trans h.2.2.2⟩
/-- cells of the class that hold nothing, always -/
def cZ (I : Nat → Nat → Int32) : Prop := I 57 0 = 0 ∧ I 59 0 = 0 ∧ ∀ j, j < 12 → I 64 j = 0
theorem cZ_up {I J : Nat → Nat → Int32} (z : cZ I) (h : cF I J) : cZ J := ⟨h.2.1.trans z.1, h.2.2.1.trans z.2.1, fun j hj => by rw [h.2.2.2]; exact z.2.2 j hj⟩
theorem cF_pt {I J K : Nat → Nat → Int32} (e2 : ∀ a j, ¬ prS a j → J a j = I a j) (f2 : ∀ a j, ¬ plS a j → K a j = J a j) (h1 : K 57 0 = J 57 0) (h2 : K 59 0 = J 59 0) : cF I K := by
  refine ⟨fun a h1 h2 => ?_, ?_, ?_, ?_⟩
  · funext j; rw [f2 a j (by unfold plS; omega), e2 a j (by unfold prS tkS; omega)]
  · rw [h1, e2 57 0 (by unfold prS tkS; omega)]
  · rw [h2, e2 59 0 (by unfold prS tkS; omega)]
  · funext j; rw [f2 64 j (by unfold plS; omega), e2 64 j (by unfold prS tkS; omega)]
theorem sR_wn {s : Nat} (h : sR I s) (t : Nat) : wn (scC I (19 + 4 * s)) t = wn (scO I s) t := by
  have e : (scC I (19 + 4 * s)).1 = (scO I s).1 := congrArg Int32.toNatClampNeg h.1
  rw [wn, wn, e]
  refine fo_congr _ _ (fun k a hk => ?_)
  obtain ⟨h1, h2, h3⟩ := h.2 k hk
  have e1 : (scC I (19 + 4 * s)).2.1 k = (scO I s).2.1 k := congrArg Int32.toNatClampNeg h1
  have e2 : (scC I (19 + 4 * s)).2.2.1 k = (scO I s).2.2.1 k := congrArg Int32.toNatClampNeg h2
  have e3 : (scC I (19 + 4 * s)).2.2.2 k = (scO I s).2.2.2 k := congrArg Int32.toNatClampNeg h3
  rw [wn1, wn1, e1, e2, e3]
theorem sR_gC {s : Nat} (h : sR I s) (g : gS I s) : gC I (19 + 4 * s) := by
  have e : (scC I (19 + 4 * s)).1 = (scO I s).1 := congrArg Int32.toNatClampNeg h.1
  refine ⟨⟨by rw [e]; exact g.1.1, fun k hk => ?_⟩, by rw [h.1]; exact g.2.1, fun k hk => ?_⟩
  · rw [e] at hk
    obtain ⟨h1, h2, h3⟩ := h.2 k hk
    have := g.1.2 k hk
    simp only [scC, scO, h1, h2, h3] at this ⊢
    exact this
  · rw [e] at hk
    obtain ⟨h1, h2, h3⟩ := h.2 k hk
    rw [h1, h2, h3]; exact g.2.2 k hk
theorem prm_id {rw : Nat → Int32} {n : Nat} (hn : n ≤ 6) (h : ∀ p, p < 6 → rw p = Int32.ofNat p) : prm rw n := by
  refine ⟨fun i hi => ⟨i, hi, h i (by omega)⟩, fun p hp => ⟨p, hp, h p (by omega)⟩, fun i j hi hj e => ?_⟩
  rw [h i (by omega), h j (by omega)] at e
  exact (n_eq (by omega) (by omega)).mp e
/-- band b and score s, prepared and played through by the class: the reference's play -/
theorem k_prepared {m : Nat → Nat} {b s : Nat} {J : Nat → Nat → Int32} (g : rG I m) (r : RL I m) (hb : b < m 0) (hsm : s < m 1) (h : prP I J b s) :
    (I 87 (29 * b)).toNatClampNeg ≤ 6 ∧ J 49 3 = Int32.ofNat (I 87 (29 * b)).toNatClampNeg ∧ prm (J 51) (I 87 (29 * b)).toNatClampNeg ∧ (∀ t, t < 12 → ∀ k, k < 32 → tb (J 52 t) k = true → k < (I 87 (29 * b)).toNatClampNeg)
    ∧ ∀ tr t, t ≤ 12 → pst (PBc J (I 87 (29 * b)).toNatClampNeg) (J 52) tr t = pst (bdO I b) (wn (scO I s)) tr t := by
  obtain ⟨⟨h1, h2, h3, h4, h5, h6, h7⟩, h8⟩ := h
  obtain ⟨g1, g2, _⟩ := g.2.1 b hb
  obtain ⟨r1, r2, r3, r4, r5, r6⟩ := r.2.1 b hb
  have en : I (9 + 5 * b) 4 = Int32.ofNat (I 87 (29 * b)).toNatClampNeg := r1.trans (n_of g2)
  have h52 : ∀ t, t < 12 → ∀ k, k < 32 → tb (J 52 t) k = (tb (wn (scO I s) t) k && decide (k < (I 87 (29 * b)).toNatClampNeg)) := fun t ht k hk => by
    rw [h8 t ht, en, tb_and, tb_mk g1 hk, sR_wn (r.2.2.1 s hsm)]
  refine ⟨g1, h5.trans en, prm_id g1 h7, fun t ht k hk hh => ?_, fun tr t ht => ?_⟩
  · rw [h52 t ht k hk, Bool.and_eq_true, decide_eq_true_iff] at hh; exact hh.2
  · refine pst_mask (B := PBc J (I 87 (29 * b)).toNatClampNeg) (C := bdO I b) (h1.trans r2) (h2.trans r3) (h3.trans r4) (h4.trans r5) rfl (fun i hi => ?_) t (fun u hu i hi => ?_) (fun _ _ _ => rfl)
    · have hi : i < (I 87 (29 * b)).toNatClampNeg := hi
      have e1 : J 51 i = Int32.ofNat i := h7 i (by omega)
      refine ⟨e1, ?_⟩
      show dwC J (J 51 i) = dwR I b (Int32.ofNat i)
      rw [e1, dwC, dwR, n_tn (by omega), h6 i (by omega), (r6 i hi).1]
    · have hi : i < (I 87 (29 * b)).toNatClampNeg := hi
      show hs (J 52 u) (Int32.ofNat i) = hs (wn (scO I s) u) (Int32.ofNat i)
      rw [hs_tb _ (by omega), hs_tb _ (by omega), h52 u (by omega) i (by omega), decide_eq_true hi, Bool.and_true]
theorem q_played {m : Nat → Nat} (b s u beat what : Int32) (g : rG I m) (r : RL I m) : ∃ J, Cl X (d + 5) 123 [vr 1, vi b, vi s, vi u, vi beat, vi what] (pm_mm al D I L) = some (some (vi (vPlayed I m b s u beat what)), pm_mm al D J L) ∧ cF I J := by
  have hm : ∀ i, i < 4 → m i ≤ 2 ∧ I 4 i = Int32.ofNat (m i) := fun i hi => ⟨(g.1 i hi).1, (r.1 i hi).trans (g.1 i hi).2⟩
  rw [Cl_s]
  show ∃ J, Rn X (d + 4) co_Ch_played (0, [some (vr 1), some (vi b), some (vi s), some (vi u), some (vi beat), some (vi what)], [], pm_mm al D I L) = _ ∧ _
  rw [sg_Ch_played_x_0, k_hasThree b s u hm]
  simp only [Option.bind_some, pm_ai, sg_Ch_played_x_7, b01_ne, vPlayed]
  have hc : (pm_in s (m 1) && pm_in b (m 0) && pm_in u (m 2) && pm_in beat 12) = (pm_in b (m 0) && pm_in s (m 1) && pm_in u (m 2) && pm_in beat 12) := by rw [Bool.and_comm (pm_in s (m 1))]
  have hbt : pm_in beat 12 = (!decide (beat < 0) && decide (beat < 12)) := by
    have h0 : (0 : Int32).toInt = 0 := rfl
    have h12 : (12 : Int32).toInt = 12 := rfl
    rw [Bool.eq_iff_iff, in_iff, Bool.and_eq_true, Bool.not_eq_true', decide_eq_false_iff_not, decide_eq_true_iff, t_lt, t_lt]; omega
  have no : ∀ (o0 o1 o2 o3 o4 o5 : Option pm_V), Rn X (d + 4) co_Ch_played (22, [o0, o1, o2, o3, o4, o5], [], pm_mm al D I L) = some (some (vi (-1)), pm_mm al D I L) := fun o0 o1 o2 o3 o4 o5 => sg_Ch_played_0_0_22 ..
  rw [hc]
  cases hok : (pm_in b (m 0) && pm_in s (m 1) && pm_in u (m 2)) with
  | false =>
    simp only [Bool.not_false, cond_true, no, Bool.false_and, cond_false]
    exact ⟨I, rfl, cF_refl⟩
  | true =>
    simp only [Bool.not_true, cond_false, Bool.true_and, hbt]
    cases h1 : decide (beat < 0) with
    | true =>
      simp only [cond_true, no, Bool.not_true, Bool.false_and, cond_false]
      exact ⟨I, rfl, cF_refl⟩
    | false =>
      cases h2 : decide (beat < 12) with
      | false =>
        simp only [cond_false, no, Bool.and_false]
        exact ⟨I, rfl, cF_refl⟩
      | true =>
        have ht : pm_in beat 12 = true := by rw [hbt, h1, h2]; rfl
        simp only [Bool.and_eq_true] at hok
        obtain ⟨⟨o2, o1⟩, o3⟩ := hok
        obtain ⟨s', hs', es⟩ := in_nat o1
        obtain ⟨b', hb', eb⟩ := in_nat o2
        obtain ⟨u', hu', eu⟩ := in_nat o3
        obtain ⟨t', ht', et⟩ := in_nat ht
        have m0 := (g.1 0 (by omega)).1
        have m1 := (g.1 1 (by omega)).1
        have m2 := (g.1 2 (by omega)).1
        obtain ⟨J, e1, e2, e3⟩ := k_prepare (X := X) (d := d + 1) (al := al) (D := D) (L := L) (I := I) (b := b') (s := s') (by omega) (by omega) (sR_gC (r.2.2.1 s' hs') (g.2.2.1 s' hs'))
        obtain ⟨p1, p2, p3, p4, p5⟩ := k_prepared g r hb' hs' e3
        obtain ⟨K, f1, f2, f3, f4⟩ := k_through (X := X) (d := d + 1) (al := al) (D := D) (L := L) (I := J) (J 7 u') p1 p2 p3 p4
        subst eb es eu et
        have hu2 : pm_in (Int32.ofNat u') 2 = true := (n_in (by omega)).trans (decide_eq_true (by omega))
        simp only [cond_false, cond_true, Bool.not_false, Bool.and_self]
        rw [e1]
        simp only [Option.bind_some, pm_av, sg_Ch_played_x_30, hu2, cond_true, n_tn (show u' < 2147483648 by omega)]
        rw [f1]
        simp only [Option.bind_some, pm_av, sg_Ch_played_x_46]
        rw [k_behind what ht' (f3 t' ht')]
        simp only [Option.bind_some, pm_ai, sg_Ch_played_x_57]
        refine ⟨K, ?_, cF_pt e2 f2 f4.2.1 f4.2.2.1⟩
        · have e7 : J 7 u' = I 89 u' := (e2 7 u' (by unfold prS tkS; omega)).trans (r.2.2.2.1 u' hu')
          rw [p5 _ (t' + 1) (by omega), e7, n_tn (by omega), n_tn (by omega), n_tn (by omega)]
end
