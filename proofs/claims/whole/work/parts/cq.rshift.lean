section
variable {X : Nat × (Nat → Int32)} {d : Nat} {al : List Nat} {D : Nat → Bool} {I : Nat → Nat → Int32} {L : Nat → Nat → Int64}
def shF (J K : Nat → Nat → Int32) : Prop := ∀ a j, a ≠ 93 → ¬ (95 ≤ a ∧ a ≤ 102) → ¬ (a = 81 ∧ 37 ≤ j ∧ j ≤ 39) → K a j = J a j
theorem rF_sh {J K : Nat → Nat → Int32} (h : shF J K) : rF J K := fun a h1 h2 => by funext j; exact h a j (by omega) (by omega) (by omega)
theorem hdP_sh {J K : Nat → Nat → Int32} {b : Nat} (h : hdP I J b) (e : shF J K) : hdP I K b := by
  obtain ⟨h1, h2, h3, h4, h5, h6⟩ := h
  exact ⟨(e 81 23 (by omega) (by omega) (by omega)).trans h1, (e 81 25 (by omega) (by omega) (by omega)).trans h2, (e 81 27 (by omega) (by omega) (by omega)).trans h3, (e 81 28 (by omega) (by omega) (by omega)).trans h4, (e 81 29 (by omega) (by omega) (by omega)).trans h5, fun p hp => (e 94 p (by omega) (by omega) (by omega)).trans (h6 p hp)⟩
theorem in_if (P Q : Prop) [Decidable P] [Decidable Q] : (if P ∧ Q then (1 : Int32) else 0) = b01 (decide P && decide Q) := by
  by_cases p : P <;> by_cases q : Q <;> simp [p, q, b01]
theorem k_le_m1 (k : Int32) {N : Nat} (h : N ≤ 8) : decide (k ≤ Int32.ofNat N - 1) = decide (k < Int32.ofNat N) := by
  have e : (Int32.ofNat N - 1).toInt = N - 1 := by
    have a1 : (1 : Int32).toInt = 1 := rfl
    rw [t_sub (by rw [n_ti (by omega), a1]; omega) (by rw [n_ti (by omega), a1]; omega), n_ti (by omega), a1]
  rw [decide_eq_decide, t_le, t_lt, e, n_ti (by omega)]; omega
theorem r_shift {m : Nat → Nat} (b s u dd k : Int32) (g : rG I m) : ∃ J, Cl X (d + 5) 220 [vr 81, vi b, vi s, vi u, vi dd, vi k] (pm_mm al D I L) = some (some (vi (vShift I m b s u dd k)), pm_mm al D J L) ∧ rF I J := by
  rw [Cl_s]
  show ∃ J, Rn X (d + 4) co_Mo_shift (0, [some (vr 81), some (vi b), some (vi s), some (vi u), some (vi dd), some (vi k), none, none, none, none, none], [], pm_mm al D I L) = _ ∧ _
  have g' : rG (pm_up I 81 0 0) m := by rw [rG_up m rF_code]; exact g
  obtain ⟨J, e1, e2, e3⟩ := c_layAll (X := X) (d := d) (al := al) (D := D) (L := L) (I := pm_up I 81 0 0) b s u g'
  rw [sg_Mo_shift_0, e1]
  simp only [Option.bind_some, pm_ai, vShift]
  rw [sg_Mo_shift_12, b01_ne, sg_Mo_shift_40]
  cases hok : (pm_in s (m 1) && pm_in b (m 0) && pm_in u (m 2)) with
  | false => exact ⟨J, rfl, rF_code.trans (rF_la e2)⟩
  | true =>
    simp only [Bool.and_eq_true] at hok
    obtain ⟨⟨o1, o2⟩, o3⟩ := hok
    obtain ⟨s', hs', es⟩ := in_nat o1
    obtain ⟨b', hb', eb⟩ := in_nat o2
    obtain ⟨u', hu', eu⟩ := in_nat o3
    have m0 := (g.1 0 (by omega)).1
    have m1 := (g.1 1 (by omega)).1
    have m2 := (g.1 2 (by omega)).1
    obtain ⟨hl, h40⟩ := e3 b' s' u' eb es eu hb' hs' hu'
    have h40 : J 81 40 = I 89 u' := h40
    have J87 : ∀ j, J 87 j = I 87 j := fun j => (e2 87 j (by unfold laS; omega)).trans (up_ne (by omega))
    have J88 : ∀ j, J 88 j = I 88 j := fun j => (e2 88 j (by unfold laS; omega)).trans (up_ne (by omega))
    obtain ⟨⟨g1, g2⟩, g3, g4⟩ := g.2.2.1 s' hs'
    have h8 : (scO I s').1 ≤ 8 := g1
    have iN : I 88 (25 * s') = Int32.ofNat (scO I s').1 := n_of g3
    have eN : J 88 (25 * s') = Int32.ofNat (scO I s').1 := (J88 _).trans iN
    have et : b.toNatClampNeg = b' ∧ s.toNatClampNeg = s' ∧ u.toNatClampNeg = u' := ⟨by rw [eb, n_tn (by omega)], by rw [es, n_tn (by omega)], by rw [eu, n_tn (by omega)]⟩
    rw [et.1, et.2.1, et.2.2, iN]
    clear eb es eu e1 e3
    have hno := fun K (hK : shF J K) => c_notes (X := X) (d := d + 3) (al := al) (D := D) (L := L) (I := K) (s := s') (by omega) ((hK 81 24 (by omega) (by omega) (by omega)).trans hl.2.1)
    rw [Bool.not_true, cond_false, c_in, in_if]
    simp only [Option.bind_some, pm_ai]
    rw [sg_Mo_shift_22, b01_ne, sg_Mo_shift_40, okS]
    have base : rF I J := rF_code.trans (rF_la e2)
    cases c12 : (decide (0 ≤ dd) && decide (dd ≤ 2)) with
    | false => exact ⟨J, rfl, base⟩
    | true =>
      rw [Bool.not_true, cond_false, hno J (fun _ _ _ _ _ => rfl), eN]
      simp only [Option.bind_some, pm_ai]
      rw [sg_Mo_shift_32, c_in, in_if, k_le_m1 k h8]
      simp only [Option.bind_some, pm_ai]
      rw [sg_Mo_shift_37, b01_ne, sg_Mo_shift_40]
      cases c34 : (decide (-1 ≤ k) && decide (k < Int32.ofNat (scO I s').1)) with
      | false => exact ⟨J, rfl, base⟩
      | true =>
        rw [Bool.and_eq_true, decide_eq_true_iff, decide_eq_true_iff] at c12 c34
        obtain ⟨c1, c2⟩ := c12
        obtain ⟨c3, c4⟩ := c34
        have ed : dd = Int32.ofNat dd.toNatClampNeg := n_of c1
        have hd2 : dd.toNatClampNeg ≤ 2 := by
          have c2 := t_le.mp c2
          have : (2 : Int32).toInt = 2 := rfl
          rw [t_tn]; omega
        generalize dd.toNatClampNeg = f at ed hd2
        subst ed
        simp only [Bool.and_self, Bool.not_true, cond_false, cond_true]
        have hp3 := pw3_le (dd := f) (N := (scO I s').1) hd2 h8
        rw [c_rowsOf (d := d + 2) (s := s') (by omega) hl.2.1 eN h8]
        simp only [Option.bind_some, pm_ai]
        rw [sg_Mo_shift_53]
        have copy : ∀ (n : Nat) (j : Nat) K o9 (x6 x7 x8 : Int32) (sh : Nat → Nat), j + n = (scO I s').1 → shF J K → (∀ i, i < (scO I s').1 → K 101 i = Int32.ofNat (sh i)) → (∀ i, i < j → K 102 i = Int32.ofNat (sh i)) → ∃ M o o', Rn X (d + 4) co_Mo_shift (112, [some (vr 81), some (vi b), some (vi s), some (vi u), some (vi (Int32.ofNat f)), some (vi k), some (vi x6), some (vi x7), some (vi x8), o9, some (vi (Int32.ofNat j))], [], pm_mm al D K L) = Rn X (d + 4) co_Mo_shift (58, [some (vr 81), some (vi b), some (vi s), some (vi u), some (vi (Int32.ofNat f)), some (vi k), some (vi x6), some (vi x7), some (vi (x8 + 1)), o, o'], [], pm_mm al D M L) ∧ shF J M ∧ ∀ i, i < (scO I s').1 → M 102 i = Int32.ofNat (sh i) := by
          intro n
          induction n with
          | zero =>
            intro j K o9 x6 x7 x8 sh hj hK h1 h2
            obtain rfl : j = (scO I s').1 := by omega
            refine ⟨K, o9, some (vi (Int32.ofNat (scO I s').1)), ?_, hK, h2⟩
            rw [sg_Mo_shift_112, hno K hK, hK 88 _ (by omega) (by omega) (by omega), eN]
            simp only [Option.bind_some, pm_ai]
            rw [sg_Mo_shift_118, n_dle (by omega) (by omega), dt (Nat.le_refl _), cond_true, sg_Mo_shift_141]
          | succ n ih =>
            intro j K o9 x6 x7 x8 sh hj hK h1 h2
            rw [sg_Mo_shift_112, hno K hK, hK 88 _ (by omega) (by omega) (by omega), eN]
            simp only [Option.bind_some, pm_ai]
            rw [sg_Mo_shift_118, n_dle (by omega) (by omega), df (by omega), cond_false, n_in (by omega), dt (show j < 8 by omega), cond_true, cond_true, n_tn (by omega), n_s, h1 j (by omega)]
            refine ih (j + 1) _ _ x6 x7 x8 sh (by omega) (fun a i a1 a2 a3 => by rw [up_ne (by omega)]; exact hK a i a1 a2 a3) (fun i hi => by rw [up_ne (by omega)]; exact h1 i hi) (fun i hi => ?_)
            by_cases hij : i = j
            · rw [hij, up_eq]
            · rw [up_ne (by omega)]; exact h2 i (by omega)
        have loop : ∀ n i K o o' q, i + n = (f + 1) ^ (scO I s').1 → shF J K → q = sfs (bdO I b') (scO I s') (I 89 u') (f + 1) 0 i (1000000, 0) → (q.1 < 1000000 → ∀ j, j < (scO I s').1 → K 102 j = Int32.ofNat (sfd (f + 1) (scO I s').1 q.2 j)) →
            ∃ M, Rn X (d + 4) co_Mo_shift (58, [some (vr 81), some (vi b), some (vi s), some (vi u), some (vi (Int32.ofNat f)), some (vi k), some (vi (Int32.ofNat q.1)), some (vi (Int32.ofNat ((f + 1) ^ (scO I s').1))), some (vi (Int32.ofNat i)), o, o'], [], pm_mm al D K L) = some (some (vi (cond (decide ((bSh I b' s' u' f).1 < 1000000)) (cond (decide (k = -1)) (Int32.ofNat (bSh I b' s' u' f).1) (Int32.ofNat (sfd (f + 1) (scO I s').1 (bSh I b' s' u' f).2 k.toNatClampNeg))) (-1))), pm_mm al D M L) ∧ shF J M := by
          intro n
          induction n with
          | zero =>
            intro i K o o' q hi hK eq hq
            obtain rfl : i = (f + 1) ^ (scO I s').1 := by omega
            have eq : q = bSh I b' s' u' f := eq
            rw [← eq]
            have hle : q.1 ≤ 1000000 := by rw [eq]; exact sfs_le _
            refine ⟨K, ?_, hK⟩
            have hm6 : decide (Int32.ofNat q.1 < 1000000) = decide (q.1 < 1000000) := n_dlt (b := 1000000) (by omega) (by omega)
            rw [sg_Mo_shift_58, n_dle (by omega) (by omega), dt (Nat.le_refl _), cond_true, hm6, sg_Mo_shift_177, sg_Mo_shift_177, sg_Mo_shift_177]
            by_cases h6 : q.1 < 1000000
            · rw [dt h6, cond_true, cond_true]
              by_cases hk : k = -1
              · rw [dt hk, cond_true, cond_true]
              · have hk0 : 0 ≤ k := by
                  rw [t_le] at c3 ⊢
                  rw [t_eq] at hk
                  have a1 : (-1 : Int32).toInt = -1 := rfl
                  have a2 : (0 : Int32).toInt = 0 := rfl
                  omega
                have hkN : k.toNatClampNeg < (scO I s').1 := by
                  rw [t_lt, n_ti (by omega)] at c4
                  rw [t_le] at hk0
                  have a2 : (0 : Int32).toInt = 0 := rfl
                  rw [t_tn]; omega
                have hin : pm_in k 8 = true := by rw [n_of hk0, n_in (by omega)]; exact dt (by omega)
                rw [df hk, cond_false, cond_false, hin, cond_true, hq h6 _ hkN]
            · rw [df h6, cond_false, cond_false]
          | succ n ih =>
            intro i K o o' q hi hK eq hq
            have hle : q.1 ≤ 1000000 := by rw [eq]; exact sfs_le _
            have hs1 : sfs (bdO I b') (scO I s') (I 89 u') (f + 1) 0 (i + 1) (1000000, 0) = sf1 (bdO I b') (scO I s') (I 89 u') (f + 1) i q := by
              rw [eq]
              show sf1 _ _ _ _ (0 + i) _ = _
              rw [Nat.zero_add]; rfl
            have ih' := fun K o o' q => ih (i + 1) K o o' q (by omega)
            rw [hs1] at ih'
            clear hs1 ih eq
            have K24 := (hK 81 24 (by omega) (by omega) (by omega)).trans hl.2.1
            have KN := (hK 88 (25 * s') (by omega) (by omega) (by omega)).trans eN
            obtain ⟨M1, a1, a2, a3⟩ := c_layShifts (X := X) (d := d + 2) (al := al) (D := D) (L := L) (I := K) (s := s') (dd := f) (n := i) (by omega) K24 KN h8 (by omega) hd2
            have k88 : M1 88 = I 88 := by funext j; rw [a2 88 j (by omega), hK 88 j (by omega) (by omega) (by omega), J88]
            have hsc : scO M1 s' = scO I s' := scO_up k88
            have hlb := c_laterBy (X := X) (d := d + 1) (al := al) (D := D) (L := L) (I := M1) (s := s') (sh := sfd (f + 1) (scO I s').1 i) (by omega) ((a2 81 24 (by omega)).trans K24) (by rw [gS_up k88]; exact ⟨⟨g1, g2⟩, g3, g4⟩) (by rw [hsc]; exact a3) (fun j => Nat.lt_of_lt_of_le (sfd_lt (by omega)) (by omega))
            rw [hsc] at hlb
            obtain ⟨M2, b1, b2, b3⟩ := hlb
            have hM2 : shF J M2 := fun a j x1 x2 x3 => by rw [b2 a j x1, a2 a j (by omega)]; exact hK a j x1 x2 x3
            have hby := sfb_le (S := scO I s') (sh := sfd (f + 1) (scO I s').1 i) (fun j => Nat.lt_of_lt_of_le (sfd_lt (by omega)) (by omega)) (scO I s').1
            have M2q : q.1 < 1000000 → ∀ j, j < (scO I s').1 → M2 102 j = Int32.ofNat (sfd (f + 1) (scO I s').1 q.2 j) := fun h j hj => by rw [b2 102 j (by omega), a2 102 j (by omega)]; exact hq h j hj
            rw [sg_Mo_shift_58, n_dle (by omega) (by omega), df (by omega), cond_false, a1]
            simp only [Option.bind_some, pm_av]
            rw [sg_Mo_shift_73, b1]
            simp only [Option.bind_some, pm_ai]
            rw [sg_Mo_shift_77, n_dlt (by omega) (by omega)]
            rw [sf1] at ih'
            by_cases hc : sfb (scO I s') (sfd (f + 1) (scO I s').1 i) (scO I s').1 < q.1
            · rw [dt hc, Bool.true_and] at ih'
              rw [dt hc, cond_true]
              obtain ⟨P, p1, p2, p3⟩ := c_playsB (X := X) (d := d + 1) (al := al) (D := D) (L := L) (J := M2) (M2 81 40) (-1) g hb' (fun j => (hM2 87 j (by omega) (by omega) (by omega)).trans (J87 j)) (hdP_sh hl.1 hM2) b3
              have M40 : M2 81 40 = I 89 u' := (hM2 81 40 (by omega) (by omega) (by omega)).trans h40
              have hP : shF J P := fun a j x1 x2 x3 => by rw [p2 a j (by omega) x3]; exact hM2 a j x1 x2 x3
              have hw : well (P 98) 0 12 = sfv (bdO I b') (scO I s') (I 89 u') (sfd (f + 1) (scO I s').1 i) (scO I s').1 := well_congr 12 0 (fun t _ ht => by rw [(p3.1 t (by omega)).2.2.2.1, M40])
              rw [p1]
              simp only [Option.bind_some, pm_av]
              rw [sg_Mo_shift_98, c_isWell]
              simp only [Option.bind_some, pm_ai]
              rw [sg_Mo_shift_102, b01_ne, hw]
              cases hv : sfv (bdO I b') (scO I s') (I 89 u') (sfd (f + 1) (scO I s').1 i) (scO I s').1 with
              | false =>
                rw [hv] at ih'
                rw [Bool.not_false, cond_true, sg_Mo_shift_141, n_s]
                exact ih' P _ _ q hP rfl (fun h j hj => by rw [p2 102 j (by omega) (by omega)]; exact M2q h j hj)
              | true =>
                rw [hv] at ih'
                rw [Bool.not_true, cond_false]
                obtain ⟨M3, x1, x2, y1, y2, y3⟩ := copy (scO I s').1 0 P (some (vi (Int32.ofNat (sfb (scO I s') (sfd (f + 1) (scO I s').1 i) (scO I s').1)))) (Int32.ofNat (sfb (scO I s') (sfd (f + 1) (scO I s').1 i) (scO I s').1)) (Int32.ofNat ((f + 1) ^ (scO I s').1)) (Int32.ofNat i) (sfd (f + 1) (scO I s').1 i) (by omega) hP (fun j hj => by rw [p2 101 j (by omega) (by omega), b2 101 j (by omega)]; exact a3 j hj) (fun j hj => absurd hj (Nat.not_lt_zero j))
                rw [n_s] at y1
                obtain ⟨M, z1, z2⟩ := ih' M3 x1 x2 _ y2 rfl (fun _ => y3)
                exact ⟨M, y1.trans z1, z2⟩
            · rw [df hc, Bool.false_and] at ih'
              rw [df hc, cond_false, sg_Mo_shift_141, n_s]
              exact ih' M2 _ _ q hM2 rfl M2q
        obtain ⟨M, f1, f2⟩ := loop ((f + 1) ^ (scO I s').1) 0 J none none (1000000, 0) (by omega) (fun _ _ _ _ _ => rfl) rfl (fun h => absurd h (Nat.lt_irrefl _))
        exact ⟨M, f1, base.trans (rF_sh f2)⟩
end
