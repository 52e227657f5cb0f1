section
variable {X : Nat × (Nat → Int32)} {d : Nat} {al : List Nat} {D : Nat → Bool} {I : Nat → Nat → Int32} {L : Nat → Nat → Int64}
def okS (dd k N : Int32) : Bool := decide (0 ≤ dd) && decide (dd ≤ 2) && (decide (-1 ≤ k) && decide (k < N))
def bSh (I : Nat → Nat → Int32) (b s u dd : Nat) : Nat × Nat := sfs (bdO I b) (scO I s) (I 89 u) (dd + 1) 0 ((dd + 1) ^ (scO I s).1) (1000000, 0)
def vShift (I : Nat → Nat → Int32) (m : Nat → Nat) (b s u dd k : Int32) : Int32 :=
  cond (pm_in s (m 1) && pm_in b (m 0) && pm_in u (m 2) && okS dd k (I 88 (25 * s.toNatClampNeg))) (let q := bSh I b.toNatClampNeg s.toNatClampNeg u.toNatClampNeg dd.toNatClampNeg; cond (decide (q.1 < 1000000)) (cond (decide (k = -1)) (Int32.ofNat q.1) (Int32.ofNat (sfd (dd.toNatClampNeg + 1) (scO I s.toNatClampNeg).1 q.2 k.toNatClampNeg))) (-1)) (-1)
theorem rw_O {b : Nat} : ∀ i, i < (bdO I b).2.2.2.2.1 → (bdO I b).2.2.2.2.1 ≤ 6 → ∃ p, p < 32 ∧ (bdO I b).2.2.2.2.2.2 i = Int32.ofNat p := fun i hi h6 => ⟨i, by omega, rfl⟩
theorem k_search {J : Nat → Nat → Int32} {B : PB} {S : SC} {set : Int32} {sc dd : Nat} (hs2 : sc < 2) (gB : bG B) (hrw : ∀ i, i < B.2.2.2.2.1 → ∃ p, p < 32 ∧ B.2.2.2.2.2.2 i = Int32.ofNat p) (hdd : dd ≤ 2) (hbd : bdP J B) (nt : ntP J sc S) (hz : ∀ j, j < 12 → J 64 j = 0) :
    ∃ M, Cl X (d + 15) 87 [vr 60, vr 49, vr (19 + 4 * sc), vi set, vi (Int32.ofNat dd)] (pm_mm al D J L) = some (some (vi (b01 (decide ((sfs B S set (dd + 1) 0 ((dd + 1) ^ S.1) (1000000, 0)).1 < 1000000)))), pm_mm al D M L) ∧ SF J M ∧ SB M S set dd (sfs B S set (dd + 1) 0 ((dd + 1) ^ S.1) (1000000, 0)) := by
  have h8 : S.1 ≤ 8 := nt.1.1
  have k0 : SF J (pm_up (pm_up (pm_up (pm_up J 60 2 0) 60 0 0) 60 3 set) 60 4 (Int32.ofNat dd)) :=
    ⟨fun a j a1 a2 a3 => by rw [up_ne (by omega), up_ne (by omega), up_ne (by omega), up_ne (by omega)], by rw [up_ne (by omega), up_ne (by omega), up_ne (by omega), up_ne (by omega)], by rw [up_ne (by omega), up_ne (by omega), up_ne (by omega), up_ne (by omega)]⟩
  have b0 : SB (pm_up (pm_up (pm_up (pm_up J 60 2 0) 60 0 0) 60 3 set) 60 4 (Int32.ofNat dd)) S set dd (1000000, 0) :=
    ⟨by rw [up_ne (by omega), up_eq], by rw [up_eq], Nat.le_refl _, by rw [up_ne (by omega), up_ne (by omega), up_ne (by omega), up_eq, df (Nat.lt_irrefl _)]; rfl, fun h => absurd h (Nat.lt_irrefl _)⟩
  have p0 : SP (pm_up (pm_up (pm_up (pm_up J 60 2 0) 60 0 0) 60 3 set) 60 4 (Int32.ofNat dd)) S B.2.2.2.2.1 dd 0 0 :=
    ⟨fun j hj => absurd hj (Nat.not_lt_zero j), fun i hi t ht => by
      obtain rfl : i = 0 := by omega
      rw [up_ne (by omega), up_ne (by omega), up_ne (by omega), up_ne (by omega)]; exact hz t ht⟩
  have hv : sfv B S set (sfd (dd + 1) 0 0) 0 = true := well_none hrw (fun t => rfl)
  obtain ⟨M, m1, m2, m3, m4⟩ := k_layFrom (X := X) (al := al) (D := D) (L := L) hs2 gB hrw hdd hbd nt S.1 (d + (8 - S.1)) 0 0 (1000000, 0) _ (by omega) k0 b0 p0 (show sfb S (sfd (dd + 1) 0 0) 0 < 1000000 from by rw [sfb, fo]; omega) hv
  rw [show d + (8 - S.1) + 6 + S.1 = d + 14 by omega] at m1
  rw [Nat.zero_mul] at m3
  refine ⟨M, ?_, m2, m3⟩
  rw [Cl_s]
  refine Eq.trans (show _ = Rn X (d + 14) co_Sh_search (0, [some (vr 60), some (vr 49), some (vr (19 + 4 * sc)), some (vi set), some (vi (Int32.ofNat dd))], [], pm_mm al D J L) from rfl) ?_
  have m1 : Cl X (d + 14) 88 [vr 60, vr 49, vr (19 + 4 * sc), vi 0, vi 0] _ = _ := m1
  rw [sgb_Sh_search_0 hs2, m1]
  simp only [Option.bind_some, pm_av]
  rw [sgb_Sh_search_29, m3.2.2.2.1]
  generalize decide ((sfs B S set (dd + 1) 0 ((dd + 1) ^ S.1) (1000000, 0)).1 < 1000000) = c
  cases c <;> rfl
theorem q_shift {m : Nat → Nat} (b s u dd k : Int32) (g : rG I m) (r : RL I m) (z : cZ I) : ∃ J, Cl X (d + 16) 135 [vr 1, vi b, vi s, vi u, vi dd, vi k] (pm_mm al D I L) = some (some (vi (vShift I m b s u dd k)), pm_mm al D J L) ∧ cF I J := by
  have hm : ∀ i, i < 4 → m i ≤ 2 ∧ I 4 i = Int32.ofNat (m i) := fun i hi => ⟨(g.1 i hi).1, (r.1 i hi).trans (g.1 i hi).2⟩
  rw [Cl_s]
  show ∃ J, Rn X (d + 15) co_Ch_shift (0, [some (vr 1), some (vi b), some (vi s), some (vi u), some (vi dd), some (vi k), none, none], [], pm_mm al D I L) = _ ∧ _
  rw [sg_Ch_shift_x_0, k_hasThree (d := d + 12) b s u hm]
  simp only [Option.bind_some, pm_ai, vShift]
  rw [Bool.and_comm (pm_in s (m 1))]
  cases hok : (pm_in b (m 0) && pm_in s (m 1) && pm_in u (m 2)) with
  | false => exact ⟨I, (sg_Ch_shift_x0_7 ..).trans (sgb_Ch_shift_21 ..), cF_refl⟩
  | true =>
    simp only [Bool.and_eq_true] at hok
    obtain ⟨⟨o1, o2⟩, o3⟩ := hok
    obtain ⟨s', hs', es⟩ := in_nat o2
    obtain ⟨b', hb', eb⟩ := in_nat o1
    obtain ⟨u', hu', eu⟩ := in_nat o3
    have m0 := (g.1 0 (by omega)).1
    have m1 := (g.1 1 (by omega)).1
    have m2 := (g.1 2 (by omega)).1
    have hb2 : b' < 2 := by omega
    have hs2 : s' < 2 := by omega
    subst eb es eu
    rw [n_tn (show b' < 2147483648 by omega), n_tn (show s' < 2147483648 by omega), n_tn (show u' < 2147483648 by omega)]
    obtain ⟨⟨g1, g2⟩, g3, g4⟩ := g.2.2.1 s' hs'
    have h8 : (scO I s').1 ≤ 8 := g1
    have eN : I 88 (25 * s') = Int32.ofNat (scO I s').1 := n_of g3
    have cN : I (19 + 4 * s') 0 = Int32.ofNat (scO I s').1 := (nt_of g r hs').2.1
    have h7 : ∀ o6 o7, Rn X (d + 15) co_Ch_shift (7, [some (vr 1), some (vi (Int32.ofNat b')), some (vi (Int32.ofNat s')), some (vi (Int32.ofNat u')), some (vi dd), some (vi k), o6, o7], [vi (b01 true)], pm_mm al D I L) = _ := fun o6 o7 => sgb_Ch_shift_7 hb2 hs2 X (d + 15) (Int32.ofNat u') dd k o6 o7 (b01 true) al D I L
    rw [h7, b01_ne, Bool.not_true, cond_false, eN, cN, okS, sgb_Ch_shift_21, sgb_Ch_shift_50]
    have d1 : decide (dd < 0) = !decide (0 ≤ dd) := d_ltle ..
    have d2 : decide (k < -1) = !decide (-1 ≤ k) := d_ltle ..
    rw [d1, d2]
    cases c1 : decide (0 ≤ dd) with
    | false => exact ⟨I, rfl, cF_refl⟩
    | true =>
      cases c2 : decide (dd ≤ 2) with
      | false => exact ⟨I, rfl, cF_refl⟩
      | true =>
        cases c3 : decide (-1 ≤ k) with
        | false => exact ⟨I, rfl, cF_refl⟩
        | true =>
          cases c4 : decide (k < Int32.ofNat (scO I s').1) with
          | false => exact ⟨I, rfl, cF_refl⟩
          | true =>
            simp only [Bool.not_true, cond_false, cond_true, Bool.and_self]
            have c1 := of_decide_eq_true c1
            have c2 := of_decide_eq_true c2
            have c3 := of_decide_eq_true c3
            have c4 := of_decide_eq_true c4
            obtain ⟨J, e1, e2, e3⟩ := k_takeBand (X := X) (d := d + 13) (al := al) (D := D) (L := L) (I := I) (q := 9 + 5 * b') (by omega)
            have hbd := bd_tk g r hb' e3
            have J0 : ∀ a j, a < 49 → J a j = I a j := fun a j h => e2 a j (by unfold tkS; omega)
            have hnt : ntP J s' (scO I s') := nt_up (nt_of g r hs') hs2 (fun a j a1 a2 => J0 a j (by omega))
            have ed : dd = Int32.ofNat dd.toNatClampNeg := n_of c1
            have hd2 : dd.toNatClampNeg ≤ 2 := by
              have c2 := t_le.mp c2
              have : (2 : Int32).toInt = 2 := rfl
              rw [t_tn]; omega
            generalize dd.toNatClampNeg = f at ed hd2
            subst ed
            obtain ⟨M, f1, f2, f3⟩ := k_search (X := X) (d := d) (al := al) (D := D) (L := L) (S := scO I s') (set := I 89 u') hs2 (bG_O g hb') (fun i hi => rw_O i hi hbd.1) hd2 hbd hnt (fun j hj => (e2 64 j (by unfold tkS; omega)).trans (z.2.2 j hj))
            have J7 : J 7 u' = I 89 u' := (J0 7 u' (by omega)).trans (r.2.2.2.1 u' hu')
            refine ⟨M, ?_, ?_⟩
            · rw [e1]
              simp only [Option.bind_some, pm_av]
              rw [sg_Ch_shift_x_68, n_in (by omega), dt (show u' < 2 by omega), cond_true, n_tn (by omega), J7, f1]
              simp only [Option.bind_some, pm_ai]
              rw [sg_Ch_shift_x_92, sg_Ch_shift_x_127, sg_Ch_shift_x_127, b01_ne]
              show _ = some (some (vi (cond (decide ((bSh I b' s' u' f).1 < 1000000)) (cond (decide (k = -1)) (Int32.ofNat (bSh I b' s' u' f).1) (Int32.ofNat (sfd (f + 1) (scO I s').1 (bSh I b' s' u' f).2 k.toNatClampNeg))) (-1))), _)
              have f3 : SB M (scO I s') (I 89 u') f (bSh I b' s' u' f) := f3
              refine Eq.trans (show _ = cond (!decide ((bSh I b' s' u' f).1 < 1000000)) _ _ from rfl) ?_
              generalize bSh I b' s' u' f = q at f3
              by_cases hq : q.1 < 1000000
              · obtain ⟨w1, w2⟩ := f3.2.2.2.2 hq
                rw [dt hq, w1]
                simp only [Bool.not_true, cond_false, cond_true]
                by_cases hk : k = -1
                · rw [dt hk]; rfl
                · have hk0 : 0 ≤ k := by
                    rw [t_le] at c3 ⊢
                    rw [t_eq] at hk
                    have a1 : (-1 : Int32).toInt = -1 := rfl
                    have a2 : (0 : Int32).toInt = 0 := rfl
                    omega
                  have hkN : k.toNatClampNeg < (scO I s').1 := by
                    rw [t_lt, n_ti (by omega)] at c4
                    rw [t_le] at hk0
                    have a2 : (0 : Int32).toInt = 0 := rfl
                    rw [t_tn]; omega
                  have hin : pm_in k 8 = true := by rw [n_of hk0, n_in (by omega)]; exact dt (by omega)
                  rw [df hk, hin, w2 _ hkN]; rfl
              · rw [df hq]; rfl
            · refine ⟨fun a a1 a2 => ?_, ?_, ?_, ?_⟩
              · funext j; rw [f2.1 a j (by unfold plS; omega) (by omega) (by omega), e2 a j (by unfold tkS; omega)]
              · rw [f2.2.1, e2 57 0 (by unfold tkS; omega)]
              · rw [f2.2.2, e2 59 0 (by unfold tkS; omega)]
              · funext j; rw [f2.1 64 j (by unfold plS; omega) (by omega) (by omega), e2 64 j (by unfold tkS; omega)]
end
