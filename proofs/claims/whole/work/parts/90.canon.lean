section
variable {X : Nat × (Nat → Int32)} {d : Nat} {al : List Nat} {D : Nat → Bool} {I : Nat → Nat → Int32} {L : Nat → Nat → Int64}
theorem plR_congr {B C : PB} {w v : Nat → Int32} {tr : Nat → Int32 → Bool} {K : Nat → Nat → Int32} (h : plR B w tr 12 K) (e : ∀ t, t ≤ 12 → pst B w tr t = pst C v tr t) : plR C v tr 12 K := by
  obtain ⟨h1, h2, h3, h4⟩ := h
  obtain ⟨a1, a2, a3⟩ := acc_congr e (fun _ _ => rfl) 12 (Nat.le_refl _)
  refine ⟨fun t ht => ?_, by rw [← a2]; exact h2, by rw [← a1]; exact h3, by rw [← a3]; exact h4⟩
  rw [← e (t + 1) (by omega)]; exact h1 t ht
theorem c_playsB {m : Nat → Nat} {J : Nat → Nat → Int32} {b : Nat} {w : Nat → Int32} (set below : Int32) (g : rG I m) (hb : b < m 0) (h87 : ∀ j, J 87 j = I 87 j) (h : hdP I J b) (hw : ∀ t, t < 12 → J 93 t = w t) :
    ∃ K, Cl X (d + 3) 210 [vr 81, vi set, vi below] (pm_mm al D J L) = some (none, pm_mm al D K L) ∧ plF J K ∧ plR (bdO I b) w (trd set below) 12 K := by
  have g6 := (g.2.1 b hb).1
  have m0 := (g.1 0 (by omega)).1
  obtain ⟨h1, h2, h3, h4, h5, h6⟩ := h
  obtain ⟨K, e1, e2, e3⟩ := c_plays (X := X) (d := d) (al := al) (D := D) (L := L) (I := J) (b := b) (n := (I 87 (29 * b)).toNatClampNeg) set below (by omega) h1 g6 (h2.trans (n_of (g.2.1 b hb).2.1)) (fun i hi => ⟨i, by omega, h6 i (by omega)⟩)
  refine ⟨K, e1, e2, plR_congr e3 (fun t ht => ?_)⟩
  refine pst_congr (B := PBr J b (I 87 (29 * b)).toNatClampNeg) (C := bdO I b) h3 (h87 _) h4 h5 rfl (fun i hi => ?_) t (fun u hu => hw u (by omega)) (fun _ _ _ => rfl)
  have hi : i < (I 87 (29 * b)).toNatClampNeg := hi
  have : J 94 i = Int32.ofNat i := h6 i (by omega)
  refine ⟨this, ?_⟩
  show dwR J b (J 94 i) = dwR I b (Int32.ofNat i)
  rw [this, dwR, dwR]; exact h87 _
theorem hdP_up {J K : Nat → Nat → Int32} {b : Nat} (h : hdP I J b) (e : plF J K) : hdP I K b := by
  obtain ⟨h1, h2, h3, h4, h5, h6⟩ := h
  refine ⟨(e 81 23 (by omega) (by omega)).trans h1, (e 81 25 (by omega) (by omega)).trans h2, (e 81 27 (by omega) (by omega)).trans h3, (e 81 28 (by omega) (by omega)).trans h4, (e 81 29 (by omega) (by omega)).trans h5, fun p hp => (e 94 p (by omega) (by omega)).trans (h6 p hp)⟩
/-- the same notes, k later too -/
def wnk1 (S : SC) (k t i : Nat) (a : Int32) : Int32 := if S.2.2.1 i + k ≤ t ∧ t < S.2.2.1 i + k + S.2.2.2 i then a ||| (1 <<< (Int32.ofNat (S.2.1 i) &&& 31)) else a
def wnk (S : SC) (k t : Nat) : Int32 := fo (wnk1 S k t) S.1 (wn S t)
theorem wnk_eq (S : SC) (k t : Nat) (a : Int32) : ∀ n, fo (wnk1 S k t) n a = if k ≤ t then a ||| fo (wn1 S (t - k)) n 0 else a
  | 0 => by rw [fo, fo, Int32.or_zero]; split <;> rfl
  | n + 1 => by
    rw [fo, fo, wnk_eq S k t a n, wnk1, wn1]
    by_cases h : k ≤ t
    · rw [if_pos h, if_pos h]
      by_cases hc : S.2.2.1 n ≤ t - k ∧ t - k < S.2.2.1 n + S.2.2.2 n
      · rw [if_pos hc, if_pos (by omega), Int32.or_assoc]
      · rw [if_neg hc, if_neg (by omega)]
    · rw [if_neg h, if_neg h, if_neg (by omega)]
def vCanon (I : Nat → Nat → Int32) (m : Nat → Nat) (b s u k : Int32) : Int32 :=
  cond (pm_in s (m 1) && pm_in b (m 0) && pm_in u (m 2) && pm_in (k - 1) 6) (fo (sil1 (fun t => (pst (bdO I b.toNatClampNeg) (wnk (scO I s.toNatClampNeg) k.toNatClampNeg) (trd (I 89 u.toNatClampNeg) (-1)) (t + 1)).2.2.2.2.1)) 12 0) (-1)
theorem in16 (k : Int32) : pm_in (k - 1) 6 = decide (1 ≤ k ∧ k ≤ 6) := by
  have e1 : (1 : Int32).toInt = 1 := rfl
  have e6 : (6 : Int32).toInt = 6 := rfl
  have hr := t_rg k
  rw [Bool.eq_iff_iff, in_iff, decide_eq_true_iff, t_le, t_le]
  by_cases h : -2147483648 ≤ k.toInt - 1
  · rw [t_sub (by omega) (by omega), e1, e6]; omega
  · have hk : k = -2147483648 := by rw [t_eq]; have : (-2147483648 : Int32).toInt = -2147483648 := rfl
                                    omega
    subst hk; decide
theorem r_canon {m : Nat → Nat} (b s u k : Int32) (g : rG I m) : ∃ J, Cl X (d + 5) 264 [vr 81, vi b, vi s, vi u, vi k] (pm_mm al D I L) = some (some (vi (vCanon I m b s u k)), pm_mm al D J L) ∧ rF I J := by
  rw [Cl_s]
  show ∃ J, Rn X (d + 4) co_Mo_canon (0, [some (vr 81), some (vi b), some (vi s), some (vi u), some (vi k), none], [], pm_mm al D I L) = _ ∧ _
  have g' : rG (pm_up I 81 0 0) m := by rw [rG_up m rF_code]; exact g
  obtain ⟨J, e1, e2, e3⟩ := c_layAll (X := X) (d := d) (al := al) (D := D) (L := L) (I := pm_up I 81 0 0) b s u g'
  rw [sg_Mo_canon_0, e1]
  simp only [Option.bind_some, pm_ai, sg_Mo_canon_12, b01_ne, vCanon, c_in, sg_Mo_canon_23, sg_Mo_canon_26, in16]
  cases hok : (pm_in s (m 1) && pm_in b (m 0) && pm_in u (m 2)) with
  | false => exact ⟨J, rfl, rF_code.trans (rF_la e2)⟩
  | true =>
    by_cases hk : 1 ≤ k ∧ k ≤ 6
    · rw [if_pos hk, dt hk]
      simp only [Bool.and_eq_true] at hok
      obtain ⟨⟨o1, o2⟩, o3⟩ := hok
      obtain ⟨s', hs', es⟩ := in_nat o1
      obtain ⟨b', hb', eb⟩ := in_nat o2
      obtain ⟨u', hu', eu⟩ := in_nat o3
      have m0 := (g.1 0 (by omega)).1
      have m1 := (g.1 1 (by omega)).1
      have m2 := (g.1 2 (by omega)).1
      obtain ⟨hl, h40⟩ := e3 b' s' u' eb es eu hb' hs' hu'
      have h40 : J 81 40 = I 89 u' := h40
      have J88 : J 88 = I 88 := by funext j; exact (e2 88 j (by unfold laS; omega)).trans (up_ne (by omega))
      have hkp := in16 k
      rw [dt hk] at hkp
      have hkn : ∃ k', 1 ≤ k' ∧ k' ≤ 6 ∧ k = Int32.ofNat k' := by
        have e1 : (1 : Int32).toInt = 1 := rfl
        have e6 : (6 : Int32).toInt = 6 := rfl
        have e0 : (0 : Int32).toInt = 0 := rfl
        have h1 := t_le.mp hk.1
        have h2 := t_le.mp hk.2
        exact ⟨k.toNatClampNeg, by rw [t_tn]; omega, by rw [t_tn]; omega, n_of (t_le.mpr (by omega))⟩
      obtain ⟨k', hk1, hk6, ek⟩ := hkn
      obtain ⟨⟨g1, g2⟩, g3, g4⟩ := g.2.2.1 s' hs'
      have eN : J 88 (25 * s') = Int32.ofNat (scO I s').1 := by rw [J88]; exact n_of g3
      have loop : ∀ n i, i + n = (scO I s').1 → ∀ K, (∀ a j, a ≠ 93 → K a j = J a j) → (∀ t, t < 12 → K 93 t = fo (wnk1 (scO I s') k' t) i (wn (scO I s') t)) →
          ∃ M, Rn X (d + 4) co_Mo_canon (31, [some (vr 81), some (vi b), some (vi s), some (vi u), some (vi k), some (vi (Int32.ofNat i))], [], pm_mm al D K L) = (((Cl X (d + 4) 210 [vr 81, vi (M 81 40), vi (-1)] (pm_mm al D M L)).bind pm_av).bind (fun r => Rn X (d + 4) co_Mo_canon (63, [some (vr 81), some (vi b), some (vi s), some (vi u), some (vi k), some (vi (Int32.ofNat (scO I s').1))], [], r))) ∧ (∀ a j, a ≠ 93 → M a j = J a j) ∧ ∀ t, t < 12 → M 93 t = wnk (scO I s') k' t := by
        intro n
        induction n with
        | zero =>
          intro i hi K hK h93
          obtain rfl : i = (scO I s').1 := by omega
          refine ⟨K, ?_, hK, h93⟩
          rw [sg_Mo_canon_31, c_notes (s := s') (by omega) ((hK 81 24 (by decide)).trans hl.2.1)]
          simp (disch := omega) only [Option.bind_some, pm_ai, sg_Mo_canon_37, (hK 88 _ (by decide)).trans eN, n_dle, dt, cond_true]
        | succ n ih =>
          intro i hi K hK h93
          have hiN : i < (scO I s').1 := by omega
          obtain ⟨q1, q2, q3, q4⟩ := g2 i hiN
          obtain ⟨r1, r2, r3⟩ := g4 i hiN
          have K88 : ∀ j, K 88 j = I 88 j := fun j => by rw [hK 88 j (by decide), J88]
          have hly := c_layNote (X := X) (d := d + 2) (al := al) (D := D) (L := L) (I := K) (s := s') (k := i) (lt := k') (by omega) (by omega) ((hK 81 24 (by decide)).trans hl.2.1) ((K88 _).trans (n_of r1)) ((K88 _).trans (n_of r2)) ((K88 _).trans (n_of r3)) (show (scO I s').2.2.1 i < 12 by omega) q3 (by omega)
          obtain ⟨M, f1, f2, f3⟩ := ih (i + 1) (by omega) (pm_ups K 93 (lyf (K 93) ((scO I s').2.1 i) ((scO I s').2.2.1 i + k') ((scO I s').2.2.2 i))) (fun a j h => by rw [ups_ne h]; exact hK a j h) (fun t ht => by
            rw [ups_eq, lyf, fo, wnk1, h93 t ht]
            by_cases hc : (scO I s').2.2.1 i + k' ≤ t ∧ t < (scO I s').2.2.1 i + k' + (scO I s').2.2.2 i
            · rw [if_pos hc, if_pos ⟨hc.1, hc.2, ht⟩]
            · rw [if_neg hc, if_neg (fun c => hc ⟨c.1, c.2.1⟩)])
          refine ⟨M, ?_, f2, f3⟩
          rw [sg_Mo_canon_31, c_notes (s := s') (by omega) ((hK 81 24 (by decide)).trans hl.2.1)]
          simp (disch := omega) only [Option.bind_some, pm_ai, sg_Mo_canon_37, (hK 88 _ (by decide)).trans eN, n_dle, df, cond_false]
          rw [ek, hly]
          simp only [Option.bind_some, pm_av, sg_Mo_canon_48, n_s]
          rw [← ek]; exact f1
      obtain ⟨M, f1, f2, f3⟩ := loop (scO I s').1 0 (by omega) J (fun _ _ _ => rfl) hl.2.2
      obtain ⟨K, p1, p2, p3⟩ := c_playsB (X := X) (d := d + 1) (al := al) (D := D) (L := L) (J := M) (w := wnk (scO I s') k') (M 81 40) (-1) g hb' (fun j => (f2 87 j (by decide)).trans ((e2 87 j (by unfold laS; omega)).trans (up_ne (by omega))))
        (by
          obtain ⟨h1, h2, h3, h4, h5, h6⟩ := hl.1
          exact ⟨(f2 _ _ (by decide)).trans h1, (f2 _ _ (by decide)).trans h2, (f2 _ _ (by decide)).trans h3, (f2 _ _ (by decide)).trans h4, (f2 _ _ (by decide)).trans h5, fun p hp => (f2 _ _ (by decide)).trans (h6 p hp)⟩) f3
      have M40 : M 81 40 = I 89 u' := (f2 81 40 (by decide)).trans h40
      refine ⟨K, ?_, rF_code.trans ((rF_la e2).trans ((show rF J M from fun a h1 h2 => by funext j; exact f2 a j (by omega)).trans (rF_pl p2)))⟩
      have b1 : decide (b01 true = 0) = false := rfl
      simp only [Bool.not_true, cond_false, Bool.and_self, cond_true, show decide ((1 : Int32) = 0) = false from rfl]
      refine Eq.trans f1 ?_
      rw [p1]
      simp only [Option.bind_some, pm_av, sg_Mo_canon_63, c_silentAll, pm_ai, sg_Mo_canon_67]
      rw [sil_congr (g := K 98) (fun t ht => (p3.1 t ht).2.2.2.1), M40, eb, es, eu, ek, n_tn (by omega), n_tn (by omega), n_tn (by omega), n_tn (by omega)]
    · rw [if_neg hk, df hk]
      exact ⟨J, rfl, rF_code.trans (rF_la e2)⟩
theorem k_throughB {J : Nat → Nat → Int32} {B : PB} {w : Nat → Int32} (set : Int32) (h : pdP J B w) (h0 : J 49 0 = B.1) (h1 : J 49 1 = B.2.2.1) (h2 : J 49 2 = B.2.2.2.1) :
    ∃ K, Cl X (d + 3) 48 [vr 49, vi set] (pm_mm al D J L) = some (none, pm_mm al D K L) ∧ (∀ a j, ¬ plS a j → K a j = J a j) ∧ (∀ t, t < 12 → stD K (t + 1) (pst B w (trd set (-1)) (t + 1))) ∧ K 49 15 = srn B w (trd set (-1)) 12 ∧ K 57 0 = J 57 0 ∧ K 59 0 = J 59 0 ∧ K 58 0 = 0 := by
  obtain ⟨K, e1, e2, e3, e4, e5⟩ := k_through (X := X) (d := d) (al := al) (D := D) (L := L) (I := J) (n := B.2.2.2.2.1) set h.1 h.2.1 (prm_id h.1 h.2.2.1) h.2.2.2.1
  have hp : ∀ t, t ≤ 12 → pst (PBc J B.2.2.2.2.1) (J 52) (trd set (-1)) t = pst B w (trd set (-1)) t := fun t ht => by
    rw [pd_pst h _ t ht, h0, h1, h2]
  refine ⟨K, e1, e2, fun t ht => by rw [← hp (t + 1) (by omega)]; exact e3 t ht, e4.trans (acc_congr hp (fun _ _ => rfl) 12 (Nat.le_refl _)).1, e5⟩
theorem k_follow {k : Nat} (h1 : 1 ≤ k) (h6 : k ≤ 6) : Cl X (d + 1) 44 [vr 49, vi (Int32.ofNat k)] (pm_mm al D I L) = some (none, pm_mm al D (pm_ups I 52 (fun t => if k ≤ t ∧ t < 12 then I 52 t ||| I 52 (t - k) else I 52 t)) L) := by
  rw [Cl_s]
  show Rn X d co_Pl_follow (0, [some (vr 49), some (vi (Int32.ofNat k)), none], [], pm_mm al D I L) = _
  rw [sg_Pl_follow_0]
  have hh : ∀ n t, t + 1 = k + n → t < 12 → Rn X d co_Pl_follow (3, [some (vr 49), some (vi (Int32.ofNat k)), some (vi (Int32.ofNat t))], [], pm_mm al D (pm_ups I 52 (fun u => if t + 1 ≤ u ∧ u < 12 then I 52 u ||| I 52 (u - k) else I 52 u)) L) = some (none, pm_mm al D (pm_ups I 52 (fun t => if k ≤ t ∧ t < 12 then I 52 t ||| I 52 (t - k) else I 52 t)) L) := by
    intro n
    induction n with
    | zero =>
      intro t ht h12
      have : t + 1 = k := by omega
      rw [sg_Pl_follow_3]; simp (disch := omega) only [n_dlt, dt, cond_true, this]
    | succ n ih =>
      intro t ht h12
      obtain ⟨v, rfl⟩ : ∃ v, t = v + 1 := ⟨t - 1, by omega⟩
      have hm : Int32.ofNat (v + 1) + (-1) = Int32.ofNat v := by rw [← n_s, Int32.add_assoc]; exact Int32.add_zero _
      rw [sg_Pl_follow_3]; simp (disch := omega) only [n_dlt, df, cond_false, n_in, dt, cond_true, n_sub, n_tn, hm]
      rw [← ih v (by omega) (by omega)]
      refine congrArg (fun g => Rn X d co_Pl_follow (3, [some (vr 49), some (vi (Int32.ofNat k)), some (vi (Int32.ofNat v))], [], pm_mm al D g L)) ?_
      funext a j
      by_cases ha : a = 52
      · subst ha
        by_cases hj : j = v + 1
        · subst hj
          rw [up_eq, ups_eq, ups_eq, if_neg (by omega), if_neg (by omega), if_pos (by omega)]
        · rw [up_ne (by omega), ups_eq, ups_eq]
          by_cases hc : v + 1 + 1 ≤ j ∧ j < 12
          · rw [if_pos hc, if_pos (by omega)]
          · rw [if_neg hc, if_neg (by omega)]
      · rw [up_ne (by omega), ups_ne ha, ups_ne ha]
  have h := hh (12 - k) 11 (by omega) (by omega)
  refine Eq.trans ?_ h
  refine congrArg (fun g => Rn X d co_Pl_follow (3, [some (vr 49), some (vi (Int32.ofNat k)), some (vi (Int32.ofNat 11))], [], pm_mm al D g L)) ?_
  funext a j
  by_cases ha : a = 52
  · subst ha; rw [ups_eq, if_neg (by omega)]
  · rw [ups_ne ha]
theorem q_canon {m : Nat → Nat} (b s u k : Int32) (g : rG I m) (r : RL I m) : ∃ J, Cl X (d + 5) 132 [vr 1, vi b, vi s, vi u, vi k] (pm_mm al D I L) = some (some (vi (vCanon I m b s u k)), pm_mm al D J L) ∧ cF I J := by
  have hm : ∀ i, i < 4 → m i ≤ 2 ∧ I 4 i = Int32.ofNat (m i) := fun i hi => ⟨(g.1 i hi).1, (r.1 i hi).trans (g.1 i hi).2⟩
  rw [Cl_s]
  show ∃ J, Rn X (d + 4) co_Ch_canon (0, [some (vr 1), some (vi b), some (vi s), some (vi u), some (vi k)], [], pm_mm al D I L) = _ ∧ _
  rw [sg_Ch_canon_x_0, k_hasThree (d := d + 1) b s u hm]
  simp only [Option.bind_some, pm_ai, sg_Ch_canon_x_7, b01_ne, vCanon, sgb_Ch_canon_23, in16]
  rw [Bool.and_comm (pm_in s (m 1))]
  cases hok : (pm_in b (m 0) && pm_in s (m 1) && pm_in u (m 2)) with
  | false => exact ⟨I, rfl, cF_refl⟩
  | true =>
    simp only [Bool.not_true, cond_false, Bool.true_and]
    by_cases hk : 1 ≤ k ∧ k ≤ 6
    · rw [df (Int32.not_lt.mpr hk.1), dt hk.2, dt hk]
      simp only [Bool.and_eq_true] at hok
      obtain ⟨⟨o1, o2⟩, o3⟩ := hok
      obtain ⟨s', hs', es⟩ := in_nat o2
      obtain ⟨b', hb', eb⟩ := in_nat o1
      obtain ⟨u', hu', eu⟩ := in_nat o3
      have m0 := (g.1 0 (by omega)).1
      have m1 := (g.1 1 (by omega)).1
      have m2 := (g.1 2 (by omega)).1
      have hkn : ∃ k', 1 ≤ k' ∧ k' ≤ 6 ∧ k = Int32.ofNat k' := by
        have e1 : (1 : Int32).toInt = 1 := rfl
        have e6 : (6 : Int32).toInt = 6 := rfl
        have e0 : (0 : Int32).toInt = 0 := rfl
        have h1 := t_le.mp hk.1
        have h2 := t_le.mp hk.2
        exact ⟨k.toNatClampNeg, by rw [t_tn]; omega, by rw [t_tn]; omega, n_of (t_le.mpr (by omega))⟩
      obtain ⟨k', hk1, hk6, ek⟩ := hkn
      obtain ⟨J, e1, e2, e3⟩ := k_prepare (X := X) (d := d + 1) (al := al) (D := D) (L := L) (I := I) (b := b') (s := s') (by omega) (by omega) (sR_gC (r.2.2.1 s' hs') (g.2.2.1 s' hs'))
      obtain ⟨⟨h1, h2, h3, h4, h5, h6, h7, h8⟩, z0, z1, z2⟩ := k_pd g r hb' hs' e3
      subst eb es eu ek
      have hn6 : (I 87 (29 * b')).toNatClampNeg ≤ 6 := h1
      generalize hM : pm_ups J 52 (fun t => if k' ≤ t ∧ t < 12 then J 52 t ||| J 52 (t - k') else J 52 t) = M
      have kM : ∀ a j, a ≠ 52 → M a j = J a j := fun a j h => by rw [← hM, ups_ne h]
      have M52 : ∀ t, M 52 t = if k' ≤ t ∧ t < 12 then J 52 t ||| J 52 (t - k') else J 52 t := fun t => by rw [← hM, ups_eq]
      have hpd : pdP M (bdO I b') (wnk (scO I s') k') := by
        refine ⟨h1, (kM 49 3 (by decide)).trans h2, fun p hp => (kM 51 p (by decide)).trans (h3 p hp), fun t ht j hj hb => ?_, (kM 49 4 (by decide)).trans h5, fun i hi => (kM 50 i (by decide)).trans (h6 i hi), fun t ht i hi => ?_, h8⟩
        · rw [M52] at hb
          by_cases hc : k' ≤ t ∧ t < 12
          · rw [if_pos hc, tb_or, Bool.or_eq_true] at hb
            rcases hb with hb | hb
            · exact h4 t ht j hj hb
            · exact h4 (t - k') (by omega) j hj hb
          · rw [if_neg hc] at hb; exact h4 t ht j hj hb
        · have hi' : i < (I 87 (29 * b')).toNatClampNeg := hi
          have a1 := h7 t ht i hi
          have a2 := h7 (t - k') (by omega) i hi
          rw [hs_tb _ (by omega), hs_tb _ (by omega)] at a1 a2
          rw [hs_tb _ (by omega), hs_tb _ (by omega), M52, wnk, wnk_eq]
          by_cases hc : k' ≤ t
          · rw [if_pos ⟨hc, ht⟩, if_pos hc, tb_or, tb_or, a1, a2]; rfl
          · rw [if_neg (fun c => hc c.1), if_neg hc, a1]
      obtain ⟨K, f1, f2, f3, f4, f5, f6, f7⟩ := k_throughB (X := X) (d := d + 1) (al := al) (D := D) (L := L) (I 89 u') hpd ((kM 49 0 (by decide)).trans z0) ((kM 49 1 (by decide)).trans z1) ((kM 49 2 (by decide)).trans z2)
      have e7 : M 7 u' = I 89 u' := (kM 7 u' (by decide)).trans ((e2 7 u' (by unfold prS tkS; omega)).trans (r.2.2.2.1 u' hu'))
      have hbit := ps_bits (B := bdO I b') (w := wnk (scO I s') k') (tr := trd (I 89 u') (-1)) h1 (fun i hi => ⟨i, hi, rfl⟩)
      have s58 : ∀ t, t < 12 → sma (K 58 (t + 1)) := fun t ht => by
        rw [(f3 t ht).1.2.2.2]; exact sma_b (n := 6) (by omega) (fun j hj hh => Nat.lt_of_lt_of_le ((hbit (t + 1) j hj).2.2.1 hh) hn6)
      have w1 := k_inAll (X := X) (d := d + 2) (al := al) (D := D) (L := L) (I := K) (b := 1) (by omega) f7 s58
      have w1 : Cl X (d + 4) 126 [vr 58] (pm_mm al D K L) = _ := w1
      simp only [cond_true, cond_false]
      rw [e1]
      simp only [Option.bind_some, pm_av, sg_Ch_canon_x_31]
      rw [k_follow hk1 hk6, hM]
      simp (disch := omega) only [Option.bind_some, pm_av, sg_Ch_canon_x_40, n_in, dt, cond_true, n_tn, e7, f1, sgb_Ch_canon_56, w1, pm_ai, sg_Ch_canon_x_66]
      have hg : fo (sil1 (fun t => K 58 (t + 1))) 12 0 = fo (sil1 (fun t => (pst (bdO I b') (wnk (scO I s') k') (trd (I 89 u') (-1)) (t + 1)).2.2.2.2.1)) 12 0 := sil_congr (fun t ht => (f3 t ht).1.2.2.2)
      refine ⟨K, by rw [← hg], ?_⟩
      refine ⟨fun a a1 a2 => ?_, ?_, ?_, ?_⟩
      · funext j; rw [f2 a j (by unfold plS; omega), kM a j (by omega), e2 a j (by unfold prS tkS; omega)]
      · rw [f5, kM 57 0 (by decide), e2 57 0 (by unfold prS tkS; omega)]
      · rw [f6, kM 59 0 (by decide), e2 59 0 (by unfold prS tkS; omega)]
      · funext j; rw [f2 64 j (by unfold plS; omega), kM 64 j (by omega), e2 64 j (by unfold prS tkS; omega)]
    · rw [df hk]
      refine ⟨I, ?_, cF_refl⟩
      by_cases c1 : k < 1
      · rw [dt c1]; rfl
      · rw [df c1, df (fun c => hk ⟨Int32.not_lt.mp c1, c⟩)]; rfl
end
