section
variable {X : Nat × (Nat → Int32)} {d : Nat} {al : List Nat} {D : Nat → Bool} {I : Nat → Nat → Int32} {L : Nat → Nat → Int64}
theorem TK_up {T : Nat → Int32} {n b : Nat} {J K : Nat → Nat → Int32} {M : Nat → Nat → Int64} (h : TK T n b J M) (e : ∀ j, j = 10 ∨ j = 12 ∨ j = 13 ∨ j = 14 → K 81 j = J 81 j) : TK T n b K M := by
  obtain ⟨t1, t2, t3, t4, t5⟩ := h
  exact ⟨(e _ (by omega)).trans t1, (e _ (by omega)).trans t2, (e _ (by omega)).trans t3, fun c => (e _ (by omega)).trans (t4 c), t5⟩
theorem spw_x {T : Nat → Int32} {p m i j : Nat} (h : ¬ (wch i).length = (wch j).length) (hi : spw T p m (wch i) = true) : spw T p m (wch j) = false := spw_f (fun c => h ((spw_len _ _ hi).symm.trans c))
/-- what a line that isn't one of its sort leaves -/
theorem lnB_0 {T : Nat → Int32} {n b s ℓ : Nat} {f : Nat × Nat} {P : Nat → Int32} (h : LW T n b s ℓ f P I L) : lnB T n b I (pm_up I 81 16 (I 81 12)) L L := ⟨by rw [up_eq]; exact h.2.2.1.1, fun a j h1 _ _ => up_ne (by omega), fun _ _ _ => rfl⟩
theorem c_keepRow {c W : Nat} {v : Nat → Nat} (hW : W = 2 ∨ W = 3) (e0 : I 91 0 = Int32.ofNat c) (hc : c ≤ 8) (ev : ∀ i, i < W → I 92 i = Int32.ofNat (v i)) :
    ∃ J, Cl X (d + 1) 184 [vr 81, vi (Int32.ofNat W), vi 8] (pm_mm al D I L) = some (none, pm_mm al D J L) ∧ (∀ a j, ¬ a = 91 → J a j = I a j) ∧ J 91 0 = Int32.ofNat (min (c + 1) 8) ∧ ∀ k, 1 ≤ k → J 91 k = cond (decide (c < 8) && (decide (1 + W * c ≤ k) && decide (k < 1 + W * c + W))) (Int32.ofNat (v (k - (1 + W * c)))) (I 91 k) := by
  rw [Cl_s]
  show ∃ J, Rn X d co_Mo_keepRow (0, [some (vr 81), some (vi (Int32.ofNat W)), some (vi 8), none, none], [], pm_mm al D I L) = _ ∧ _
  rw [sg_Mo_keepRow_0, e0, show decide (Int32.ofNat c = 8) = decide (c = 8) from n_deq (b := 8) (by omega) (by omega)]
  by_cases h8 : c = 8
  · rw [dt h8, cond_true]
    exact ⟨I, rfl, fun _ _ _ => rfl, by rw [e0, h8]; rfl, fun k _ => by rw [df (show ¬ c < 8 by omega), Bool.false_and, cond_false]⟩
  · rw [df h8, cond_false]
    have hWc : W * c ≤ 24 := by rcases hW with h | h <;> subst h <;> omega
    obtain ⟨J, j1, j2, j3⟩ := lp W (fun i J => Rn X d co_Mo_keepRow (16, [some (vr 81), some (vi (Int32.ofNat W)), some (vi 8), some (vi (Int32.ofNat c)), some (vi (Int32.ofNat i))], [], pm_mm al D J L)) (fun i J => (∀ a j, ¬ a = 91 → J a j = I a j) ∧ ∀ k, J 91 k = cond (decide (1 + W * c ≤ k) && decide (k < 1 + W * c + i)) (Int32.ofNat (v (k - (1 + W * c)))) (I 91 k)) (fun i J hi hq => by
      obtain ⟨q1, q2⟩ := hq
      refine ⟨pm_up J 91 (1 + W * c + i) (Int32.ofNat (v i)), ?_, fun a j ha => by rw [up_ne (by omega)]; exact q1 a j ha, fun k => ?_⟩
      · show Rn X d co_Mo_keepRow _ = Rn X d co_Mo_keepRow _
        rw [sg_Mo_keepRow_16, n_dle (by omega) (by omega), df (by omega), cond_false, n_in (by omega), dt (by omega), cond_true, n_mul W c, show (1 : Int32) + Int32.ofNat (W * c) = Int32.ofNat (1 + W * c) from n_add 1 (W * c), n_add (1 + W * c) i, n_in (by omega), dt (by omega), cond_true, n_tn (by omega), n_tn (by omega), q1 _ _ (by omega), ev i hi, n_s]
      · by_cases e : k = 1 + W * c + i
        · rw [e, up_eq, dt (by omega), dt (by omega), Bool.and_self, cond_true, show 1 + W * c + i - (1 + W * c) = i by omega]
        · rw [up_ne (by omega), q2 k]
          by_cases e1 : 1 + W * c ≤ k
          · rw [dt e1, Bool.true_and, Bool.true_and]
            by_cases e2 : k < 1 + W * c + i
            · rw [dt e2, dt (by omega)]
            · rw [df e2, df (by omega)]
          · rw [df e1, Bool.false_and, Bool.false_and]) 0 I (Nat.zero_le _) ⟨fun _ _ _ => rfl, fun k => by
        by_cases e1 : 1 + W * c ≤ k
        · rw [df (show ¬ k < 1 + W * c + 0 by omega), Bool.and_false, cond_false]
        · rw [df e1, Bool.false_and, cond_false]⟩
    have j1 : Rn X d co_Mo_keepRow (16, [some (vr 81), some (vi (Int32.ofNat W)), some (vi 8), some (vi (Int32.ofNat c)), some (vi 0)], [], pm_mm al D I L) = Rn X d co_Mo_keepRow (16, [some (vr 81), some (vi (Int32.ofNat W)), some (vi 8), some (vi (Int32.ofNat c)), some (vi (Int32.ofNat W))], [], pm_mm al D J L) := j1
    have j0 : J 91 0 = Int32.ofNat c := by rw [j3, df (show ¬ 1 + W * c ≤ 0 by omega), Bool.false_and, cond_false]; exact e0
    refine ⟨pm_up J 91 0 (Int32.ofNat (c + 1)), ?_, fun a j ha => by rw [up_ne (by omega)]; exact j2 a j ha, by rw [up_eq, Nat.min_eq_left (by omega)], fun k hk => by rw [up_ne (by omega), j3, dt (show c < 8 by omega), Bool.true_and]⟩
    rw [j1, sg_Mo_keepRow_16, n_dle (by omega) (by omega), dt (Nat.le_refl _), cond_true, j0, n_s]
theorem c_bellows {T : Nat → Int32} {n b ℓ : Nat} {f : Nat × Nat} {P : Nat → Int32} {y : Int64} (h : LW T n b 0 ℓ f P I L) (hy : decide (lg_cmp y 8319400191629685864 = 0) = false) :
    match rdn T n 0 3 0 (te T n b) (fun _ => 0) (lnf 0 ℓ f b) with
    | .inl q => ∃ J M, Rn X (d + 4) co_Mo_bandLine (35, [some (vr 81), some (vl y), none, some (vi (Int32.ofNat b)), none], [], pm_mm al D I L) = some (some (vi 0), pm_mm al D J M) ∧ lnB T n q I J L M
    | .inr (v, f', p) => ∃ J M, Rn X (d + 4) co_Mo_bandLine (35, [some (vr 81), some (vl y), none, some (vi (Int32.ofNat b)), none], [], pm_mm al D I L) = some (some (vi 1), pm_mm al D J M) ∧ lnG T n b 0 0 ℓ v f' p P I J L M := by
  have h0 := h
  obtain ⟨hT, hb, ht, hf, h22, hR⟩ := h
  have hn := hT.2.1
  obtain ⟨u1, u2⟩ := te_rg (T := T) hb
  have k3 : fR (lnf 0 ℓ f b) (b + 1) I := fR_up hf (by omega) (fun _ _ => rfl)
  obtain ⟨J1, M1, a1, a2, a3, a4, a5, a6, a7⟩ := wordTok (X := X) (d := d + 2) (al := al) (D := D) h0 (fun _ _ _ => rfl) k3
  have s0 : Rn X (d + 4) co_Mo_bandLine (35, [some (vr 81), some (vl y), none, some (vi (Int32.ofNat b)), none], [], pm_mm al D I L) = ((Cl X (d + 4) 180 [vr 81, vi 0, vi 1, vi 99] (pm_mm al D J1 M1)).bind pm_ai).bind (fun r => Rn X (d + 4) co_Mo_bandLine (82, [some (vr 81), some (vl y), none, some (vi (Int32.ofNat b)), none], [vi r.1], r.2)) := by
    rw [sg_Mo_bandLine_35, a1]
    simp only [Option.bind_some, pm_av]
    rw [sg_Mo_bandLine_39, hy, cond_false]
  have tk := c_takes (X := X) (d := d + 1) (al := al) (D := D) (T := T) (n := n) (w := 0) (by omega) (fun i V => match i with
    | 0 => ((Cl X (d + 4) 180 [vr 81, vi 0, vi 1, vi 99] V).bind pm_ai).bind (fun r => Rn X (d + 4) co_Mo_bandLine (82, [some (vr 81), some (vl y), none, some (vi (Int32.ofNat b)), none], [vi r.1], r.2))
    | 1 => ((Cl X (d + 4) 180 [vr 81, vi 1, vi 0, vi 9] V).bind pm_ai).bind (fun r => Rn X (d + 4) co_Mo_bandLine (93, [some (vr 81), some (vl y), none, some (vi (Int32.ofNat b)), none], [vi r.1], r.2))
    | 2 => ((Cl X (d + 4) 180 [vr 81, vi 2, vi 0, vi 20] V).bind pm_ai).bind (fun r => Rn X (d + 4) co_Mo_bandLine (104, [some (vr 81), some (vl y), none, some (vi (Int32.ofNat b)), none], [vi r.1], r.2))
    | _ => Rn X (d + 4) co_Mo_bandLine (112, [some (vr 81), some (vl y), none, pm_nl (some (vi (Int32.ofNat b))), some (vi 0)], [], V)) (fun i hi J J' M M' u hc => by
      have hi : i < 3 := hi
      have h4 : i = 0 ∨ i = 1 ∨ i = 2 := by omega
      rcases h4 with e | e | e <;> subst e
      · have hc : Cl X (d + 4) 180 [vr 81, vi 0, vi 1, vi 99] (pm_mm al D J M) = some (some (vi u), pm_mm al D J' M') := hc
        show ((Cl X (d + 4) 180 [vr 81, vi 0, vi 1, vi 99] (pm_mm al D J M)).bind pm_ai).bind (fun r => Rn X (d + 4) co_Mo_bandLine (82, [some (vr 81), some (vl y), none, some (vi (Int32.ofNat b)), none], [vi r.1], r.2)) = _
        rw [hc]
        simp only [Option.bind_some, pm_ai]
        rw [sg_Mo_bandLine_82, sg_Mo_bandLine_107]
      · have hc : Cl X (d + 4) 180 [vr 81, vi 1, vi 0, vi 9] (pm_mm al D J M) = some (some (vi u), pm_mm al D J' M') := hc
        show ((Cl X (d + 4) 180 [vr 81, vi 1, vi 0, vi 9] (pm_mm al D J M)).bind pm_ai).bind (fun r => Rn X (d + 4) co_Mo_bandLine (93, [some (vr 81), some (vl y), none, some (vi (Int32.ofNat b)), none], [vi r.1], r.2)) = _
        rw [hc]
        simp only [Option.bind_some, pm_ai]
        rw [sg_Mo_bandLine_93, sg_Mo_bandLine_107]
      · have hc : Cl X (d + 4) 180 [vr 81, vi 2, vi 0, vi 20] (pm_mm al D J M) = some (some (vi u), pm_mm al D J' M') := hc
        show ((Cl X (d + 4) 180 [vr 81, vi 2, vi 0, vi 20] (pm_mm al D J M)).bind pm_ai).bind (fun r => Rn X (d + 4) co_Mo_bandLine (104, [some (vr 81), some (vl y), none, some (vi (Int32.ofNat b)), none], [vi r.1], r.2)) = _
        rw [hc]
        simp only [Option.bind_some, pm_ai]
        rw [sg_Mo_bandLine_104, sg_Mo_bandLine_107]) 3 0 (te T n b) (fun _ => 0) (lnf 0 ℓ f b) J1 M1 rfl u2 a7 a4 a5 (fun _ => a6) (fun k hk => absurd hk (Nat.not_lt_zero k))
  revert tk
  cases rdn T n 0 3 0 (te T n b) (fun _ => 0) (lnf 0 ℓ f b) with
  | inl q =>
    intro tk
    obtain ⟨J, M, c1, c2, c3, c4⟩ := tk
    refine ⟨J, M, ?_, c2, fun a j h1 h2 h3 => by rw [c3 a j h1 h3, a2 a j (by unfold tksR; omega)], fun a j hh => by rw [c4 a j hh, a3 a j hh]⟩
    rw [s0]; exact c1
  | inr x =>
    obtain ⟨v, f', p⟩ := x
    intro tk
    obtain ⟨J, M, c1, c2, c3, c4, c5, c6, c7, c8, c9⟩ := tk
    have e91 : ∀ k, J 91 k = I 91 k := fun k => by rw [c4 _ _ (by unfold tksR; omega) (by omega), a2 _ _ (by unfold tksR; omega)]
    have c9 : ∀ k, k < 3 → J 92 k = Int32.ofNat (v k) := c9
    obtain ⟨r1, r2⟩ := hR
    have st : ∀ (i : Nat) (Q : Nat → Nat → Int32) (o3 : Option pm_V), i < 3 → Q 92 i = Int32.ofNat (v i) → Rn X (d + 4) co_Mo_bandLine (112, [some (vr 81), some (vl y), none, o3, some (vi (Int32.ofNat i))], [], pm_mm al D Q M) = Rn X (d + 4) co_Mo_bandLine (112, [some (vr 81), some (vl y), none, pm_nl o3, some (vi (Int32.ofNat (i + 1)))], [], pm_mm al D (pm_up Q 91 (1 + i) (Int32.ofNat (v i))) M) := fun i Q o3 hi hq => by
      rw [sg_Mo_bandLine_112, show decide ((3 : Int32) ≤ Int32.ofNat i) = false from (n_dle (a := 3) (by omega) (by omega)).trans (df (by omega)), cond_false, n_in (by omega), dt (by omega), cond_true, show (1 : Int32) + Int32.ofNat i = Int32.ofNat (1 + i) from n_add 1 i, n_in (by omega), dt (by omega), cond_true, n_tn (by omega), n_tn (by omega), hq, n_s]
    have s0' : Rn X (d + 4) co_Mo_bandLine (112, [some (vr 81), some (vl y), none, pm_nl (some (vi (Int32.ofNat b))), some (vi 0)], [], pm_mm al D J M) = _ := st 0 J _ (by omega) (c9 0 (by omega))
    have c1 : ((Cl X (d + 4) 180 [vr 81, vi 0, vi 1, vi 99] (pm_mm al D J1 M1)).bind pm_ai).bind (fun r => Rn X (d + 4) co_Mo_bandLine (82, [some (vr 81), some (vl y), none, some (vi (Int32.ofNat b)), none], [vi r.1], r.2)) = Rn X (d + 4) co_Mo_bandLine (112, [some (vr 81), some (vl y), none, pm_nl (some (vi (Int32.ofNat b))), some (vi 0)], [], pm_mm al D J M) := c1
    generalize hQ : pm_up (pm_up (pm_up J 91 (1 + 0) (Int32.ofNat (v 0))) 91 (1 + 1) (Int32.ofNat (v 1))) 91 (1 + 2) (Int32.ofNat (v 2)) = Q
    have qo : ∀ a j, ¬ (a = 91 ∧ 1 ≤ j ∧ j ≤ 3) → Q a j = J a j := fun a j ha => by rw [← hQ, up_ne (by omega), up_ne (by omega), up_ne (by omega)]
    refine ⟨Q, M, ?_, tpM_up a7 (fun a j hh => by rw [qo a j (by omega), c4 a j (by unfold tksR; omega) (by omega)]), c2, by omega, TK_up c6 (fun j hj => qo _ _ (by omega)), fR_up c7 (Nat.le_refl _) (fun j hj => qo _ _ (by omega)), ⟨?_, fun k h1 h2 => ?_⟩, fun a j h1 h2 h3 => ?_, fun a j hh => by rw [c5 a j hh, a3 a j hh]⟩
    · rw [s0, c1, s0', st 1 _ _ (by omega) (by rw [up_ne (by omega)]; exact c9 1 (by omega)), st 2 _ _ (by omega) (by rw [up_ne (by omega), up_ne (by omega)]; exact c9 2 (by omega)), hQ, sg_Mo_bandLine_112, show decide ((3 : Int32) ≤ Int32.ofNat (2 + 1)) = true from rfl, cond_true]
    · rw [qo _ _ (by omega), e91]; exact r1
    · rw [pay, ← hQ]
      by_cases e3 : k = 3
      · subst e3; rw [pu_eq]; exact up_eq
      · rw [pu_ne e3, up_ne (by omega)]
        by_cases e2 : k = 2
        · subst e2; rw [pu_eq]; exact up_eq
        · rw [pu_ne e2, up_ne (by omega)]
          by_cases e1 : k = 1
          · subst e1; rw [pu_eq]; exact up_eq
          · rw [pu_ne e1, up_ne (by omega), e91]; exact r2 k h1 h2
    · rw [qo a j (by omega), c4 a j (by unfold tksR; omega) h3, a2 a j (by unfold tksR; omega)]
theorem c_strength {T : Nat → Int32} {n b ℓ : Nat} {f : Nat × Nat} {P : Nat → Int32} {y : Int64} (h : LW T n b 0 ℓ f P I L) (hy : decide (lg_cmp y 8319400191629685864 = 0) = true) :
    match rdn T n 1 1 0 (te T n b) (fun _ => 0) (lnf 1 ℓ f b) with
    | .inl q => ∃ J M, Rn X (d + 4) co_Mo_bandLine (35, [some (vr 81), some (vl y), none, some (vi (Int32.ofNat b)), none], [], pm_mm al D I L) = some (some (vi 0), pm_mm al D J M) ∧ lnB T n q I J L M
    | .inr (v, f', p) => ∃ J M, Rn X (d + 4) co_Mo_bandLine (35, [some (vr 81), some (vl y), none, some (vi (Int32.ofNat b)), none], [], pm_mm al D I L) = some (some (vi 1), pm_mm al D J M) ∧ lnG T n b 0 1 ℓ v f' p P I J L M := by
  have h0 := h
  obtain ⟨hT, hb, ht, hf, h22, hR⟩ := h
  have hn := hT.2.1
  obtain ⟨u1, u2⟩ := te_rg (T := T) hb
  have k3 : fR (lnf 1 ℓ f b) (b + 1) I := fR_up hf (by omega) (fun _ _ => rfl)
  obtain ⟨J1, M1, a1, a2, a3, a4, a5, a6, a7⟩ := wordTok (X := X) (d := d + 2) (al := al) (D := D) h0 (fun _ _ _ => rfl) k3
  have s0 : Rn X (d + 4) co_Mo_bandLine (35, [some (vr 81), some (vl y), none, some (vi (Int32.ofNat b)), none], [], pm_mm al D I L) = ((Cl X (d + 4) 180 [vr 81, vi 0, vi 0, vi 12] (pm_mm al D J1 M1)).bind pm_ai).bind (fun r => Rn X (d + 4) co_Mo_bandLine (55, [some (vr 81), some (vl y), none, some (vi (Int32.ofNat b)), none], [vi r.1], r.2)) := by
    rw [sg_Mo_bandLine_35, a1]
    simp only [Option.bind_some, pm_av]
    rw [sg_Mo_bandLine_39, hy, cond_true]
  have tk := c_takes (X := X) (d := d + 1) (al := al) (D := D) (T := T) (n := n) (w := 1) (by omega) (fun i V => match i with
    | 0 => ((Cl X (d + 4) 180 [vr 81, vi 0, vi 0, vi 12] V).bind pm_ai).bind (fun r => Rn X (d + 4) co_Mo_bandLine (55, [some (vr 81), some (vl y), none, some (vi (Int32.ofNat b)), none], [vi r.1], r.2))
    | _ => some (some (vi 1), (V.1, V.2.1, V.2.2.1, pm_up V.2.2.2.1 91 4 (V.2.2.2.1 92 0), V.2.2.2.2))) (fun i hi J J' M M' u hc => by
      have hi : i < 1 := hi
      have h4 : i = 0 := by omega
      subst h4
      · have hc : Cl X (d + 4) 180 [vr 81, vi 0, vi 0, vi 12] (pm_mm al D J M) = some (some (vi u), pm_mm al D J' M') := hc
        show ((Cl X (d + 4) 180 [vr 81, vi 0, vi 0, vi 12] (pm_mm al D J M)).bind pm_ai).bind (fun r => Rn X (d + 4) co_Mo_bandLine (55, [some (vr 81), some (vl y), none, some (vi (Int32.ofNat b)), none], [vi r.1], r.2)) = _
        rw [hc]
        simp only [Option.bind_some, pm_ai]
        rw [sg_Mo_bandLine_55]) 1 0 (te T n b) (fun _ => 0) (lnf 1 ℓ f b) J1 M1 rfl u2 a7 a4 a5 (fun _ => a6) (fun k hk => absurd hk (Nat.not_lt_zero k))
  revert tk
  cases rdn T n 1 1 0 (te T n b) (fun _ => 0) (lnf 1 ℓ f b) with
  | inl q =>
    intro tk
    obtain ⟨J, M, c1, c2, c3, c4⟩ := tk
    refine ⟨J, M, ?_, c2, fun a j h1 h2 h3 => by rw [c3 a j h1 h3, a2 a j (by unfold tksR; omega)], fun a j hh => by rw [c4 a j hh, a3 a j hh]⟩
    rw [s0]; exact c1
  | inr x =>
    obtain ⟨v, f', p⟩ := x
    intro tk
    obtain ⟨J, M, c1, c2, c3, c4, c5, c6, c7, c8, c9⟩ := tk
    have e91 : ∀ k, J 91 k = I 91 k := fun k => by rw [c4 _ _ (by unfold tksR; omega) (by omega), a2 _ _ (by unfold tksR; omega)]
    have c9 : ∀ k, k < 1 → J 92 k = Int32.ofNat (v k) := c9
    obtain ⟨r1, r2⟩ := hR
    refine ⟨pm_up J 91 4 (J 92 0), M, ?_, tpM_up a7 (fun a j hh => by rw [up_ne (by omega), c4 a j (by unfold tksR; omega) (by omega)]), c2, by omega, TK_up c6 (fun j hj => up_ne (by omega)), fR_up c7 (Nat.le_refl _) (fun j hj => up_ne (by omega)), ⟨by rw [up_ne (by omega), e91]; exact r1, fun k h1 h2 => ?_⟩, fun a j h1 h2 h3 => by rw [up_ne (by omega), c4 a j (by unfold tksR; omega) h3, a2 a j (by unfold tksR; omega)], fun a j hh => by rw [c5 a j hh, a3 a j hh]⟩
    · rw [s0]; exact c1
    · rw [pay]
      by_cases e : k = 4
      · subst e; rw [pu_eq, up_eq]; exact c9 0 (by omega)
      · rw [pu_ne e, up_ne (by omega), e91]; exact r2 k h1 h2
theorem c_bandLine {T : Nat → Int32} {n b ℓ : Nat} {f : Nat × Nat} {P : Nat → Int32} (h : LW T n b 0 ℓ f P I L) :
    match lnr 0 T n b ℓ f with
    | .inl q => ∃ J M, Cl X (d + 5) 183 [vr 81, vl (yw T n b), vi (Int32.ofNat b)] (pm_mm al D I L) = some (some (vi 0), pm_mm al D J M) ∧ lnB T n q I J L M
    | .inr (w, v, f', p) => ∃ J M, Cl X (d + 5) 183 [vr 81, vl (yw T n b), vi (Int32.ofNat b)] (pm_mm al D I L) = some (some (vi 1), pm_mm al D J M) ∧ lnG T n b 0 w ℓ v f' p P I J L M := by
  have hb := h.2.1
  have y2 : decide (lg_cmp (yw T n b) 1885958245 = 0) = spw T b (te T n b - b) (wch 2) := yw_ok (w := 2) hb (by omega)
  have y0 : decide (lg_cmp (yw T n b) 27696064067762035 = 0) = spw T b (te T n b - b) (wch 0) := yw_ok (w := 0) hb (by omega)
  have y1 : decide (lg_cmp (yw T n b) 8319400191629685864 = 0) = spw T b (te T n b - b) (wch 1) := yw_ok (w := 1) hb (by omega)
  rw [Cl_s]
  have s0 : Rn X (d + 4) co_Mo_bandLine (0, [some (vr 81), some (vl (yw T n b)), none, some (vi (Int32.ofNat b)), none], [], pm_mm al D I L) = cond (spw T b (te T n b - b) (wch 2)) (((Cl X (d + 4) 182 [vr 81, vi (Int32.ofNat b)] (pm_mm al D I L)).bind pm_ai).bind (fun r => Rn X (d + 4) co_Mo_bandLine (13, [some (vr 81), some (vl (yw T n b)), none, some (vi (Int32.ofNat b)), none], [vi r.1], r.2))) (cond (spw T b (te T n b - b) (wch 0)) (Rn X (d + 4) co_Mo_bandLine (35, [some (vr 81), some (vl (yw T n b)), none, some (vi (Int32.ofNat b)), none], [], pm_mm al D I L)) (cond (spw T b (te T n b - b) (wch 1)) (Rn X (d + 4) co_Mo_bandLine (35, [some (vr 81), some (vl (yw T n b)), none, some (vi (Int32.ofNat b)), none], [], pm_mm al D I L)) (some (some (vi 0), pm_mm al D (pm_up I 81 16 (I 81 12)) L)))) := by
    rw [sg_Mo_bandLine_0, y2, y0, y1, c_fails (d := d + 3)]
    simp only [Option.bind_some, pm_ai]
    rw [sg_Mo_bandLine_34, show pm_01 0 = true from rfl, cond_true]
  have sh : ∀ r, (cond (Nat.ble (pm_wd [vr 81, vl (yw T n b), vi (Int32.ofNat b)]) (pm_mx 183)) (Rn X (d + 4) (pm_co 183) (0, pm_ent (pm_mx 183) [vr 81, vl (yw T n b), vi (Int32.ofNat b)], [], pm_mm al D I L)) none = r) = (Rn X (d + 4) co_Mo_bandLine (0, [some (vr 81), some (vl (yw T n b)), none, some (vi (Int32.ofNat b)), none], [], pm_mm al D I L) = r) := fun _ => rfl
  simp only [sh, s0]
  rw [lnr, wat]
  cases h2 : spw T b (te T n b - b) (wch 2) with
  | true =>
    rw [spw_x (i := 2) (j := 0) (by decide) h2, spw_x (i := 2) (j := 1) (by decide) h2]
    simp only [cond_true, cond_false]
    rw [df (show ¬ 2 = 7 by omega), cond_false]
    have pl := c_pipeLine (X := X) (d := d) (al := al) (D := D) h
    show match (match rdn T n 2 4 0 (te T n b) (fun _ => 0) (lnf 2 ℓ f b) with
      | .inl q => .inl q
      | .inr (v, f', p) => .inr (2, v, f', p) : Nat ⊕ (Nat × (Nat → Nat) × (Nat × Nat) × Nat)) with
      | .inl q => _
      | .inr (w, v, f', p) => _
    revert pl
    cases rdn T n 2 4 0 (te T n b) (fun _ => 0) (lnf 2 ℓ f b) with
    | inl q =>
      intro pl
      obtain ⟨J, M, c1, c2⟩ := pl
      refine ⟨J, M, ?_, c2⟩
      rw [c1]
      simp only [Option.bind_some, pm_ai]
      rw [sg_Mo_bandLine_13, show pm_01 0 = true from rfl, cond_true]
    | inr x =>
      obtain ⟨v, f', p⟩ := x
      intro pl
      obtain ⟨J, M, c1, c2⟩ := pl
      refine ⟨J, M, ?_, c2⟩
      rw [c1]
      simp only [Option.bind_some, pm_ai]
      rw [sg_Mo_bandLine_13, show pm_01 1 = true from rfl, cond_true]
  | false =>
    cases h0 : spw T b (te T n b - b) (wch 0) with
    | true =>
      simp only [cond_true, cond_false]
      rw [df (show ¬ 0 = 7 by omega), cond_false]
      have pl := c_bellows (X := X) (d := d) (al := al) (D := D) (y := yw T n b) h (by rw [y1]; exact spw_x (i := 0) (by decide) h0)
      show match (match rdn T n 0 3 0 (te T n b) (fun _ => 0) (lnf 0 ℓ f b) with
        | .inl q => .inl q
        | .inr (v, f', p) => .inr (0, v, f', p) : Nat ⊕ (Nat × (Nat → Nat) × (Nat × Nat) × Nat)) with
        | .inl q => _
        | .inr (w, v, f', p) => _
      revert pl
      cases rdn T n 0 3 0 (te T n b) (fun _ => 0) (lnf 0 ℓ f b) with
      | inl q => exact fun pl => pl
      | inr x => exact fun pl => pl
    | false =>
      cases h1 : spw T b (te T n b - b) (wch 1) with
      | true =>
        simp only [cond_true, cond_false]
        rw [df (show ¬ 1 = 7 by omega), cond_false]
        have pl := c_strength (X := X) (d := d) (al := al) (D := D) (y := yw T n b) h (by rw [y1]; exact h1)
        show match (match rdn T n 1 1 0 (te T n b) (fun _ => 0) (lnf 1 ℓ f b) with
          | .inl q => .inl q
          | .inr (v, f', p) => .inr (1, v, f', p) : Nat ⊕ (Nat × (Nat → Nat) × (Nat × Nat) × Nat)) with
          | .inl q => _
          | .inr (w, v, f', p) => _
        revert pl
        cases rdn T n 1 1 0 (te T n b) (fun _ => 0) (lnf 1 ℓ f b) with
        | inl q => exact fun pl => pl
        | inr x => exact fun pl => pl
      | false =>
        simp only [cond_true, cond_false, decide_true]
        exact ⟨_, _, rfl, lnB_0 h⟩
end
