section
variable {X : Nat × (Nat → Int32)} {d : Nat} {al : List Nat} {D : Nat → Bool} {I : Nat → Nat → Int32} {L : Nat → Nat → Int64}
def bgI (I : Nat → Nat → Int32) : Nat → Nat → Int32 := pm_up (pm_up (pm_up (pm_up (pm_up I 53 0 (I 49 0)) 54 0 (I 49 2)) 55 0 0) 58 0 0) 49 15 0
theorem k_begin : Cl X (d + 1) 45 [vr 49] (pm_mm al D I L) = some (none, pm_mm al D (bgI I) L) := by
  rw [Cl_s]
  show Rn X d co_Pl_begin (0, [some (vr 49)], [], pm_mm al D I L) = _
  rw [sg_Pl_begin_0]; rfl
def plS (a j : Nat) : Prop := (53 ≤ a ∧ a ≤ 59) ∨ (a = 49 ∧ j = 15)
theorem bg_F (a j : Nat) (h : ¬ plS a j) : bgI I a j = I a j := by
  unfold plS at h
  rw [bgI, pm_up, if_neg (by omega), pm_up, if_neg (by omega), pm_up, if_neg (by omega), pm_up, if_neg (by omega), pm_up, if_neg (by omega)]
theorem bg_st (B : PB) (n : Nat) (w : Nat → Int32) (tr : Nat → Int32 → Bool) (hB : B = PBc I n) : stC (bgI I) 0 (pst B w tr 0) := by
  subst hB; simp [stC, bgI, pm_up, pst, PBc]
theorem trd_m1 (set : Int32) (t : Nat) (x : Int32) : trd set (-1) t x = hs set (Int32.ofNat t) := rfl
theorem k_through {n : Nat} (set : Int32) (hn : n ≤ 6) (en : I 49 3 = Int32.ofNat n) (hp : prm (I 51) n) (hw : ∀ t, t < 12 → ∀ k, k < 32 → tb (I 52 t) k = true → k < n) :
    ∃ J, Cl X (d + 3) 48 [vr 49, vi set] (pm_mm al D I L) = some (none, pm_mm al D J L) ∧ (∀ a j, ¬ plS a j → J a j = I a j)
      ∧ (∀ t, t < 12 → stD J (t + 1) (pst (PBc I n) (I 52) (trd set (-1)) (t + 1))) ∧ J 49 15 = srn (PBc I n) (I 52) (trd set (-1)) 12 ∧ J 57 0 = I 57 0 ∧ J 59 0 = I 59 0 ∧ J 58 0 = 0 := by
  rw [Cl_s]
  show ∃ J, Rn X (d + 2) co_Pl_through (0, [some (vr 49), some (vi set), none, none], [], pm_mm al D I L) = _ ∧ _
  simp only [sg_Pl_through_0, k_begin, Option.bind_some, pm_av, sg_Pl_through_4]
  generalize hB : PBc I n = B
  generalize htr : trd set (-1) = tr
  have h := lp (σ := (Nat → Nat → Int32) × Option pm_V) 12
    (fun t s => Rn X (d + 2) co_Pl_through (6, [some (vr 49), some (vi set), some (vi (Int32.ofNat t)), s.2], [], pm_mm al D s.1 L))
    (fun k s => (∀ a j, ¬ plS a j → s.1 a j = I a j) ∧ stC s.1 k (pst B (I 52) tr k) ∧ (∀ t, t < k → stD s.1 (t + 1) (pst B (I 52) tr (t + 1))) ∧ s.1 49 15 = srn B (I 52) tr k ∧ s.1 57 0 = I 57 0 ∧ s.1 59 0 = I 59 0 ∧ s.1 58 0 = 0)
    (fun t s ht hq => by
      obtain ⟨J, o3⟩ := s
      obtain ⟨q1, q2, q3, q4, q57, q59, q58⟩ := hq
      simp only at q1 q2 q3 q4 q57 q59 q58
      have h0 : decide ((12 : Int32) ≤ Int32.ofNat t) = false := (n_dle (a := 12) (by decide) (by omega)).trans (decide_eq_false (by omega))
      have i13 : pm_in (Int32.ofNat t) 13 = true := (n_in (by omega)).trans (decide_eq_true (by omega))
      have tn : (Int32.ofNat t).toNatClampNeg = t := n_tn (by omega)
      generalize hT : tr t (pst B (I 52) tr t).1 = T
      have hTb : tb set t = T := by rw [← hT, ← htr, trd_m1, hs_tb _ (by omega)]
      generalize hK : pm_up J 49 15 (srn B (I 52) tr (t + 1)) = K
      have kK : ∀ a j, ¬ (a = 49 ∧ j = 15) → K a j = J a j := fun a j h => by rw [← hK]; exact if_neg h
      have kI : ∀ a j, ¬ plS a j → K a j = I a j := fun a j h => by
        rw [kK a j (by unfold plS at h; omega)]; exact q1 a j h
      have hsn : srn B (I 52) tr (t + 1) = J 49 15 ||| cond (T && decide (J 54 t = 0)) (1 <<< (Int32.ofNat t &&& 31)) 0 := by
        rw [srn, ← q4, hT, q2.2.1]
      have s1 : Rn X (d + 2) co_Pl_through (6, [some (vr 49), some (vi set), some (vi (Int32.ofNat t)), o3], [], pm_mm al D J L)
          = Rn X (d + 2) co_Pl_through (51, [some (vr 49), some (vi set), some (vi (Int32.ofNat t)), some (vi (b01 T))], [], pm_mm al D K L) := by
        have hJK : cond (T && decide (J 54 t = 0)) (pm_up J 49 15 (J 49 15 ||| (1 <<< (Int32.ofNat t &&& 31)))) J = K := by
          rw [← hK, hsn]
          cases T && decide (J 54 t = 0) with
          | true => rfl
          | false =>
            simp only [cond_false, Int32.or_zero]
            funext a j
            rw [pm_up]; split
            · rename_i h; rw [h.1, h.2]
            · rfl
        rw [sg_Pl_through_6, h0, cond_false, hs0_tb _ (show t < 32 by omega), hTb, ← hJK]
        cases T with
        | false => simp only [Bool.not_false, cond_true, sg_Pl_through_25]; rfl
        | true =>
          simp only [Bool.not_true, cond_false, sg_Pl_through_25, i13, tn, cond_true, Bool.true_and]
          cases decide (J 54 t = 0) <;> rfl
      have e49 : K 49 3 = Int32.ofNat n := (kI 49 3 (by unfold plS; omega)).trans en
      have e51 : K 51 = I 51 := by funext j; exact kI 51 j (by unfold plS; omega)
      have e52 : K 52 t = I 52 t := kI 52 t (by unfold plS; omega)
      have eB : PBc K n = B := by
        rw [← hB, PBc, PBc, kI 49 0 (by unfold plS; omega), kI 49 1 (by unfold plS; omega), kI 49 2 (by unfold plS; omega), kI 49 4 (by unfold plS; omega), e51]
        have : dwC K = dwC I := by funext p; exact kI 50 _ (by unfold plS; omega)
        rw [this]
      obtain ⟨M, f1, f2, f3⟩ := k_step (X := X) (d := d) (al := al) (D := D) (L := L) (I := K) (t := t) (s := pst B (I 52) tr t) T hn e49 ht (by rw [e51]; exact hp) (by rw [e52]; exact hw t ht) ⟨(kK 53 t (by omega)).trans q2.1, (kK 54 t (by omega)).trans q2.2.1, (kK 55 t (by omega)).trans q2.2.2.1, (kK 58 t (by omega)).trans q2.2.2.2⟩
      rw [eB, e52] at f3
      have hps : pst B (I 52) tr (t + 1) = nx B (I 52 t) T (pst B (I 52) tr t) := by rw [pst, hT]
      rw [← hps] at f3
      refine ⟨(M, some (vi (b01 T))), ?_, fun a j h => ?_, f3.1, fun u hu => ?_, ?_, ?_, ?_, ?_⟩
      · show Rn X (d + 2) co_Pl_through _ = _
        rw [s1, sg_Pl_through_51, f1]
        simp only [Option.bind_some, pm_av, sg_Pl_through_57, n_s]
      · show M a j = I a j
        rw [f2 a j (by unfold plS at h; omega)]; exact kI a j h
      · by_cases hut : u = t
        · subst hut; exact f3
        · have hg : ∀ a, 53 ≤ a → a ≤ 59 → M a (u + 1) = J a (u + 1) := fun a h1 h2 => by rw [f2 a (u + 1) (by omega), kK a _ (by omega)]
          obtain ⟨⟨w1, w2, w3, w4⟩, w5, w6, w7⟩ := q3 u (by omega)
          exact ⟨⟨(hg 53 (by omega) (by omega)).trans w1, (hg 54 (by omega) (by omega)).trans w2, (hg 55 (by omega) (by omega)).trans w3, (hg 58 (by omega) (by omega)).trans w4⟩, (hg 57 (by omega) (by omega)).trans w5, (hg 59 (by omega) (by omega)).trans w6, (hg 56 (by omega) (by omega)).trans w7⟩
      · show M 49 15 = _
        rw [f2 49 15 (by omega), ← hK]; simp [pm_up]
      · show M 57 0 = _
        rw [f2 57 0 (by omega), kK 57 0 (by omega)]; exact q57
      · show M 59 0 = _
        rw [f2 59 0 (by omega), kK 59 0 (by omega)]; exact q59
      · show M 58 0 = _
        rw [f2 58 0 (by omega), kK 58 0 (by omega)]; exact q58)
    0 (bgI I, none) (Nat.zero_le 12) ⟨fun a j h => bg_F a j h, bg_st B n (I 52) tr hB.symm, fun t ht => absurd ht (Nat.not_lt_zero t), by simp [bgI, pm_up, srn], by simp [bgI, pm_up], by simp [bgI, pm_up], by simp [bgI, pm_up]⟩
  obtain ⟨⟨J, o3⟩, e1, e2, e3, e4, e5⟩ := h
  refine ⟨J, Eq.trans e1 ?_, e2, e4, e5⟩
  simp only
  rw [sg_Pl_through_6]; rfl
end
