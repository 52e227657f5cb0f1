section
variable {X : Nat × (Nat → Int32)} {d : Nat} {al : List Nat} {D : Nat → Bool} {I : Nat → Nat → Int32} {L : Nat → Nat → Int64}
theorem mn_comm (x y : Int32) : mn x y = mn y x := by
  unfold mn
  by_cases h : x < y
  · rw [if_pos h, if_neg (fun g => by rw [t_lt] at h g; omega)]
  · by_cases g : y < x
    · rw [if_neg h, if_pos g]
    · rw [if_neg h, if_neg g, t_eq]; rw [t_lt] at h g; omega
theorem k_min (x y : Int32) : Cl X (d + 1) 5 [vi x, vi y] (pm_mm al D I L) = some (some (vi (mn x y)), pm_mm al D I L) := by
  rw [Cl_s]
  show Rn X d co_Jm_min (0, [some (vi x), some (vi y)], [], pm_mm al D I L) = _
  rw [sg_Jm_min_0, mn_comm, mn]
  by_cases h : y < x
  · rw [decide_eq_true h, cond_true, sg_Jm_min_10, if_pos h]
  · rw [decide_eq_false h, cond_false, sg_Jm_min_10, if_neg h]
def mxx (x y : Int32) : Int32 := if x < y then y else x
theorem k_max (x y : Int32) : Cl X (d + 1) 4 [vi x, vi y] (pm_mm al D I L) = some (some (vi (mxx x y)), pm_mm al D I L) := by
  rw [Cl_s]
  show Rn X d co_Jm_max (0, [some (vi x), some (vi y)], [], pm_mm al D I L) = _
  rw [sg_Jm_max_0, mxx]
  by_cases h : x < y
  · rw [decide_eq_true h, cond_true, sg_Jm_max_10, if_pos h]
  · rw [decide_eq_false h, cond_false, sg_Jm_max_10, if_neg h]
def dwC (I : Nat → Nat → Int32) (p : Int32) : Int32 := I 50 p.toNatClampNeg
def dwn (I : Nat → Nat → Int32) (t : Nat) (q : Int32 × Int32 × Int32 × Int32) : Nat → Nat → Int32 :=
  pm_up (pm_up (pm_up (pm_up (pm_up I 53 (t + 1) q.1) 57 (t + 1) q.2.1) 58 (t + 1) q.2.2.1) 59 (t + 1) q.2.2.2) 55 (t + 1) (I 55 t ||| (I 58 t &&& q.2.2.1))
theorem k_drawAll {n t : Nat} (hn : n ≤ 6) (en : I 49 3 = Int32.ofNat n) (ht : t < 12) (hp : prm (I 51) n) (hw : ∀ k, k < 32 → tb (I 52 t) k = true → k < n) :
    Cl X (d + 1) 47 [vr 49, vi (Int32.ofNat t)] (pm_mm al D I L) = some (none, pm_mm al D (dwn I t (dr (I 52 t) (I 55 t) (I 53 (t + 1)) (dwC I) (I 51) n)) L) := by
  rw [Cl_s]
  show Rn X d co_Pl_drawAll (0, [some (vr 49), some (vi (Int32.ofNat t)), none, none, none, none, none, none, none], [], pm_mm al D I L) = _
  have i12 : pm_in (Int32.ofNat t) 12 = true := (n_in (by omega)).trans (decide_eq_true (by omega))
  have i13 : pm_in (Int32.ofNat t) 13 = true := (n_in (by omega)).trans (decide_eq_true (by omega))
  have j13 : pm_in (Int32.ofNat (t + 1)) 13 = true := (n_in (by omega)).trans (decide_eq_true (by omega))
  have tn : (Int32.ofNat t).toNatClampNeg = t := n_tn (by omega)
  have tn1 : (Int32.ofNat (t + 1)).toNatClampNeg = t + 1 := n_tn (by omega)
  rw [sg_Pl_drawAll_0]
  simp only [n_s, i12, i13, j13, tn, tn1, cond_true]
  have fin : ∀ (s : Int32 × Int32 × Int32 × Int32) (o3 o7 o8 : Option pm_V), s = dr (I 52 t) (I 55 t) (I 53 (t + 1)) (dwC I) (I 51) n →
      Rn X d co_Pl_drawAll (129, [some (vr 49), some (vi (Int32.ofNat t)), some (vi s.1), o3, some (vi (I 52 t &&& (I 55 t ^^^ (-1)))), some (vi s.2.1), some (vi s.2.2.2), o7, o8], [], pm_mm al D I L) = some (none, pm_mm al D (dwn I t (dr (I 52 t) (I 55 t) (I 53 (t + 1)) (dwC I) (I 51) n)) L) := fun s o3 o7 o8 es => by
    have hsil := dr_silent (w := I 52 t) (f := I 55 t) (br := I 53 (t + 1)) (dw := dwC I) hn hp hw
    rw [sg_Pl_drawAll_129]
    simp only [n_s, i13, j13, tn, tn1, cond_true, es, hsil]
    rw [dwn]
    congr 5
    simp [pm_up]
  have h : ∀ m i o8, i + m = n → Rn X d co_Pl_drawAll (37, [some (vr 49), some (vi (Int32.ofNat t)), some (vi (fo (dr1 (I 52 t) (I 55 t) (I 53 (t + 1)) (dwC I) (I 51)) i (I 53 (t + 1), 0, 0, 0)).1), some (vi (I 53 (t + 1))), some (vi (I 52 t &&& (I 55 t ^^^ (-1)))), some (vi (fo (dr1 (I 52 t) (I 55 t) (I 53 (t + 1)) (dwC I) (I 51)) i (I 53 (t + 1), 0, 0, 0)).2.1), some (vi (fo (dr1 (I 52 t) (I 55 t) (I 53 (t + 1)) (dwC I) (I 51)) i (I 53 (t + 1), 0, 0, 0)).2.2.2), some (vi (Int32.ofNat i)), o8], [], pm_mm al D I L) = some (none, pm_mm al D (dwn I t (dr (I 52 t) (I 55 t) (I 53 (t + 1)) (dwC I) (I 51) n)) L) := by
    intro m
    induction m with
    | zero =>
      intro i o8 hi
      have : i = n := by omega
      subst this
      rw [sg_Pl_drawAll_37, en, decide_eq_true (Int32.le_refl _), cond_true]
      exact fin _ _ _ _ rfl
    | succ m ih =>
      intro i o8 hi
      obtain ⟨p, hpn, ep⟩ := hp.1 i (by omega)
      have h0 : decide (Int32.ofNat n ≤ Int32.ofNat i) = false := (n_dle (by omega) (by omega)).trans (decide_eq_false (by omega))
      have i6 : pm_in (Int32.ofNat i) 6 = true := (n_in (by omega)).trans (decide_eq_true (by omega))
      have p6 : pm_in (Int32.ofNat p) 6 = true := (n_in (by omega)).trans (decide_eq_true (by omega))
      have ih' := ih (i + 1) (some (vi (Int32.ofNat p))) (by omega)
      rw [sg_Pl_drawAll_37, en, h0, cond_false]
      by_cases hz : I 52 t &&& (I 55 t ^^^ (-1)) = 0
      · rw [decide_eq_true hz, cond_true]
        refine fin _ _ _ _ ?_
        have hc : ∀ k, k ≤ n → fo (dr1 (I 52 t) (I 55 t) (I 53 (t + 1)) (dwC I) (I 51)) k (I 53 (t + 1), 0, 0, 0) = (I 53 (t + 1), 0, 0, 0) := by
          intro k
          induction k with
          | zero => intro _; rfl
          | succ k ihk =>
            intro hk
            obtain ⟨r, hr, er⟩ := hp.1 k (by omega)
            rw [fo, ihk (by omega), dr1_skip (p := r) (by omega) er (by rw [hz, tb_0])]
        rw [dr, hc n (Nat.le_refl n), hc i (by omega)]
      · rw [decide_eq_false hz, cond_false, i6, cond_true, n_tn (show i < 2147483648 by omega), ep, hs0_tb _ (show p < 32 by omega), p6]
        simp only [cond_true, n_tn (show p < 2147483648 by omega), sg_Pl_drawAll_123, n_s]
        rw [fo] at ih'
        generalize fo (dr1 (I 52 t) (I 55 t) (I 53 (t + 1)) (dwC I) (I 51)) i (I 53 (t + 1), 0, 0, 0) = s at ih' ⊢
        obtain ⟨s1, s2, s3, s4⟩ := s
        cases hb : tb (I 52 t &&& (I 55 t ^^^ (-1))) p with
        | false =>
          rw [dr1_skip (p := p) (by omega) ep hb] at ih'
          exact ih'
        | true =>
          have hb' := hb
          rw [tb_and, tb_not _ (show p < 32 by omega), Bool.and_eq_true, Bool.not_eq_true'] at hb'
          have hcnd : ((!hs (I 52 t) (Int32.ofNat p)) || hs (I 55 t) (Int32.ofNat p)) = false := by
            rw [hs_tb _ (by omega), hs_tb _ (by omega), hb'.1, hb'.2]; rfl
          have edw : dwC I (Int32.ofNat p) = I 50 p := by rw [dwC, n_tn (by omega)]
          simp only [dr1, ep, hcnd, edw] at ih'
          simp only [Bool.not_true, cond_false]
          by_cases h3 : s1 < I 50 p
          · have h3' : ¬ I 50 p ≤ s1 := Int32.not_le.mpr h3
            by_cases h4 : I 53 (t + 1) < I 50 p
            · have h4' : ¬ I 50 p ≤ I 53 (t + 1) := Int32.not_le.mpr h4
              simp only [h3', h4', if_false, Bool.false_eq_true, Int32.or_zero] at ih'
              simp only [h3, h4, decide_true, cond_true]
              exact ih'
            · have h4' : I 50 p ≤ I 53 (t + 1) := Int32.not_lt.mp h4
              simp only [h3', h4', if_false, if_true, Bool.false_eq_true] at ih'
              simp only [h3, h4, decide_true, decide_false, cond_true, cond_false]
              exact ih'
          · have h3' : I 50 p ≤ s1 := Int32.not_lt.mp h3
            simp only [h3', if_false, if_true, Bool.false_eq_true] at ih'
            simp only [h3, decide_false, cond_false]
            exact ih'
  exact h n 0 none (by omega)
end
