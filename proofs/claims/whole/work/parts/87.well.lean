section
variable {X : Nat × (Nat → Int32)} {d : Nat} {al : List Nat} {D : Nat → Bool} {I : Nat → Nat → Int32} {L : Nat → Nat → Int64}
theorem d_ltle (x y : Int32) : decide (x < y) = !decide (y ≤ x) := by
  by_cases h : x < y
  · rw [dt h, df (Int32.not_le.mpr h)]; rfl
  · rw [df h, dt (Int32.not_lt.mp h)]; rfl
def trw (set below : Int32) (t : Nat) (air : Int32) : Bool := hs set (Int32.ofNat t) || decide (air < below)
def wlP (I J : Nat → Nat → Int32) : Prop := (∀ a j, ¬ plS a j → J a j = I a j) ∧ J 57 0 = I 57 0 ∧ J 59 0 = I 59 0
theorem PBc_up {I J : Nat → Nat → Int32} (n : Nat) (h : ∀ a j, ¬ plS a j → J a j = I a j) : PBc J n = PBc I n := by
  have e51 : J 51 = I 51 := by funext j; exact h 51 j (by unfold plS; omega)
  have edw : dwC J = dwC I := by funext p; exact h 50 _ (by unfold plS; omega)
  rw [PBc, PBc, h 49 0 (by unfold plS; omega), h 49 1 (by unfold plS; omega), h 49 2 (by unfold plS; omega), h 49 4 (by unfold plS; omega), e51, edw]
theorem k_well {n : Nat} (set below : Int32) (hn : n ≤ 6) (en : I 49 3 = Int32.ofNat n) (hp : prm (I 51) n) (hw : ∀ t, t < 12 → ∀ k, k < 32 → tb (I 52 t) k = true → k < n) :
    ∃ J, Cl X (d + 3) 49 [vr 49, vi set, vi below] (pm_mm al D I L) = some (some (vi (b01 (well (fun t => (pst (PBc I n) (I 52) (trw set below) (t + 1)).2.2.2.2.1) 0 12))), pm_mm al D J L) ∧ wlP I J := by
  rw [Cl_s]
  show ∃ J, Rn X (d + 2) co_Pl_well (0, [some (vr 49), some (vi set), some (vi below), none], [], pm_mm al D I L) = _ ∧ _
  simp only [sg_Pl_well_0, k_begin, Option.bind_some, pm_av, sg_Pl_well_4]
  generalize hB : PBc I n = B
  generalize htr : trw set below = tr
  suffices h : ∀ m t J, t + m = 12 → wlP I J → stC J t (pst B (I 52) tr t) → ∃ K, Rn X (d + 2) co_Pl_well (6, [some (vr 49), some (vi set), some (vi below), some (vi (Int32.ofNat t))], [], pm_mm al D J L) = some (some (vi (b01 (well (fun t => (pst B (I 52) tr (t + 1)).2.2.2.2.1) t m))), pm_mm al D K L) ∧ wlP I K from
    h 12 0 (bgI I) rfl ⟨fun a j h => bg_F a j h, by simp [bgI, pm_up], by simp [bgI, pm_up]⟩ (bg_st B n (I 52) tr hB.symm)
  intro m
  induction m with
  | zero => intro t J ht hJ hs; refine ⟨J, ?_, hJ⟩; simp (disch := omega) only [sg_Pl_well_6, a0, a1, a2, a3, a4, a5, a6, a7, a8, a9, a10, a11, a12, a13, a20, a24, a60, a64, a84, a99, a100, a600, a720, a4096, a1000000, dt, cond_true, well]; rfl
  | succ m ih =>
    intro t J ht hJ hs
    have e49 : J 49 3 = Int32.ofNat n := (hJ.1 49 3 (by unfold plS; omega)).trans en
    have e51 : J 51 = I 51 := by funext j; exact hJ.1 51 j (by unfold plS; omega)
    have e52 : J 52 t = I 52 t := hJ.1 52 t (by unfold plS; omega)
    have eB : PBc J n = B := (PBc_up n hJ.1).trans hB
    generalize hT : tr t (pst B (I 52) tr t).1 = T
    have hT2 : T = (tb set t || !decide (below ≤ J 53 t)) := by rw [← hT, ← htr, trw, hs_tb _ (by omega), hs.1, d_ltle, htr]
    obtain ⟨M, f1, f2, f3⟩ := k_step (X := X) (d := d) (al := al) (D := D) (L := L) (I := J) (t := t) (s := pst B (I 52) tr t) T hn e49 (by omega) (by rw [e51]; exact hp) (by rw [e52]; exact hw t (by omega)) hs
    have hps : pst B (I 52) tr (t + 1) = nx B (I 52 t) T (pst B (I 52) tr t) := by rw [pst, hT]
    rw [eB, e52, ← hps] at f3
    have s1 : Rn X (d + 2) co_Pl_well (6, [some (vr 49), some (vi set), some (vi below), some (vi (Int32.ofNat t))], [], pm_mm al D J L) = Rn X (d + 2) co_Pl_well (37, [some (vr 49), some (vi set), some (vi below), some (vi (Int32.ofNat t))], [vi (b01 T), vi (Int32.ofNat t), vr 49], pm_mm al D J L) := by
      simp (disch := omega) only [sg_Pl_well_6, a0, a1, a2, a3, a4, a5, a6, a7, a8, a9, a10, a11, a12, a13, a20, a24, a60, a64, a84, a99, a100, a600, a720, a4096, a1000000, df, cond_false, hs0_tb, n_in, dt, cond_true, n_tn, sg_Pl_well_32, hT2]
      cases tb set t <;> cases decide (below ≤ J 53 t) <;> rfl
    have hM : wlP I M := by
      refine ⟨fun a j h => ?_, ?_, ?_⟩
      · rw [f2 a j (by unfold plS at h; omega)]; exact hJ.1 a j h
      · rw [f2 57 0 (by omega)]; exact hJ.2.1
      · rw [f2 59 0 (by omega)]; exact hJ.2.2
    have e58 : M 58 (t + 1) = (pst B (I 52) tr (t + 1)).2.2.2.2.1 := f3.1.2.2.2
    rw [s1, sg_Pl_well_37, f1]
    simp (disch := omega) only [Option.bind_some, pm_av, sg_Pl_well_40, n_s, n_in, dt, cond_true, n_tn, e58, well]
    cases hz : decide ((pst B (I 52) tr (t + 1)).2.2.2.2.1 = 0) with
    | true => exact ih (t + 1) M (by omega) hM f3.1
    | false => exact ⟨M, rfl, hM⟩
theorem well_congr {g h : Nat → Int32} : ∀ n k, (∀ j, k ≤ j → j < k + n → g j = h j) → well g k n = well h k n
  | 0, _, _ => rfl
  | n + 1, k, e => by rw [well, well, e k (by omega) (by omega), well_congr n (k + 1) (fun j h1 h2 => e j (by omega) (by omega))]
/-- the play stands prepared for a band and a score's beats -/
def pdP (J : Nat → Nat → Int32) (B : PB) (w : Nat → Int32) : Prop := B.2.2.2.2.1 ≤ 6 ∧ J 49 3 = Int32.ofNat B.2.2.2.2.1 ∧ (∀ p, p < 6 → J 51 p = Int32.ofNat p) ∧ (∀ t, t < 12 → ∀ k, k < 32 → tb (J 52 t) k = true → k < B.2.2.2.2.1)
  ∧ J 49 4 = B.2.1 ∧ (∀ i, i < B.2.2.2.2.1 → J 50 i = B.2.2.2.2.2.1 (Int32.ofNat i)) ∧ (∀ t, t < 12 → ∀ i, i < B.2.2.2.2.1 → hs (J 52 t) (Int32.ofNat i) = hs (w t) (Int32.ofNat i)) ∧ ∀ i, B.2.2.2.2.2.2 i = Int32.ofNat i
theorem pd_up {J K : Nat → Nat → Int32} {B : PB} {w : Nat → Int32} (h : pdP J B w) (e : ∀ a j, ¬ plS a j → ¬ (a = 49 ∧ j ≤ 2) → K a j = J a j) : pdP K B w := by
  obtain ⟨h1, h2, h3, h4, h5, h6, h7, h8⟩ := h
  refine ⟨h1, ?_, fun p hp => ?_, fun t ht => ?_, ?_, fun i hi => ?_, fun t ht => ?_, h8⟩
  · rw [e 49 3 (by unfold plS; omega) (by omega)]; exact h2
  · rw [e 51 p (by unfold plS; omega) (by omega)]; exact h3 p hp
  · rw [e 52 t (by unfold plS; omega) (by omega)]; exact h4 t ht
  · rw [e 49 4 (by unfold plS; omega) (by omega)]; exact h5
  · rw [e 50 i (by unfold plS; omega) (by omega)]; exact h6 i hi
  · rw [e 52 t (by unfold plS; omega) (by omega)]; exact h7 t ht
theorem pd_pst {J : Nat → Nat → Int32} {B : PB} {w : Nat → Int32} (h : pdP J B w) (tr : Nat → Int32 → Bool) (t : Nat) (ht : t ≤ 12) :
    pst (PBc J B.2.2.2.2.1) (J 52) tr t = pst (J 49 0, B.2.1, J 49 1, J 49 2, B.2.2.2.2.1, B.2.2.2.2.2.1, B.2.2.2.2.2.2) w tr t := by
  obtain ⟨h1, h2, h3, h4, h5, h6, h7, h8⟩ := h
  refine pst_mask (B := PBc J B.2.2.2.2.1) (C := (J 49 0, B.2.1, J 49 1, J 49 2, B.2.2.2.2.1, B.2.2.2.2.2.1, B.2.2.2.2.2.2)) rfl h5 rfl rfl rfl (fun i hi => ?_) t (fun u hu i hi => ?_) (fun _ _ _ => rfl)
  · have hi : i < B.2.2.2.2.1 := hi
    have e1 : J 51 i = Int32.ofNat i := h3 i (by omega)
    refine ⟨e1.trans (h8 i).symm, ?_⟩
    show dwC J (J 51 i) = B.2.2.2.2.2.1 (B.2.2.2.2.2.2 i)
    rw [e1, dwC, n_tn (by omega), h6 i hi, h8 i]
  · have hi : i < B.2.2.2.2.1 := hi
    show hs (J 52 u) (B.2.2.2.2.2.2 i) = hs (w u) (B.2.2.2.2.2.2 i)
    rw [h8 i]; exact h7 u (by omega) i hi
theorem k_wellB {J : Nat → Nat → Int32} {B : PB} {w : Nat → Int32} (set below : Int32) (h : pdP J B w) :
    ∃ K, Cl X (d + 3) 49 [vr 49, vi set, vi below] (pm_mm al D J L) = some (some (vi (b01 (well (fun t => (pst (J 49 0, B.2.1, J 49 1, J 49 2, B.2.2.2.2.1, B.2.2.2.2.2.1, B.2.2.2.2.2.2) w (trw set below) (t + 1)).2.2.2.2.1) 0 12))), pm_mm al D K L) ∧ wlP J K := by
  obtain ⟨K, e1, e2⟩ := k_well (X := X) (d := d) (al := al) (D := D) (L := L) (I := J) (n := B.2.2.2.2.1) set below h.1 h.2.1 (prm_id h.1 h.2.2.1) h.2.2.2.1
  refine ⟨K, e1.trans ?_, e2⟩
  rw [well_congr 12 0 (fun j _ hj => by rw [pd_pst h (trw set below) (j + 1) (by omega)])]
theorem k_pd {m : Nat → Nat} {b s : Nat} {J : Nat → Nat → Int32} (g : rG I m) (r : RL I m) (hb : b < m 0) (hsm : s < m 1) (h : prP I J b s) : pdP J (bdO I b) (wn (scO I s)) ∧ J 49 0 = (bdO I b).1 ∧ J 49 1 = (bdO I b).2.2.1 ∧ J 49 2 = (bdO I b).2.2.2.1 := by
  obtain ⟨p1, p2, p3, p4, p5⟩ := k_prepared g r hb hsm h
  obtain ⟨⟨h1, h2, h3, h4, h5, h6, h7⟩, h8⟩ := h
  obtain ⟨g1, g2, _⟩ := g.2.1 b hb
  obtain ⟨r1, r2, r3, r4, r5, r6⟩ := r.2.1 b hb
  have en : I (9 + 5 * b) 4 = Int32.ofNat (I 87 (29 * b)).toNatClampNeg := r1.trans (n_of g2)
  refine ⟨⟨p1, p2, h7, p4, h2.trans r3, fun i hi => ?_, fun t ht i hi => ?_, fun _ => rfl⟩, h1.trans r2, h3.trans r4, h4.trans r5⟩
  · have hi : i < (I 87 (29 * b)).toNatClampNeg := hi
    show J 50 i = dwR I b (Int32.ofNat i)
    rw [dwR, n_tn (by omega), h6 i (by omega), (r6 i hi).1]
  · have hi : i < (I 87 (29 * b)).toNatClampNeg := hi
    rw [hs_tb _ (by omega), hs_tb _ (by omega), h8 t ht, en, tb_and, tb_mk g1 (by omega), sR_wn (r.2.2.1 s hsm), dt hi, Bool.and_true]
/-- breath is never below 0 -/
theorem mn_ti (x y : Int32) : (mn x y).toInt = if x.toInt < y.toInt then x.toInt else y.toInt := by
  unfold mn
  by_cases h : x < y
  · rw [if_pos h, if_pos (t_lt.mp h)]
  · rw [if_neg h, if_neg (fun c => h (t_lt.mpr c))]
def bG (B : PB) : Prop := rg B.1 0 99 ∧ rg B.2.1 0 9 ∧ rg B.2.2.1 0 20 ∧ ∀ i, i < B.2.2.2.2.1 → rg (B.2.2.2.2.2.1 (B.2.2.2.2.2.2 i)) 0 9
theorem dr_air {w f br : Int32} {dw : Int32 → Int32} {rw : Nat → Int32} {n : Nat} (h0 : 0 ≤ br.toInt) (hd : ∀ i, i < n → rg (dw (rw i)) 0 9) : ∀ i, i ≤ n → 0 ≤ (fo (dr1 w f br dw rw) i (br, 0, 0, 0)).1.toInt ∧ (fo (dr1 w f br dw rw) i (br, 0, 0, 0)).1.toInt ≤ br.toInt
  | 0, _ => ⟨h0, Int.le_refl _⟩
  | i + 1, hi => by
    obtain ⟨h1, h2⟩ := dr_air h0 hd i (by omega)
    obtain ⟨d1, d2⟩ := hd i (by omega)
    rw [fo]
    generalize fo (dr1 w f br dw rw) i (br, 0, 0, 0) = s at h1 h2
    have := t_rg br
    rw [dr1]
    split
    · exact ⟨h1, h2⟩
    · split
      · rename_i hc
        rw [t_le] at hc
        show 0 ≤ (s.1 - dw (rw i)).toInt ∧ (s.1 - dw (rw i)).toInt ≤ br.toInt
        rw [t_sub (by omega) (by omega)]; omega
      · exact ⟨h1, h2⟩
theorem air_nn {B : PB} {w : Nat → Int32} {tr : Nat → Int32 → Bool} (g : bG B) : ∀ t, 0 ≤ (pst B w tr t).1.toInt ∧ (pst B w tr t).1.toInt ≤ 99
  | 0 => g.1
  | t + 1 => by
    obtain ⟨h1, h2⟩ := air_nn (w := w) (tr := tr) g t
    obtain ⟨⟨a1, a2⟩, ⟨b1, b2⟩, ⟨c1, c2⟩, hd⟩ := g
    rw [pst]
    generalize pst B w tr t = s at h1 h2
    have ha : 0 ≤ (nxa B (tr t s.1) s).toInt ∧ (nxa B (tr t s.1) s).toInt ≤ 99 := by
      rw [nxa]
      cases nxc (tr t s.1) s with
      | false => exact ⟨h1, h2⟩
      | true =>
        show 0 ≤ (mn B.1 (s.1 + B.2.2.1)).toInt ∧ _
        have e : (s.1 + B.2.2.1).toInt = s.1.toInt + B.2.2.1.toInt := t_add (by omega) (by omega)
        rw [cond_true, mn_ti, e]; split <;> omega
    have hl : 0 ≤ (nxl B (tr t s.1) s).toInt ∧ (nxl B (tr t s.1) s).toInt ≤ (nxa B (tr t s.1) s).toInt := by
      rw [nxl, mn_ti]; split <;> omega
    have hs : (nxa B (tr t s.1) s - nxl B (tr t s.1) s).toInt = (nxa B (tr t s.1) s).toInt - (nxl B (tr t s.1) s).toInt := t_sub (by omega) (by omega)
    have := dr_air (w := w t) (f := s.2.2.1) (br := nxa B (tr t s.1) s - nxl B (tr t s.1) s) (by omega) hd B.2.2.2.2.1 (Nat.le_refl _)
    show 0 ≤ (dr (w t) s.2.2.1 (nxa B (tr t s.1) s - nxl B (tr t s.1) s) B.2.2.2.2.2.1 B.2.2.2.2.2.2 B.2.2.2.2.1).1.toInt ∧ (dr (w t) s.2.2.1 (nxa B (tr t s.1) s - nxl B (tr t s.1) s) B.2.2.2.2.2.1 B.2.2.2.2.2.2 B.2.2.2.2.1).1.toInt ≤ 99
    rw [dr]; omega
theorem pst_tr {B : PB} {w : Nat → Int32} {tr ur : Nat → Int32 → Bool} : ∀ t, (∀ u, u < t → tr u (pst B w tr u).1 = ur u (pst B w tr u).1) → pst B w tr t = pst B w ur t
  | 0, _ => rfl
  | t + 1, h => by
    have ih := pst_tr t (fun u hu => h u (by omega))
    rw [pst, pst, h t (by omega), ih]
theorem pst_trw {B : PB} {w : Nat → Int32} (g : bG B) (set : Int32) (t : Nat) : pst B w (trw set 0) t = pst B w (trd set (-1)) t :=
  pst_tr t (fun u hu => by
    have h := (air_nn (w := w) (tr := trw set 0) g u).1
    rw [trw, trd_m1, df (show ¬ (pst B w (trw set 0) u).1 < 0 from fun c => by rw [t_lt] at c; have e0 : (0 : Int32).toInt = 0 := rfl; omega), Bool.or_false])
theorem pst_lazy {B : PB} {w : Nat → Int32} (set v : Int32) (hv : 0 ≤ v) (t : Nat) (ht : t ≤ 12) : pst B w (trw 0 v) t = pst B w (trd set v) t :=
  pst_tr t (fun u hu => by rw [trw, trd, dt hv, cond_true, hs_tb _ (by omega), tb_0, Bool.false_or, d_ltle])
theorem bG_O {m : Nat → Nat} {b : Nat} (g : rG I m) (hb : b < m 0) : bG (bdO I b) := by
  obtain ⟨g1, g2, g3, g4, g5, g6, g7⟩ := g.2.1 b hb
  refine ⟨⟨by have := g3.1; show 0 ≤ (I 87 (29 * b + 1)).toInt; omega, g3.2⟩, g4, g5, fun i hi => ?_⟩
  have hi : i < (I 87 (29 * b)).toNatClampNeg := hi
  obtain ⟨q, _⟩ := g7 i hi
  show rg (dwR I b (Int32.ofNat i)) 0 9
  rw [dwR, n_tn (by omega)]
  exact ⟨by have := q.1; omega, q.2⟩
end
