section
variable {X : Nat × (Nat → Int32)} {d : Nat} {al : List Nat} {D : Nat → Bool} {I : Nat → Nat → Int32} {L : Nat → Nat → Int64}
theorem k_silences {n : Nat} (set en2 : Int32) (hn : n ≤ 6) (en : I 49 3 = Int32.ofNat n) (hp : prm (I 51) n) (hw : ∀ t, t < 12 → ∀ k, k < 32 → tb (I 52 t) k = true → k < n) :
    ∃ J u, Cl X (d + 3) 50 [vr 49, vi set, vi en2] (pm_mm al D I L) = some (some (vi u), pm_mm al D J L) ∧ wlP I J
      ∧ (fo (sil1 (fun t => (pst (PBc I n) (I 52) (trd set (-1)) (t + 1)).2.2.2.2.1)) 12 0 < en2 → u = fo (sil1 (fun t => (pst (PBc I n) (I 52) (trd set (-1)) (t + 1)).2.2.2.2.1)) 12 0)
      ∧ (¬ fo (sil1 (fun t => (pst (PBc I n) (I 52) (trd set (-1)) (t + 1)).2.2.2.2.1)) 12 0 < en2 → ¬ u < en2) := by
  rw [Cl_s]
  show ∃ J u, Rn X (d + 2) co_Pl_silences (0, [some (vr 49), some (vi set), some (vi en2), none, none], [], pm_mm al D I L) = _ ∧ _
  simp only [sg_Pl_silences_0, k_begin, Option.bind_some, pm_av, sg_Pl_silences_4]
  generalize hB : PBc I n = B
  generalize htr : trd set (-1) = tr
  generalize hG : (fun t => (pst B (I 52) tr (t + 1)).2.2.2.2.1) = G
  have hbit : ∀ t, psB n (pst B (I 52) tr t) := fun t => by
    have := ps_bits (B := B) (w := I 52) (tr := tr) (by rw [← hB]; exact hn) (fun i hi => by rw [← hB] at hi ⊢; exact hp.1 i hi) t
    rw [← hB] at this ⊢; exact this
  suffices h : ∀ m t J, t + m = 12 → wlP I J → stC J t (pst B (I 52) tr t) → ∃ K u, Rn X (d + 2) co_Pl_silences (9, [some (vr 49), some (vi set), some (vi en2), some (vi (fo (sil1 G) t 0)), some (vi (Int32.ofNat t))], [], pm_mm al D J L) = some (some (vi u), pm_mm al D K L) ∧ wlP I K ∧ (fo (sil1 G) 12 0 < en2 → u = fo (sil1 G) 12 0) ∧ (¬ fo (sil1 G) 12 0 < en2 → ¬ u < en2) from
    h 12 0 (bgI I) rfl ⟨fun a j h => bg_F a j h, by simp [bgI, pm_up], by simp [bgI, pm_up]⟩ (bg_st B n (I 52) tr hB.symm)
  intro m
  induction m with
  | zero =>
    intro t J ht hJ hs
    obtain rfl : t = 12 := by omega
    refine ⟨J, fo (sil1 G) 12 0, ?_, hJ, fun _ => rfl, fun h => h⟩
    rw [sg_Pl_silences_9]
    simp only [sg_Pl_silences_62]; rfl
  | succ m ih =>
    intro t J ht hJ hs
    by_cases hst : en2 ≤ fo (sil1 G) t 0
    · refine ⟨J, fo (sil1 G) t 0, ?_, hJ, fun h => ?_, fun _ h => absurd hst (Int32.not_le.mpr h)⟩
      · rw [sg_Pl_silences_9, dt hst]
        simp (disch := omega) only [a0, a1, a2, a3, a4, a5, a6, a7, a8, a9, a10, a11, a12, a13, a20, a24, a60, a64, a84, a99, a100, a600, a720, a4096, a1000000, df, cond_false, cond_true, sg_Pl_silences_62]
      · exfalso
        have h1 := sil_mono G t (m + 1) (by omega)
        rw [show t + (m + 1) = 12 by omega] at h1
        rw [t_lt] at h; rw [t_le] at hst; omega
    · have e49 : J 49 3 = Int32.ofNat n := (hJ.1 49 3 (by unfold plS; omega)).trans en
      have e51 : J 51 = I 51 := by funext j; exact hJ.1 51 j (by unfold plS; omega)
      have e52 : J 52 t = I 52 t := hJ.1 52 t (by unfold plS; omega)
      have eB : PBc J n = B := (PBc_up n hJ.1).trans hB
      generalize hT : tr t (pst B (I 52) tr t).1 = T
      have hT2 : tb set t = T := by rw [← hT, ← htr, trd_m1, hs_tb _ (by omega)]
      obtain ⟨M, f1, f2, f3⟩ := k_step (X := X) (d := d) (al := al) (D := D) (L := L) (I := J) (t := t) (s := pst B (I 52) tr t) T hn e49 (by omega) (by rw [e51]; exact hp) (by rw [e52]; exact hw t (by omega)) hs
      have hps : pst B (I 52) tr (t + 1) = nx B (I 52 t) T (pst B (I 52) tr t) := by rw [pst, hT]
      rw [eB, e52, ← hps] at f3
      have hM : wlP I M := by
        refine ⟨fun a j h => ?_, ?_, ?_⟩
        · rw [f2 a j (by unfold plS at h; omega)]; exact hJ.1 a j h
        · rw [f2 57 0 (by omega)]; exact hJ.2.1
        · rw [f2 59 0 (by omega)]; exact hJ.2.2
      have e58 : M 58 (t + 1) = G t := by rw [← hG]; exact f3.1.2.2.2
      have sm : sma (M 58 (t + 1)) := by
        rw [f3.1.2.2.2]; exact sma_b (n := 6) (by omega) (fun k hk hh => Nat.lt_of_lt_of_le ((hbit (t + 1) k hk).2.2.1 hh) hn)
      have bc := k_bitCount (X := X) (d := d + 1) (al := al) (D := D) (L := L) (I := M) sm.1 sm.2
      have s1 : Rn X (d + 2) co_Pl_silences (9, [some (vr 49), some (vi set), some (vi en2), some (vi (fo (sil1 G) t 0)), some (vi (Int32.ofNat t))], [], pm_mm al D J L) = Rn X (d + 2) co_Pl_silences (38, [some (vr 49), some (vi set), some (vi en2), some (vi (fo (sil1 G) t 0)), some (vi (Int32.ofNat t))], [vi (b01 T), vi (Int32.ofNat t), vr 49], pm_mm al D J L) := by
        rw [sg_Pl_silences_9, df hst]
        simp (disch := omega) only [a0, a1, a2, a3, a4, a5, a6, a7, a8, a9, a10, a11, a12, a13, a20, a24, a60, a64, a84, a99, a100, a600, a720, a4096, a1000000, df, cond_false, hs0_tb, hT2]
        cases T <;> rfl
      obtain ⟨K, u, k1, k2, k3, k4⟩ := ih (t + 1) M (by omega) hM f3.1
      refine ⟨K, u, ?_, k2, k3, k4⟩
      rw [s1, sg_Pl_silences_38, f1]
      simp (disch := omega) only [Option.bind_some, pm_av, sg_Pl_silences_41, n_s, n_in, dt, cond_true, n_tn, bc, pm_ai, sg_Pl_silences_54]
      rw [e58]
      exact k1
def qrF (J K : Nat → Nat → Int32) : Prop := (∀ a j, ¬ plS a j → a ≠ 51 → a ≠ 80 → K a j = J a j) ∧ K 57 0 = J 57 0 ∧ K 59 0 = J 59 0
theorem k_bestDrawingRow {B : PB} {w : Nat → Int32} (set : Int32) (h : pdP I B w) (h0 : I 49 0 = B.1) (h1 : I 49 1 = B.2.2.1) (h2 : I 49 2 = B.2.2.2.1) :
    ∃ J, Cl X (d + 4) 134 [vr 1, vi set] (pm_mm al D I L) = some (some (vi (bst (rkv B w set) B.2.2.2.2.1).1), pm_mm al D J L) ∧ qrF I J ∧ ∀ p, p < 6 → J 80 p = Int32.ofNat (li (bst (rkv B w set) B.2.2.2.2.1).2 p) := by
  obtain ⟨b1, b2, b3, b4, b5, b6, b7, b8⟩ := h
  generalize hn : B.2.2.2.2.1 = n at b1 b2 b4 b6 b7 ⊢
  rw [Cl_s]
  show ∃ J, Rn X (d + 3) co_Ch_bestDrawingRow (0, [some (vr 1), some (vi set), none, none, none, none], [], pm_mm al D I L) = _ ∧ _
  have kf := k_firstRow (X := X) (d := d + 2) (al := al) (D := D) (L := L) (I := I) (Or.inl rfl : (51 = 51 ∨ 51 = 79))
  rw [sg_Ch_bestDrawingRow_0, kf]
  simp only [Option.bind_some, pm_av, sg_Ch_bestDrawingRow_16]
  generalize hf : rkv B w set = f
  have f1 : ∀ l, f l < 1000000 ∧ 0 ≤ (f l).toInt := fun l => by
    have := rkv_rg B w set l
    rw [hf] at this
    rw [t_lt]; have e : (1000000 : Int32).toInt = 1000000 := rfl; omega
  have turn : ∀ l q K o5 tn, tn < 720 → 0 < q.1 → okB n l = true → qrF I K → rwP K 51 (li l) → (q.1 < 1000000 → ∀ p, p < 6 → K 80 p = Int32.ofNat (li q.2 p)) →
      ∃ M p5, Rn X (d + 3) co_Ch_bestDrawingRow (19, [some (vr 1), some (vi set), some (vi q.1), some (vi 1), some (vi (Int32.ofNat tn)), o5], [], pm_mm al D K L) = Rn X (d + 3) co_Ch_bestDrawingRow (19, [some (vr 1), some (vi set), some (vi (bs1 f q l).1), some (vi (b01 (nr n l).isSome)), some (vi (Int32.ofNat (tn + 1))), p5], [], pm_mm al D M L)
        ∧ qrF I M ∧ (∀ l', nr n l = some l' → rwP M 51 (li l')) ∧ (∀ p, p < 6 → M 80 p = Int32.ofNat (li (bs1 f q l).2 p)) := by
    intro l q K o5 tn htn hq0 ho hK hr hq
    obtain ⟨l6, lp⟩ := ok_prm ho b1
    have K3 : K 49 3 = Int32.ofNat n := (hK.1 49 3 (by unfold plS; omega) (by omega) (by omega)).trans b2
    have K51 : ∀ i, i < n → K 51 i = Int32.ofNat (li l i) := fun i hi => hr i (by omega)
    have kp : prm (K 51) n := by
      obtain ⟨a1, a2, a3⟩ := lp
      refine ⟨fun i hi => by rw [K51 i hi]; exact a1 i hi, fun p hp => ?_, fun i j hi hj e => ?_⟩
      · obtain ⟨i, hi, e⟩ := a2 p hp; exact ⟨i, hi, by rw [K51 i hi]; exact e⟩
      · rw [K51 i hi, K51 j hj] at e; exact a3 i j hi hj e
    have K52 : ∀ t, K 52 t = I 52 t := fun t => hK.1 52 t (by unfold plS; omega) (by omega) (by omega)
    obtain ⟨P, v, p1, p2, p3, p4⟩ := k_silences (X := X) (d := d) (al := al) (D := D) (L := L) (I := K) set q.1 b1 K3 kp (fun t ht => by rw [K52]; exact b4 t ht)
    have hps : ∀ t, t ≤ 12 → pst (PBc K n) (K 52) (trd set (-1)) t = pst (bdW B l) w (trd set (-1)) t := fun t ht => by
      refine pst_mask (B := PBc K n) (C := bdW B l) ?_ ?_ ?_ ?_ hn.symm (fun i hi => ?_) t (fun v hv i hi => ?_) (fun _ _ _ => rfl)
      · exact (hK.1 49 0 (by unfold plS; omega) (by omega) (by omega)).trans h0
      · exact (hK.1 49 4 (by unfold plS; omega) (by omega) (by omega)).trans b5
      · exact (hK.1 49 1 (by unfold plS; omega) (by omega) (by omega)).trans h1
      · exact (hK.1 49 2 (by unfold plS; omega) (by omega) (by omega)).trans h2
      · have hi : i < n := by rw [← hn]; exact hi
        refine ⟨K51 i hi, ?_⟩
        obtain ⟨p, hp, ep⟩ := lp.1 i hi
        have ep : li l i = p := (n_eq (by have := l6 i (by omega); omega) (by omega)).mp ep
        show dwC K (K 51 i) = B.2.2.2.2.2.1 (Int32.ofNat (li l i))
        rw [K51 i hi, dwC, ep, n_tn (by omega), hK.1 50 p (by unfold plS; omega) (by omega) (by omega), b6 p hp]
      · have hi : i < n := by rw [← hn]; exact hi
        obtain ⟨p, hp, ep⟩ := lp.1 i hi
        show hs (K 52 v) (Int32.ofNat (li l i)) = hs (w v) (Int32.ofNat (li l i))
        have ep : li l i = p := (n_eq (by have := l6 i (by omega); omega) (by omega)).mp ep
        rw [ep, K52]; exact b7 v (by omega) p hp
    have hval : fo (sil1 (fun t => (pst (PBc K n) (K 52) (trd set (-1)) (t + 1)).2.2.2.2.1)) 12 0 = f l := by
      rw [← hf]
      exact sil_congr (fun t ht => by rw [hps (t + 1) (by omega)])
    rw [hval] at p3 p4
    have Pr : rwP P 51 (li l) := fun i hi => (p2.1 51 i (by unfold plS; omega)).trans (hr i hi)
    have hP : qrF I P := ⟨fun a j a1 a2 a3 => (p2.1 a j a1).trans (hK.1 a j a1 a2 a3), p2.2.1.trans hK.2.1, p2.2.2.trans hK.2.2⟩
    have mid : ∃ Q p5, Rn X (d + 3) co_Ch_bestDrawingRow (44, [some (vr 1), some (vi set), some (vi q.1), some (vi 1), some (vi (Int32.ofNat tn)), o5], [vi v], pm_mm al D P L) = Rn X (d + 3) co_Ch_bestDrawingRow (73, [some (vr 1), some (vi set), some (vi (bs1 f q l).1), some (vi 1), some (vi (Int32.ofNat tn)), p5], [], pm_mm al D Q L) ∧ qrF I Q ∧ rwP Q 51 (li l) ∧ ∀ p, p < 6 → Q 80 p = Int32.ofNat (li (bs1 f q l).2 p) := by
      rw [sg_Ch_bestDrawingRow_44]
      by_cases hlt : f l < q.1
      · rw [p3 hlt, df (Int32.not_le.mpr hlt), cond_false, bs1, if_pos hlt]
        refine ⟨_, _, rfl, ⟨fun a j a1 a2 a3 => by rw [ups_ne a3]; exact hP.1 a j a1 a2 a3, by rw [ups_ne (by omega)]; exact hP.2.1, by rw [ups_ne (by omega)]; exact hP.2.2⟩, fun i hi => by rw [ups_ne (by omega)]; exact Pr i hi, fun p hp => ?_⟩
        rw [ups_eq]; simp [va_cpy, hp, Pr p hp]
      · rw [dt (Int32.not_lt.mp (p4 hlt)), cond_true, bs1, if_neg hlt]
        refine ⟨P, _, rfl, hP, Pr, fun p hp => ?_⟩
        rw [p2.1 80 p (by unfold plS; omega)]
        refine hq ?_ p hp
        have := (f1 l).1
        have h2 := Int32.not_lt.mp hlt
        rw [t_lt] at this ⊢
        rw [t_le] at h2
        have e1 : (1000000 : Int32).toInt = 1000000 := rfl
        omega
    obtain ⟨Q, p5, q1, q2, q3, q4⟩ := mid
    have Q3 : Q 49 3 = Int32.ofNat n := (q2.1 49 3 (by unfold plS; omega) (by omega) (by omega)).trans b2
    obtain ⟨M, n1, n2, n3⟩ := k_nextRow (X := X) (d := d + 1) (al := al) (D := D) (L := L) (I := Q) (b := 0) (l := l) (by omega) b1 q3 l6
    have n1 : Cl X (d + 3) 162 [vr 51, vi (Int32.ofNat n)] (pm_mm al D Q L) = _ := n1
    refine ⟨M, p5, ?_, ⟨fun a j a1 a2 a3 => by rw [n2 a j a2]; exact q2.1 a j a1 a2 a3, by rw [n2 57 0 (by omega)]; exact q2.2.1, by rw [n2 59 0 (by omega)]; exact q2.2.2⟩, n3, fun p hp => by rw [n2 80 p (by omega)]; exact q4 p hp⟩
    rw [sg_Ch_bestDrawingRow_19, show decide ((1 : Int32) = 0) = false from rfl, df (Int32.not_le.mpr hq0)]
    simp (disch := omega) only [a0, a1, a2, a3, a4, a5, a6, a7, a8, a9, a10, a11, a12, a13, a20, a24, a60, a64, a84, a99, a100, a600, a720, a4096, a1000000, df, cond_false, p1, Option.bind_some, pm_ai]
    rw [q1, sg_Ch_bestDrawingRow_73, Q3, n1]
    simp only [Option.bind_some, pm_ai, sg_Ch_bestDrawingRow_90, n_s]
  have zero : ∀ ls q, ¬ 0 < q.1 → bs f ls q = q := by
    intro ls
    induction ls with
    | nil => intro q _; rfl
    | cons l t ih =>
      intro q hq
      have : bs1 f q l = q := by
        rw [bs1, if_neg]
        intro h
        have := (f1 l).2
        rw [t_lt] at h hq
        have e0 : (0 : Int32).toInt = 0 := rfl
        omega
      rw [bs, this]; exact ih q hq
  have loop : ∀ t l q K o5 tn, tn + (t.length + 1) ≤ 720 → chB n (l :: t) = true → qrF I K → rwP K 51 (li l) → (q.1 < 1000000 → ∀ p, p < 6 → K 80 p = Int32.ofNat (li q.2 p)) → (¬ 0 < q.1 → q.1 < 1000000) → ∃ M, Rn X (d + 3) co_Ch_bestDrawingRow (19, [some (vr 1), some (vi set), some (vi q.1), some (vi 1), some (vi (Int32.ofNat tn)), o5], [], pm_mm al D K L) = some (some (vi (bs f (l :: t) q).1), pm_mm al D M L) ∧ qrF I M ∧ ∀ p, p < 6 → M 80 p = Int32.ofNat (li (bs f (l :: t) q).2 p) := by
    intro t
    induction t with
    | nil =>
      intro l q K o5 tn htn hc hK hr hq hz
      have htn : tn + 1 ≤ 720 := htn
      by_cases hq0 : 0 < q.1
      · obtain ⟨ho, h | ⟨l', t', e1, e2, e3⟩⟩ := ch_cons hc
        · obtain ⟨M, p5, t1, t2, t3, t4⟩ := turn l q K o5 tn (by omega) hq0 ho hK hr hq
          rw [h.1] at t1
          refine ⟨M, t1.trans ?_, t2, t4⟩
          rw [sg_Ch_bestDrawingRow_19]
          simp only [sg_Ch_bestDrawingRow_97]
          show cond _ _ _ = _
          cases decide (720 ≤ Int32.ofNat (tn + 1)) <;> rfl
        · cases e2
      · rw [zero _ q hq0]
        refine ⟨K, ?_, hK, hq (hz hq0)⟩
        rw [sg_Ch_bestDrawingRow_19, dt (Int32.not_lt.mp hq0)]
        simp (disch := omega) only [a0, a1, a2, a3, a4, a5, a6, a7, a8, a9, a10, a11, a12, a13, a20, a24, a60, a64, a84, a99, a100, a600, a720, a4096, a1000000, df, cond_false, cond_true, sg_Ch_bestDrawingRow_97]
        rfl
    | cons l' t' ih =>
      intro l q K o5 tn htn hc hK hr hq hz
      have htn : tn + (t'.length + 1 + 1) ≤ 720 := htn
      by_cases hq0 : 0 < q.1
      · obtain ⟨ho, h | ⟨l2, t2, e1, e2, e3⟩⟩ := ch_cons hc
        · cases h.2
        · cases e2
          obtain ⟨M, p5, t1, t2, t3, t4⟩ := turn l q K o5 tn (by omega) hq0 ho hK hr hq
          rw [e1] at t1
          have hlt : (bs1 f q l).1 < 1000000 := by
            have := (bs1_le f q l).2
            have h2 := (f1 l).1
            rw [t_le] at this; rw [t_lt] at h2 ⊢
            have e1 : (1000000 : Int32).toInt = 1000000 := rfl
            omega
          obtain ⟨N, n1, n2, n3⟩ := ih l' (bs1 f q l) M p5 (tn + 1) (by omega) e3 t2 (t3 l' e1) (fun _ => t4) (fun _ => hlt)
          exact ⟨N, t1.trans n1, n2, n3⟩
      · rw [zero _ q hq0]
        refine ⟨K, ?_, hK, hq (hz hq0)⟩
        rw [sg_Ch_bestDrawingRow_19, dt (Int32.not_lt.mp hq0)]
        simp (disch := omega) only [a0, a1, a2, a3, a4, a5, a6, a7, a8, a9, a10, a11, a12, a13, a20, a24, a60, a64, a84, a99, a100, a600, a720, a4096, a1000000, df, cond_false, cond_true, sg_Ch_bestDrawingRow_97]
        rfl
  obtain ⟨t0, et⟩ := rws_hd n
  have hch := rws_cons b1
  rw [et] at hch
  have hlen : t0.length + 1 ≤ 720 := hch.2
  obtain ⟨M, m1, m2, m3⟩ := loop t0 rw0 (1000000, []) (pm_ups I 51 (fun p => if p < 6 then Int32.ofNat p else I 51 p)) none 0 (by omega) hch.1 ⟨fun a j a1 a2 a3 => ups_ne a2, ups_ne (by omega), ups_ne (by omega)⟩ (fun i hi => by
    rw [ups_eq, if_pos hi]
    have : i = 0 ∨ i = 1 ∨ i = 2 ∨ i = 3 ∨ i = 4 ∨ i = 5 := by omega
    rcases this with rfl | rfl | rfl | rfl | rfl | rfl <;> rfl) (fun h => absurd h (by decide)) (fun h => absurd (by decide) h)
  have eb : bs f (rw0 :: t0) (1000000, []) = bst f n := by rw [bst, et]
  rw [eb] at m1 m3
  exact ⟨M, m1, m2, m3⟩
theorem rk_rng {k x : Int32} {n : Nat} (hn : n ≤ 6) (ex : x = Int32.ofNat n) : (!decide (k < -1) && decide (k < x)) = decide (-1 ≤ k ∧ k ≤ x - 1) := by
  subst ex
  have e1 : (-1 : Int32).toInt = -1 := rfl
  have e2 : (1 : Int32).toInt = 1 := rfl
  have hn2 := n_ti (show n < 2147483648 by omega)
  have hs : (Int32.ofNat n - 1).toInt = n - 1 := by rw [t_sub (by omega) (by omega), hn2, e2]
  rw [Bool.eq_iff_iff, Bool.and_eq_true, Bool.not_eq_true', decide_eq_false_iff_not, decide_eq_true_iff, decide_eq_true_iff, t_lt, t_lt, t_le, t_le, hs, hn2, e1]; omega
theorem q_rank {m : Nat → Nat} (b s u k : Int32) (g : rG I m) (r : RL I m) : ∃ J, Cl X (d + 5) 133 [vr 1, vi b, vi s, vi u, vi k] (pm_mm al D I L) = some (some (vi (vRank I m b s u k)), pm_mm al D J L) ∧ cF I J := by
  have hm : ∀ i, i < 4 → m i ≤ 2 ∧ I 4 i = Int32.ofNat (m i) := fun i hi => ⟨(g.1 i hi).1, (r.1 i hi).trans (g.1 i hi).2⟩
  rw [Cl_s]
  show ∃ J, Rn X (d + 4) co_Ch_rank (0, [some (vr 1), some (vi b), some (vi s), some (vi u), some (vi k), none], [], pm_mm al D I L) = _ ∧ _
  rw [sg_Ch_rank_x_0, k_hasThree (d := d + 1) b s u hm]
  simp only [Option.bind_some, pm_ai, vRank]
  rw [Bool.and_comm (pm_in s (m 1))]
  cases hok : (pm_in b (m 0) && pm_in s (m 1) && pm_in u (m 2)) with
  | false => exact ⟨I, (sg_Ch_rank_x0_7 ..).trans (sgb_Ch_rank_33 ..), cF_refl⟩
  | true =>
    simp only [Bool.and_eq_true] at hok
    obtain ⟨⟨o1, o2⟩, o3⟩ := hok
    obtain ⟨s', hs', es⟩ := in_nat o2
    obtain ⟨b', hb', eb⟩ := in_nat o1
    obtain ⟨u', hu', eu⟩ := in_nat o3
    have m0 := (g.1 0 (by omega)).1
    have m1 := (g.1 1 (by omega)).1
    have m2 := (g.1 2 (by omega)).1
    have hb2 : b' < 2 := by omega
    have hs2 : s' < 2 := by omega
    subst eb es eu
    rw [n_tn (by omega), n_tn (by omega), n_tn (by omega)]
    have n6 := (g.2.1 b' hb').1
    have en := n_of (g.2.1 b' hb').2.1
    have hrg := rk_rng (k := k) n6 en
    have c7 := sgb_Ch_rank_7 (b := b') (s := s') hb2 hs2 X (d + 4) (Int32.ofNat u') k none 1 al D I L
    have I4 : I (9 + 5 * b') 4 = I 87 (29 * b') := (r.2.1 b' hb').1
    rw [show b01 true = 1 from rfl, c7, show decide ((1 : Int32) = 0) = false from rfl, cond_false, I4]
    cases hk1 : decide (k < -1) with
    | true =>
      rw [hk1] at hrg
      rw [← hrg]
      exact ⟨I, sgb_Ch_rank_33 .., cF_refl⟩
    | false =>
      cases hk2 : decide (k < I 87 (29 * b')) with
      | false =>
        rw [hk1, hk2] at hrg
        rw [← hrg]
        exact ⟨I, sgb_Ch_rank_33 .., cF_refl⟩
      | true =>
        rw [hk1, hk2] at hrg
        rw [← hrg]
        have hk : -1 ≤ k ∧ k ≤ Int32.ofNat (I 87 (29 * b')).toNatClampNeg - 1 := by
          rw [← en]; exact of_decide_eq_true hrg.symm
        obtain ⟨J, e1, e2, e3⟩ := k_prepare (X := X) (d := d + 1) (al := al) (D := D) (L := L) (I := I) (b := b') (s := s') hb2 hs2 (sR_gC (r.2.2.1 s' hs') (g.2.2.1 s' hs'))
        obtain ⟨hp, h0, h1, h2⟩ := k_pd g r hb' hs' e3
        have e7 : J 7 u' = I 89 u' := (e2 7 u' (by unfold prS tkS; omega)).trans (r.2.2.2.1 u' hu')
        obtain ⟨K, f1, f2, f3⟩ := k_bestDrawingRow (X := X) (d := d) (al := al) (D := D) (L := L) (I := J) (I 89 u') hp h0 h1 h2
        simp only [cond_false, cond_true]
        rw [e1]
        simp (disch := omega) only [Option.bind_some, pm_av, sgb_Ch_rank_41, n_in, dt, cond_true, n_tn, e7, f1, pm_ai, sgb_Ch_rank_54]
        refine ⟨K, ?_, ⟨fun a a1 a2 => ?_, ?_, ?_, ?_⟩⟩
        · show _ = some (some (vi (bsK (bst (rkv (bdO I b') (wn (scO I s')) (I 89 u')) (bdO I b').2.2.2.2.1) k)), pm_mm al D K L)
          rw [bsK]
          by_cases hk1 : k = -1
          · subst hk1; simp only [decide_true, cond_true, sgb_Ch_rank_74]
          · obtain ⟨k', hk', ek⟩ := k_rng n6 hk hk1
            rw [df hk1]
            subst ek
            simp (disch := omega) only [cond_false, n_in, dt, cond_true, n_tn, sgb_Ch_rank_74, f3 k' (by omega)]
        · funext j; rw [f2.1 a j (by unfold plS; omega) (by omega) (by omega), e2 a j (by unfold prS tkS; omega)]
        · rw [f2.2.1, e2 57 0 (by unfold prS tkS; omega)]
        · rw [f2.2.2, e2 59 0 (by unfold prS tkS; omega)]
        · funext j; rw [f2.1 64 j (by unfold plS; omega) (by omega) (by omega), e2 64 j (by unfold prS tkS; omega)]
end
