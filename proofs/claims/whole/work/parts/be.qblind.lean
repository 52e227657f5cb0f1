section
variable {X : Nat × (Nat → Int32)} {d : Nat} {al : List Nat} {D : Nat → Bool} {I : Nat → Nat → Int32} {L : Nat → Nat → Int64}
/-- the loop over the sets, with two rows of ways -/
theorem k_blindL {b q4 : Nat} {a0 a1 v0 v1 : Nat → Nat} (which : Bool) (o0 o1 o8 : Option pm_V) (hb : b < 2) (h0 : ∀ x, x < 4096 → L (221 + 6 * b) x = Int64.ofNat (v0 x)) (h1 : ∀ x, x < 4096 → L q4 x = Int64.ofNat (v1 x)) (hv0 : ∀ x, v0 x < 100000000000000 ∧ v0 x / 1099511627776 = a0 x) (hv1 : ∀ x, v1 x < 100000000000000 ∧ v1 x / 1099511627776 = a1 x)
    (hq : ∀ x, (pm_is (pm_mm al (pm_tb (3 + 2 * b) D) I L) q4 4 && pm_in x ((pm_kd q4).2)) = pm_in x 4096) :
    Rn X (d + 2) co_Ch_blind (75, [o0, o1, some (vi (b01 which)), some (vr (221 + 6 * b)), some (vr q4), some (vi 1000000), some (vi 0), some (vi 0), o8], [], pm_mm al (pm_tb (3 + 2 * b) D) I L) = some (some (vi (eL which (fun x => max (a0 x) (a1 x)) (bb2 (fun x => max (a0 x) (a1 x)) 4095))), pm_mm al (pm_tb (3 + 2 * b) D) I L) := by
  have hFm : ∀ x, max (a0 x) (a1 x) = (fun x => max (a0 x) (a1 x)) x := fun _ => rfl
  have hFb : ∀ x, (fun x => max (a0 x) (a1 x)) x ≤ 1000 := fun x => by
    have p0 := hv0 x; have p1 := hv1 x
    show max (a0 x) (a1 x) ≤ 1000; omega
  generalize (fun x => max (a0 x) (a1 x)) = F at hFm hFb ⊢
  -- one set
  have one : ∀ (n : Nat) (x5 x6 : Int32) (o8 : Option pm_V), n < 4096 → Rn X (d + 2) co_Ch_blind (75, [o0, o1, some (vi (b01 which)), some (vr (221 + 6 * b)), some (vr q4), some (vi x5), some (vi x6), some (vi (Int32.ofNat n)), o8], [], pm_mm al (pm_tb (3 + 2 * b) D) I L) = Rn X (d + 2) co_Ch_blind (101, [o0, o1, some (vi (b01 which)), some (vr (221 + 6 * b)), some (vr q4), some (vi x5), some (vi x6), some (vi (Int32.ofNat n)), o8], [vi (Int32.ofNat (F n))], pm_mm al (pm_tb (3 + 2 * b) D) I L) := fun n x5 x6 o8 hn => by
    have p0 := hv0 n; have p1 := hv1 n
    have hmx : mxx (Int32.ofNat (a0 n)) (Int32.ofNat (a1 n)) = Int32.ofNat (F n) := by
      rw [← hFm, Nat.max_comm, mxx]; exact mx_n (by omega) (by omega)
    rw [sgb_Ch_blind_75 hb, show decide ((4096 : Int32) ≤ Int32.ofNat n) = false from (n_dle (a := 4096) (by omega) (by omega)).trans (df (by omega)), cond_false, n_in (by omega), dt hn, cond_true, n_tn (by omega), h0 n hn, k_wsil (by omega), p0.2]
    simp only [Option.bind_some, pm_ai]
    rw [sgb_Ch_blind_90 hb, hq, n_in (by omega), dt hn, cond_true, n_tn (by omega), h1 n hn, k_wsil (by omega), p1.2]
    simp only [Option.bind_some, pm_ai]
    rw [sgb_Ch_blind_98 hb, k_max, hmx]
    simp only [Option.bind_some, pm_ai]
  have y130 : ∀ (n : Nat) (o5 o6 : Option pm_V) (x8 : Int32), Rn X (d + 2) co_Ch_blind (130, [o0, o1, some (vi (b01 which)), some (vr (221 + 6 * b)), some (vr q4), o5, o6, some (vi (Int32.ofNat n)), some (vi x8)], [], pm_mm al (pm_tb (3 + 2 * b) D) I L) = Rn X (d + 2) co_Ch_blind (75, [o0, o1, some (vi (b01 which)), some (vr (221 + 6 * b)), some (vr q4), some (vi x8), some (vi (Int32.ofNat n)), some (vi (Int32.ofNat (n + 1))), some (vi x8)], [], pm_mm al (pm_tb (3 + 2 * b) D) I L) := fun n o5 o6 x8 => by
    rw [sgb_Ch_blind_130 hb, sgb_Ch_blind_138 hb, n_s]
  have y138 : ∀ (n : Nat) (x5 x6 : Int32) (o8 : Option pm_V), Rn X (d + 2) co_Ch_blind (138, [o0, o1, some (vi (b01 which)), some (vr (221 + 6 * b)), some (vr q4), some (vi x5), some (vi x6), some (vi (Int32.ofNat n)), o8], [], pm_mm al (pm_tb (3 + 2 * b) D) I L) = Rn X (d + 2) co_Ch_blind (75, [o0, o1, some (vi (b01 which)), some (vr (221 + 6 * b)), some (vr q4), some (vi x5), some (vi x6), some (vi (Int32.ofNat (n + 1))), o8], [], pm_mm al (pm_tb (3 + 2 * b) D) I L) := fun n x5 x6 o8 => by
    rw [sgb_Ch_blind_138 hb, n_s]
  -- the first
  have first : Rn X (d + 2) co_Ch_blind (75, [o0, o1, some (vi (b01 which)), some (vr (221 + 6 * b)), some (vr q4), some (vi 1000000), some (vi 0), some (vi 0), o8], [], pm_mm al (pm_tb (3 + 2 * b) D) I L) = Rn X (d + 2) co_Ch_blind (75, [o0, o1, some (vi (b01 which)), some (vr (221 + 6 * b)), some (vr q4), some (vi (Int32.ofNat (F 0))), some (vi (Int32.ofNat 0)), some (vi (Int32.ofNat 1)), some (vi (Int32.ofNat (F 0)))], [], pm_mm al (pm_tb (3 + 2 * b) D) I L) := by
    have := hFb 0
    refine (one 0 1000000 0 o8 (by omega)).trans ?_
    have hl : decide (Int32.ofNat (F 0) < 1000000) = true := (n_dlt (b := 1000000) (by omega) (by omega)).trans (dt (by omega))
    rw [sgb_Ch_blind_101 hb, hl, cond_true, y130]
  have hbe := bb2_le F
  obtain ⟨o8', t1, _⟩ := lp (σ := Option pm_V) 4095 (fun n o8 => Rn X (d + 2) co_Ch_blind (75, [o0, o1, some (vi (b01 which)), some (vr (221 + 6 * b)), some (vr q4), some (vi (Int32.ofNat (F (bb2 F n)))), some (vi (Int32.ofNat (bb2 F n))), some (vi (Int32.ofNat (n + 1))), o8], [], pm_mm al (pm_tb (3 + 2 * b) D) I L)) (fun _ _ => True) (fun n o8 hn _ => by
    have hq := hbe n
    have hbn : bb2 F (n + 1) = bl2 F (n + 1) (bb2 F n) := by rw [bb2]
    generalize bb2 F n = q at hq hbn
    have a1 := hFb (n + 1)
    have a2 := hFb q
    have o1' := oN_le 12 (n + 1)
    have o2' := oN_le 12 q
    have hon : on (Int32.ofNat (n + 1)) = Int32.ofNat (oN 12 (n + 1)) := on_oN (k := 12) (by omega) (show n + 1 < 4096 by omega)
    have hoq : on (Int32.ofNat q) = Int32.ofNat (oN 12 q) := on_oN (k := 12) (by omega) (show q < 4096 by omega)
    have en : (Int32.ofNat (n + 1)).toInt = (n + 1 : Nat) := n_ti (by omega)
    have eq : (Int32.ofNat q).toInt = (q : Nat) := n_ti (by omega)
    refine ⟨some (vi (Int32.ofNat (F (n + 1)))), ?_, trivial⟩
    show Rn X (d + 2) co_Ch_blind _ = Rn X (d + 2) co_Ch_blind _
    refine (one (n + 1) _ _ o8 (by omega)).trans ?_
    rw [sgb_Ch_blind_101 hb, n_dlt (by omega) (by omega), n_deq (by omega) (by omega), y130, hbn, bl2, k_bitCount (by omega) (by omega), hon]
    simp only [Option.bind_some, pm_ai]
    rw [sgb_Ch_blind_122 hb, k_bitCount (by omega) (by omega), hoq]
    simp only [Option.bind_some, pm_ai]
    rw [sgb_Ch_blind_127 hb, n_dle (by omega) (by omega), y130, y138]
    by_cases c1 : F (n + 1) < F q
    · rw [dt c1, cond_true, if_pos (Or.inl c1)]
    · rw [df c1, cond_false]
      by_cases c2 : F (n + 1) = F q
      · rw [dt c2, cond_true]
        by_cases c3 : oN 12 (n + 1) < oN 12 q
        · rw [df (by omega), cond_false, if_pos (Or.inr ⟨c2, c3⟩)]
        · rw [dt (by omega), cond_true, if_neg (fun c => c.elim c1 (fun e => c3 e.2))]
      · rw [df c2, cond_false, if_neg (fun c => c.elim c1 (fun e => c2 e.1))]) 0 (some (vi (Int32.ofNat (F 0)))) (Nat.zero_le _) trivial
  have t1 : Rn X (d + 2) co_Ch_blind (75, [o0, o1, some (vi (b01 which)), some (vr (221 + 6 * b)), some (vr q4), some (vi (Int32.ofNat (F (bb2 F 0)))), some (vi (Int32.ofNat (bb2 F 0))), some (vi (Int32.ofNat (0 + 1))), some (vi (Int32.ofNat (F 0)))], [], pm_mm al (pm_tb (3 + 2 * b) D) I L) = Rn X (d + 2) co_Ch_blind (75, [o0, o1, some (vi (b01 which)), some (vr (221 + 6 * b)), some (vr q4), some (vi (Int32.ofNat (F (bb2 F 4095)))), some (vi (Int32.ofNat (bb2 F 4095))), some (vi (Int32.ofNat (4095 + 1))), o8'], [], pm_mm al (pm_tb (3 + 2 * b) D) I L) := t1
  have hq' := hbe 4095
  rw [show bb2 F 0 = 0 by rw [bb2]] at t1
  generalize bb2 F 4095 = q at t1 hq' ⊢
  rw [first]
  refine t1.trans ?_
  rw [sgb_Ch_blind_75 hb, show decide ((4096 : Int32) ≤ Int32.ofNat (4095 + 1)) = true from rfl, cond_true, b01_ne, sgb_Ch_blind_155, sgb_Ch_blind_155, eL]
  cases which <;> rfl
theorem q_blind {m : Nat → Nat} (b : Int32) (which : Bool) (g : rG I m) (r : RL I m) (w : cW D I L m) : ∃ al' D' J M, Cl X (d + 18) 139 [vr 1, vi b, vi (b01 which)] (pm_mm al D I L) = some (some (vi (vBlind I m b which)), pm_mm al' D' J M) ∧ cQ m al al' D D' I J L M := by
  rw [Cl_s]
  show ∃ al' D' J M, Rn X (d + 17) co_Ch_blind (0, [some (vr 1), some (vi b), some (vi (b01 which)), none, none, none, none, none, none], [], pm_mm al D I L) = _ ∧ _
  have m0 := (g.1 0 (by omega)).1
  have m1 := (g.1 1 (by omega)).1
  have e4 : I 4 1 = Int32.ofNat (m 1) := (r.1 1 (by omega)).trans (g.1 1 (by omega)).2
  have hh : Cl X (d + 17) 93 [vr 2, vi 0, vi b] (pm_mm al D I L) = _ := k_has (d := d + 16) (s := 0) (m := m 0) b (by omega) m0 ((r.1 0 (by omega)).trans (g.1 0 (by omega)).2)
  have hz0 : decide (Int32.ofNat (m 1) = 0) = decide (m 1 = 0) := n_deq (b := 0) (by omega) (by omega)
  rw [sg_Ch_blind_x_0, hh, vBlind]
  simp only [Option.bind_some, pm_ai]
  rw [sg_Ch_blind_x_9, b01_ne, e4, hz0, sgb_Ch_blind_24]
  cases hb : pm_in b (m 0) with
  | false => exact ⟨al, D, I, L, by rw [Bool.not_false, cond_true, Bool.false_and, cond_false], cQ_refl w⟩
  | true =>
    rw [Bool.not_true, cond_false, Bool.true_and]
    by_cases hz : m 1 = 0
    · rw [dt hz, cond_true, Bool.not_true, cond_false]
      exact ⟨al, D, I, L, rfl, cQ_refl w⟩
    rw [df hz, cond_false, Bool.not_false, cond_true]
    obtain ⟨b', hb', eb⟩ := in_nat hb
    have hb2 : b' < 2 := by omega
    rw [eb, n_tn (by omega)]
    have hV0 := fun x => wV_rg (bdO I b') (wn (scO I 0)) x (k := 12) (Nat.le_refl _)
    obtain ⟨J, M, f1, f2, f3, f4⟩ := k_waysOf (X := X) (d := d) (al := al) (s := 0) g r w hb' (by omega)
    have Q1 := cQ_w (al := al) g w hb2 (show 0 < 2 by omega) f2 f3 f4
    generalize cond (D (3 + 2 * b' + 0)) al (al ++ [220 + 6 * b' + 3 * 0] ++ [221 + 6 * b' + 3 * 0] ++ [222 + 6 * b' + 3 * 0]) = al1 at f1 Q1
    have f1 : Cl X (d + 17) 137 [vr 1, vi (Int32.ofNat b'), vi 0] (pm_mm al D I L) = some (some (vr (220 + 6 * b')), pm_mm al1 (pm_tb (3 + 2 * b') D) J M) := f1
    have Q1 : cQ m al al1 D (pm_tb (3 + 2 * b') D) I J L M := Q1
    have hM0 : ∀ x, x < 4096 → M (221 + 6 * b') x = Int64.ofNat (wV (bdO I b') (wn (scO I 0)) x 12) := fun x hx => by rw [show 221 + 6 * b' = 221 + 3 * (2 * b' + 0) by omega]; exact f4.2.2 x hx
    have tl1 := cF_tl Q1.1
    have e4J : J 4 1 = Int32.ofNat (m 1) := by rw [tl1 4 (by omega)]; exact e4
    have h1d : decide (Int32.ofNat (m 1) ≤ 1) = decide (m 1 ≤ 1) := n_dle (b := 1) (by omega) (by omega)
    rw [f1]
    simp only [Option.bind_some, pm_ar]
    rw [sgb_Ch_blind_32 hb2, e4J, h1d]
    by_cases h1 : m 1 ≤ 1
    · refine ⟨al1, _, J, M, ?_, Q1⟩
      rw [dt h1, cond_true, sgb_Ch_blind_62 hb2]
      have hL := k_blindL (X := X) (d := d + 15) (al := al1) (D := D) (I := J) (L := M) (b := b') (q4 := 221 + 6 * b') which (some (vr 1)) (some (vi (Int32.ofNat b'))) none hb2 hM0 hM0 hV0 hV0 (fun x => by rcases two hb2 with rfl | rfl <;> rfl)
      rw [hL]
      have hF : (fun x => max (su (wL (bdO I b') (wn (scO I 0)) x) 12) (su (wL (bdO I b') (wn (scO I 0)) x) 12)) = (fun x => bG2 (wf I b') x (m 1)) := by
        funext x
        rw [show m 1 = 0 + 1 by omega, bG2, bG2, wf, wA]; omega
      rw [hF]
    · rw [df h1, cond_false]
      obtain ⟨K, N, t1, t2, t3, t4⟩ := k_waysOf (X := X) (d := d) (al := al1) (D := pm_tb (3 + 2 * b') D) (I := J) (L := M) (b := b') (s := 1) (rG_tl tl1 g) (RL_tl tl1 g r) Q1.2.1 hb' (by omega)
      have Q2 := cQ_w (al := al1) (rG_tl tl1 g) Q1.2.1 hb2 (show 1 < 2 by omega) t2 t3 t4
      generalize cond (pm_tb (3 + 2 * b') D (3 + 2 * b' + 1)) al1 (al1 ++ [220 + 6 * b' + 3 * 1] ++ [221 + 6 * b' + 3 * 1] ++ [222 + 6 * b' + 3 * 1]) = al2 at t1 Q2
      rw [show 3 + 2 * b' + 1 = 4 + 2 * b' by omega] at t1 Q2
      rw [show 220 + 6 * b' + 3 * 1 = 223 + 6 * b' by omega] at t1
      have t1 : Cl X (d + 17) 137 [vr 1, vi (Int32.ofNat b'), vi 1] (pm_mm al1 (pm_tb (3 + 2 * b') D) J M) = _ := t1
      have hV1 := fun x => wV_rg (bdO I b') (wn (scO I 1)) x (k := 12) (Nat.le_refl _)
      rw [bdO_tl tl1, scO_tl tl1] at t4
      have hN0 : ∀ x, x < 4096 → N (221 + 6 * b') x = Int64.ofNat (wV (bdO I b') (wn (scO I 0)) x 12) := fun x hx => by rw [t3 _ _ (by omega)]; exact hM0 x hx
      have hN1 : ∀ x, x < 4096 → N (224 + 6 * b') x = Int64.ofNat (wV (bdO I b') (wn (scO I 1)) x 12) := fun x hx => by rw [show 224 + 6 * b' = 221 + 3 * (2 * b' + 1) by omega]; exact t4.2.2 x hx
      refine ⟨al2, _, K, N, ?_, Q1.1.trans Q2.1, Q2.2.1, fun a j ha => (Q2.2.2.1 a j ha).trans (Q1.2.2.1 a j ha), fun P hP h0 => Q2.2.2.2 P hP (Q1.2.2.2 P hP h0)⟩
      rw [t1]
      simp only [Option.bind_some, pm_ar]
      rw [sgb_Ch_blind_55 hb2]
      have hD : pm_tb (3 + 2 * b') (pm_tb (4 + 2 * b') (pm_tb (3 + 2 * b') D)) = pm_tb (4 + 2 * b') (pm_tb (3 + 2 * b') D) := tbD (by
        show cond (Nat.beq (3 + 2 * b') (4 + 2 * b')) true (cond (Nat.beq (3 + 2 * b') (3 + 2 * b')) true (D (3 + 2 * b'))) = true
        rw [Nat.beq_refl]; cases Nat.beq (3 + 2 * b') (4 + 2 * b') <;> rfl)
      rw [← hD, sgb_Ch_blind_62 hb2]
      have hL := k_blindL (X := X) (d := d + 15) (al := al2) (D := pm_tb (4 + 2 * b') (pm_tb (3 + 2 * b') D)) (I := K) (L := N) (b := b') (q4 := 224 + 6 * b') which (some (vr 1)) (some (vi (Int32.ofNat b'))) none hb2 hN0 hN1 hV0 hV1 (fun x => by rcases two hb2 with rfl | rfl <;> rfl)
      rw [hL]
      have hF : (fun x => max (su (wL (bdO I b') (wn (scO I 0)) x) 12) (su (wL (bdO I b') (wn (scO I 1)) x) 12)) = (fun x => bG2 (wf I b') x (m 1)) := by
        funext x
        rw [show m 1 = 0 + 1 + 1 by omega, bG2, bG2, bG2, wf, wf, wA, wA, Nat.zero_max]
      rw [hF]
end
