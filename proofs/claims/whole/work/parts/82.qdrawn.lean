section
variable {X : Nat × (Nat → Int32)} {d : Nat} {al : List Nat} {D : Nat → Bool} {I : Nat → Nat → Int32} {L : Nat → Nat → Int64}
theorem ush_bv (w : Int32) : (pm_ush w 16).toBitVec = w.toBitVec >>> (16 : Nat) := by
  have h : ((16 : Int32).toUInt32 &&& Int32.toUInt32 31) = 16 := by decide
  rw [pm_ush, h]
  rfl
theorem ush_rg (w : Int32) : 0 ≤ (pm_ush w 16).toInt ∧ (pm_ush w 16).toInt ≤ 65535 := by
  have hn : (pm_ush w 16).toBitVec.toNat ≤ 65535 := by
    rw [ush_bv, BitVec.toNat_ushiftRight, Nat.shiftRight_eq_div_pow]
    have := w.toBitVec.isLt; omega
  have : (pm_ush w 16).toInt = (pm_ush w 16).toBitVec.toNat := by
    show (pm_ush w 16).toBitVec.toInt = _
    exact BitVec.toInt_eq_toNat_of_lt (by omega)
  omega
theorem sdb_01 (x : Int32) : sdb x = 0 ∨ sdb x = 1 := by
  obtain ⟨h1, h2⟩ := ush_rg (sd1 x)
  generalize hz : pm_ush (sd1 x) 16 = z at h1 h2
  have e2 : (2 : Int32).toInt = 2 := rfl
  have e0 : (0 : Int32).toInt = 0 := rfl
  have e1 : (1 : Int32).toInt = 1 := rfl
  have hd : (z / 2).toInt = z.toInt / 2 := by
    rw [Int32.toInt_div, e2, Int.tdiv_eq_ediv_of_nonneg h1]
    exact bm (by omega) (by omega)
  have hmul : (z / 2 * 2).toInt = z.toInt / 2 * 2 := by rw [t_mul (by rw [hd, e2]; omega) (by rw [hd, e2]; omega), hd, e2]
  have hs : (z - z / 2 * 2).toInt = z.toInt - z.toInt / 2 * 2 := by rw [t_sub (by rw [hmul]; omega) (by rw [hmul]; omega), hmul]
  rw [sdb, hz, t_eq, t_eq, hs, e0, e1]; omega
theorem q_drawn {m : Nat → Nat} (b s seed what : Int32) (g : rG I m) (r : RL I m) : ∃ J, Cl X (d + 5) 124 [vr 1, vi b, vi s, vi seed, vi what] (pm_mm al D I L) = some (some (vi (vDrawn I m b s seed what)), pm_mm al D J L) ∧ cF I J := by
  have hm : ∀ i, i < 4 → m i ≤ 2 ∧ I 4 i = Int32.ofNat (m i) := fun i hi => ⟨(g.1 i hi).1, (r.1 i hi).trans (g.1 i hi).2⟩
  rw [Cl_s]
  show ∃ J, Rn X (d + 4) co_Ch_drawn (0, [some (vr 1), some (vi b), some (vi s), some (vi seed), some (vi what), none, none, none], [], pm_mm al D I L) = _ ∧ _
  rw [sg_Ch_drawn_x_0, k_hasPair (d := d + 2) b s hm]
  simp only [Option.bind_some, pm_ai, sg_Ch_drawn_x_6, b01_ne, vDrawn]
  rw [Bool.and_comm (pm_in s (m 1))]
  cases hok : (pm_in b (m 0) && pm_in s (m 1)) with
  | false => exact ⟨I, rfl, cF_refl⟩
  | true =>
    simp only [Bool.not_true, cond_false, cond_true]
    simp only [Bool.and_eq_true] at hok
    obtain ⟨s', hs', es⟩ := in_nat hok.2
    obtain ⟨b', hb', eb⟩ := in_nat hok.1
    have m0 := (g.1 0 (by omega)).1
    have m1 := (g.1 1 (by omega)).1
    have h := lf 12 (fun t (q : Unit) => Rn X (d + 4) co_Ch_drawn (20, [some (vr 1), some (vi b), some (vi s), some (vi seed), some (vi what), some (vi (dwS seed t).1), some (vi (dwS seed t).2), some (vi (Int32.ofNat t))], [], pm_mm al D I L)) (fun _ q => q) (fun t q ht => by
      have h0 : decide ((12 : Int32) ≤ Int32.ofNat t) = false := (n_dle (a := 12) (by decide) (by omega)).trans (decide_eq_false (by omega))
      show Rn X (d + 4) co_Ch_drawn _ = Rn X (d + 4) co_Ch_drawn _
      have hsh : sdb (dwS seed t).1 <<< (Int32.ofNat t &&& 31) = cond (decide (sdb (dwS seed t).1 = 1)) (1 <<< (Int32.ofNat t &&& 31)) 0 := by
        rcases sdb_01 (dwS seed t).1 with e | e
        · have hz : ∀ t : Fin 12, (0 : Int32) <<< (Int32.ofNat t.val &&& 31) = 0 := by decide +kernel
          rw [e]; exact hz ⟨t, ht⟩
        · rw [e]; rfl
      rw [sg_Ch_drawn_x_20, h0, cond_false]
      show Rn X (d + 4) co_Ch_drawn (20, [some (vr 1), some (vi b), some (vi s), some (vi seed), some (vi what), some (vi (sd1 (dwS seed t).1)), some (vi ((dwS seed t).2 ||| (sdb (dwS seed t).1 <<< (Int32.ofNat t &&& 31)))), some (vi (Int32.ofNat t + 1))], [], pm_mm al D I L) = _
      rw [hsh, n_s, dwS]) ()
    obtain ⟨J, e1, e2, e3⟩ := k_prepare (X := X) (d := d + 1) (al := al) (D := D) (L := L) (I := I) (b := b') (s := s') (by omega) (by omega) (sR_gC (r.2.2.1 s' hs') (g.2.2.1 s' hs'))
    obtain ⟨p1, p2, p3, p4, p5⟩ := k_prepared g r hb' hs' e3
    obtain ⟨K, f1, f2, f3, f4⟩ := k_through (X := X) (d := d + 1) (al := al) (D := D) (L := L) (I := J) (dwS seed 12).2 p1 p2 p3 p4
    have ho : Cl X (d + 4) 51 [vr 49, vi 11, vi what] (pm_mm al D K L) = _ := k_behind (d := d + 3) (t := 11) what (by omega) (f3 11 (by omega))
    subst eb es
    cases h6 : decide (what = 6) with
    | true =>
      refine ⟨I, Eq.trans h ?_, cF_refl⟩
      show Rn X (d + 4) co_Ch_drawn _ = _
      rw [sg_Ch_drawn_x_20, h6]; rfl
    | false =>
      refine ⟨K, Eq.trans h ?_, cF_pt e2 f2 f4.2.1 f4.2.2.1⟩
      · show Rn X (d + 4) co_Ch_drawn _ = _
        rw [sg_Ch_drawn_x_20, h6, show decide ((12 : Int32) ≤ Int32.ofNat 12) = true from rfl, cond_true, cond_false, e1]
        simp only [Option.bind_some, pm_av, sg_Ch_drawn_x_75]
        rw [f1]
        simp only [Option.bind_some, pm_av, sg_Ch_drawn_x_84]
        rw [ho]
        simp only [Option.bind_some, pm_ai, sg_Ch_drawn_x_95, cond_false]
        rw [p5 _ (11 + 1) (by omega), n_tn (by omega), n_tn (by omega)]
end
