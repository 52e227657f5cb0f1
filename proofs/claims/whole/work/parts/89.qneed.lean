section
variable {X : Nat × (Nat → Int32)} {d : Nat} {al : List Nat} {D : Nat → Bool} {I : Nat → Nat → Int32} {L : Nat → Nat → Int64}
def ndF (J K : Nat → Nat → Int32) : Prop := (∀ a j, ¬ plS a j → ¬ (a = 49 ∧ j ≤ 2) → K a j = J a j) ∧ K 57 0 = J 57 0 ∧ K 59 0 = J 59 0
theorem ndF_refl {J : Nat → Nat → Int32} : ndF J J := ⟨fun _ _ _ _ => rfl, rfl, rfl⟩
theorem rg_n {v : Nat} {a : Int} (h : (v : Int) ≤ a) (h2 : v < 2147483648) : rg (Int32.ofNat v) 0 a := ⟨by rw [n_ti h2]; omega, by rw [n_ti h2]; exact h⟩
theorem k_leastSize {J : Nat → Nat → Int32} {B : PB} {w : Nat → Int32} (set : Int32) (h : pdP J B w) (h0 : J 49 0 = B.1) (h1 : J 49 1 = B.2.2.1) (h2 : J 49 2 = B.2.2.2.1) (g : bG B) :
    ∃ K, Cl X (d + 4) 128 [vr 1, vi set] (pm_mm al D J L) = some (some (vi (fv (fun v => nw B w set 0 (Int32.ofNat v)) 1 99)), pm_mm al D K L) ∧ ndF J K := by
  rw [Cl_s]
  show ∃ K, Rn X (d + 3) co_Ch_leastSize (0, [some (vr 1), some (vi set), none], [], pm_mm al D J L) = _ ∧ _
  rw [sg_Ch_leastSize_0]
  suffices hh : ∀ n v K, v + n = 100 → ndF J K → (∀ j, j ≤ 2 → j ≠ 0 → K 49 j = J 49 j) → ∃ M, Rn X (d + 3) co_Ch_leastSize (2, [some (vr 1), some (vi set), some (vi (Int32.ofNat v))], [], pm_mm al D K L) = some (some (vi (fv (fun v => nw B w set 0 (Int32.ofNat v)) v n)), pm_mm al D M L) ∧ ndF J M from
    hh 99 1 J rfl ndF_refl (fun _ _ _ => rfl)
  intro n
  induction n with
  | zero => intro v K hv hK hk; refine ⟨K, ?_, hK⟩; rw [sg_Ch_leastSize_2]; simp (disch := omega) only [c0, c1, c2, c3, c4, c5, c6, c7, c8, c9, c10, c11, c12, c13, c20, c24, c60, c64, c84, c99, c100, c600, c720, c4096, c1000000, dt, cond_true, fv]
  | succ n ih =>
    intro v K hv hK hk
    have hp : pdP (pm_up K 49 0 (Int32.ofNat v)) B w := pd_up h (fun a j a1 a2 => by rw [up_ne (by omega)]; exact hK.1 a j a1 a2)
    obtain ⟨M, f1, f2⟩ := k_wellB (X := X) (d := d) (al := al) (D := D) (L := L) set 0 hp
    have eC : ((pm_up K 49 0 (Int32.ofNat v)) 49 0, B.2.1, (pm_up K 49 0 (Int32.ofNat v)) 49 1, (pm_up K 49 0 (Int32.ofNat v)) 49 2, B.2.2.2.2.1, B.2.2.2.2.2.1, B.2.2.2.2.2.2) = bdM B 0 (Int32.ofNat v) := by
      simp (disch := omega) only [up_ne, up_eq, hk 1 (by omega) (by decide), hk 2 (by omega) (by decide), h0, h1, h2]
      rfl
    have gC : bG (bdM B 0 (Int32.ofNat v)) := by
      obtain ⟨g1, g2, g3, g4⟩ := g
      exact ⟨rg_n (by omega) (by omega), g2, g3, g4⟩
    have hM : ndF J M := ⟨fun a j a1 a2 => by rw [f2.1 a j a1, up_ne (by omega)]; exact hK.1 a j a1 a2, by rw [f2.2.1, up_ne (by omega)]; exact hK.2.1, by rw [f2.2.2, up_ne (by omega)]; exact hK.2.2⟩
    have hv : well (fun t => (pst (bdM B 0 (Int32.ofNat v)) w (trw set 0) (t + 1)).2.2.2.2.1) 0 12 = nw B w set 0 (Int32.ofNat v) := well_congr 12 0 (fun j _ _ => by rw [pst_trw gC]; rfl)
    rw [eC, hv] at f1
    rw [sg_Ch_leastSize_2]; simp (disch := omega) only [c0, c1, c2, c3, c4, c5, c6, c7, c8, c9, c10, c11, c12, c13, c20, c24, c60, c64, c84, c99, c100, c600, c720, c4096, c1000000, df, cond_false, f1, Option.bind_some, pm_ai, sg_Ch_leastSize_25, b01_ne, n_s, fv]
    cases nw B w set 0 (Int32.ofNat v) with
    | true => exact ⟨M, rfl, hM⟩
    | false => exact ih (v + 1) M (by omega) hM (fun j j1 j2 => by rw [f2.1 49 j (by unfold plS; omega), up_ne (by omega)]; exact hk j j1 j2)
theorem k_leastFill {J : Nat → Nat → Int32} {B : PB} {w : Nat → Int32} (set : Int32) (h : pdP J B w) (h0 : J 49 0 = B.1) (h1 : J 49 1 = B.2.2.1) (h2 : J 49 2 = B.2.2.2.1) (g : bG B) :
    ∃ K, Cl X (d + 4) 129 [vr 1, vi set] (pm_mm al D J L) = some (some (vi (fv (fun v => nw B w set 1 (Int32.ofNat v)) 0 21)), pm_mm al D K L) ∧ ndF J K := by
  rw [Cl_s]
  show ∃ K, Rn X (d + 3) co_Ch_leastFill (0, [some (vr 1), some (vi set), none], [], pm_mm al D J L) = _ ∧ _
  rw [sg_Ch_leastFill_0]
  suffices hh : ∀ n v K, v + n = 21 → ndF J K → (∀ j, j ≤ 2 → j ≠ 1 → K 49 j = J 49 j) → ∃ M, Rn X (d + 3) co_Ch_leastFill (2, [some (vr 1), some (vi set), some (vi (Int32.ofNat v))], [], pm_mm al D K L) = some (some (vi (fv (fun v => nw B w set 1 (Int32.ofNat v)) v n)), pm_mm al D M L) ∧ ndF J M from
    hh 21 0 J rfl ndF_refl (fun _ _ _ => rfl)
  intro n
  induction n with
  | zero => intro v K hv hK hk; refine ⟨K, ?_, hK⟩; rw [sg_Ch_leastFill_2]; simp (disch := omega) only [c0, c1, c2, c3, c4, c5, c6, c7, c8, c9, c10, c11, c12, c13, c20, c24, c60, c64, c84, c99, c100, c600, c720, c4096, c1000000, dt, cond_true, fv]
  | succ n ih =>
    intro v K hv hK hk
    have hp : pdP (pm_up K 49 1 (Int32.ofNat v)) B w := pd_up h (fun a j a1 a2 => by rw [up_ne (by omega)]; exact hK.1 a j a1 a2)
    obtain ⟨M, f1, f2⟩ := k_wellB (X := X) (d := d) (al := al) (D := D) (L := L) set 0 hp
    have eC : ((pm_up K 49 1 (Int32.ofNat v)) 49 0, B.2.1, (pm_up K 49 1 (Int32.ofNat v)) 49 1, (pm_up K 49 1 (Int32.ofNat v)) 49 2, B.2.2.2.2.1, B.2.2.2.2.2.1, B.2.2.2.2.2.2) = bdM B 1 (Int32.ofNat v) := by
      simp (disch := omega) only [up_ne, up_eq, hk 0 (by omega) (by decide), hk 2 (by omega) (by decide), h0, h1, h2]
      rfl
    have gC : bG (bdM B 1 (Int32.ofNat v)) := by
      obtain ⟨g1, g2, g3, g4⟩ := g
      exact ⟨g1, g2, rg_n (by omega) (by omega), g4⟩
    have hM : ndF J M := ⟨fun a j a1 a2 => by rw [f2.1 a j a1, up_ne (by omega)]; exact hK.1 a j a1 a2, by rw [f2.2.1, up_ne (by omega)]; exact hK.2.1, by rw [f2.2.2, up_ne (by omega)]; exact hK.2.2⟩
    have hv : well (fun t => (pst (bdM B 1 (Int32.ofNat v)) w (trw set 0) (t + 1)).2.2.2.2.1) 0 12 = nw B w set 1 (Int32.ofNat v) := well_congr 12 0 (fun j _ _ => by rw [pst_trw gC]; rfl)
    rw [eC, hv] at f1
    rw [sg_Ch_leastFill_2]; simp (disch := omega) only [c0, c1, c2, c3, c4, c5, c6, c7, c8, c9, c10, c11, c12, c13, c20, c24, c60, c64, c84, c99, c100, c600, c720, c4096, c1000000, df, cond_false, f1, Option.bind_some, pm_ai, sg_Ch_leastFill_25, b01_ne, n_s, fv]
    cases nw B w set 1 (Int32.ofNat v) with
    | true => exact ⟨M, rfl, hM⟩
    | false => exact ih (v + 1) M (by omega) hM (fun j j1 j2 => by rw [f2.1 49 j (by unfold plS; omega), up_ne (by omega)]; exact hk j j1 j2)
theorem k_leastStrength {J : Nat → Nat → Int32} {B : PB} {w : Nat → Int32} (set : Int32) (h : pdP J B w) (h0 : J 49 0 = B.1) (h1 : J 49 1 = B.2.2.1) (h2 : J 49 2 = B.2.2.2.1) (g : bG B) :
    ∃ K, Cl X (d + 4) 130 [vr 1, vi set] (pm_mm al D J L) = some (some (vi (fv (fun v => nw B w set 2 (Int32.ofNat v)) 0 13)), pm_mm al D K L) ∧ ndF J K := by
  rw [Cl_s]
  show ∃ K, Rn X (d + 3) co_Ch_leastStrength (0, [some (vr 1), some (vi set), none], [], pm_mm al D J L) = _ ∧ _
  rw [sg_Ch_leastStrength_0]
  suffices hh : ∀ n v K, v + n = 13 → ndF J K → (∀ j, j ≤ 2 → j ≠ 2 → K 49 j = J 49 j) → ∃ M, Rn X (d + 3) co_Ch_leastStrength (2, [some (vr 1), some (vi set), some (vi (Int32.ofNat v))], [], pm_mm al D K L) = some (some (vi (fv (fun v => nw B w set 2 (Int32.ofNat v)) v n)), pm_mm al D M L) ∧ ndF J M from
    hh 13 0 J rfl ndF_refl (fun _ _ _ => rfl)
  intro n
  induction n with
  | zero => intro v K hv hK hk; refine ⟨K, ?_, hK⟩; rw [sg_Ch_leastStrength_2]; simp (disch := omega) only [c0, c1, c2, c3, c4, c5, c6, c7, c8, c9, c10, c11, c12, c13, c20, c24, c60, c64, c84, c99, c100, c600, c720, c4096, c1000000, dt, cond_true, fv]
  | succ n ih =>
    intro v K hv hK hk
    have hp : pdP (pm_up K 49 2 (Int32.ofNat v)) B w := pd_up h (fun a j a1 a2 => by rw [up_ne (by omega)]; exact hK.1 a j a1 a2)
    obtain ⟨M, f1, f2⟩ := k_wellB (X := X) (d := d) (al := al) (D := D) (L := L) set 0 hp
    have eC : ((pm_up K 49 2 (Int32.ofNat v)) 49 0, B.2.1, (pm_up K 49 2 (Int32.ofNat v)) 49 1, (pm_up K 49 2 (Int32.ofNat v)) 49 2, B.2.2.2.2.1, B.2.2.2.2.2.1, B.2.2.2.2.2.2) = bdM B 2 (Int32.ofNat v) := by
      simp (disch := omega) only [up_ne, up_eq, hk 0 (by omega) (by decide), hk 1 (by omega) (by decide), h0, h1, h2]
      rfl
    have gC : bG (bdM B 2 (Int32.ofNat v)) := by
      obtain ⟨g1, g2, g3, g4⟩ := g
      exact ⟨g1, g2, g3, g4⟩
    have hM : ndF J M := ⟨fun a j a1 a2 => by rw [f2.1 a j a1, up_ne (by omega)]; exact hK.1 a j a1 a2, by rw [f2.2.1, up_ne (by omega)]; exact hK.2.1, by rw [f2.2.2, up_ne (by omega)]; exact hK.2.2⟩
    have hv : well (fun t => (pst (bdM B 2 (Int32.ofNat v)) w (trw set 0) (t + 1)).2.2.2.2.1) 0 12 = nw B w set 2 (Int32.ofNat v) := well_congr 12 0 (fun j _ _ => by rw [pst_trw gC]; rfl)
    rw [eC, hv] at f1
    rw [sg_Ch_leastStrength_2]; simp (disch := omega) only [c0, c1, c2, c3, c4, c5, c6, c7, c8, c9, c10, c11, c12, c13, c20, c24, c60, c64, c84, c99, c100, c600, c720, c4096, c1000000, df, cond_false, f1, Option.bind_some, pm_ai, sg_Ch_leastStrength_25, b01_ne, n_s, fv]
    cases nw B w set 2 (Int32.ofNat v) with
    | true => exact ⟨M, rfl, hM⟩
    | false => exact ih (v + 1) M (by omega) hM (fun j j1 j2 => by rw [f2.1 49 j (by unfold plS; omega), up_ne (by omega)]; exact hk j j1 j2)
theorem k_laziest {J : Nat → Nat → Int32} {B : PB} {w : Nat → Int32} (set : Int32) (h : pdP J B w) (h0 : J 49 0 = B.1) (h1 : J 49 1 = B.2.2.1) (h2 : J 49 2 = B.2.2.2.1) :
    ∃ K, Cl X (d + 4) 131 [vr 1] (pm_mm al D J L) = some (some (vi (fv (fun v => nw B w set 3 (Int32.ofNat v)) 0 100)), pm_mm al D K L) ∧ ndF J K := by
  rw [Cl_s]
  show ∃ K, Rn X (d + 3) co_Ch_laziest (0, [some (vr 1), none], [], pm_mm al D J L) = _ ∧ _
  rw [sg_Ch_laziest_0]
  suffices hh : ∀ n v K, v + n = 100 → ndF J K → (∀ j, j ≤ 2 → K 49 j = J 49 j) → ∃ M, Rn X (d + 3) co_Ch_laziest (2, [some (vr 1), some (vi (Int32.ofNat v))], [], pm_mm al D K L) = some (some (vi (fv (fun v => nw B w set 3 (Int32.ofNat v)) v n)), pm_mm al D M L) ∧ ndF J M from
    hh 100 0 J rfl ndF_refl (fun _ _ => rfl)
  intro n
  induction n with
  | zero => intro v K hv hK hk; refine ⟨K, ?_, hK⟩; rw [sg_Ch_laziest_2]; simp (disch := omega) only [c0, c1, c2, c3, c4, c5, c6, c7, c8, c9, c10, c11, c12, c13, c20, c24, c60, c64, c84, c99, c100, c600, c720, c4096, c1000000, dt, cond_true, fv]
  | succ n ih =>
    intro v K hv hK hk
    have hp : pdP K B w := pd_up h hK.1
    obtain ⟨M, f1, f2⟩ := k_wellB (X := X) (d := d) (al := al) (D := D) (L := L) 0 (Int32.ofNat v) hp
    have eC : (K 49 0, B.2.1, K 49 1, K 49 2, B.2.2.2.2.1, B.2.2.2.2.2.1, B.2.2.2.2.2.2) = bdM B 3 (Int32.ofNat v) := by
      rw [hk 0 (by omega), hk 1 (by omega), hk 2 (by omega), h0, h1, h2]; rfl
    have hM : ndF J M := ⟨fun a j a1 a2 => by rw [f2.1 a j a1]; exact hK.1 a j a1 a2, by rw [f2.2.1]; exact hK.2.1, by rw [f2.2.2]; exact hK.2.2⟩
    have hv0 : (0 : Int32) ≤ Int32.ofNat v := (n_le (a := 0) (by omega) (by omega)).mpr (Nat.zero_le v)
    have hv : well (fun t => (pst (bdM B 3 (Int32.ofNat v)) w (trw 0 (Int32.ofNat v)) (t + 1)).2.2.2.2.1) 0 12 = nw B w set 3 (Int32.ofNat v) := well_congr 12 0 (fun j _ _ => by rw [pst_lazy set _ hv0 (j + 1) (by omega)]; rfl)
    rw [eC, hv] at f1
    rw [sg_Ch_laziest_2]; simp (disch := omega) only [c0, c1, c2, c3, c4, c5, c6, c7, c8, c9, c10, c11, c12, c13, c20, c24, c60, c64, c84, c99, c100, c600, c720, c4096, c1000000, df, cond_false, f1, Option.bind_some, pm_ai, sg_Ch_laziest_17, b01_ne, n_s, fv]
    cases nw B w set 3 (Int32.ofNat v) with
    | true => exact ⟨M, rfl, hM⟩
    | false => exact ih (v + 1) M (by omega) hM (fun j j1 => by rw [f2.1 49 j (by unfold plS; omega)]; exact hk j j1)
theorem cF_nd {I J K : Nat → Nat → Int32} (e2 : ∀ a j, ¬ prS a j → J a j = I a j) (f : ndF J K) : cF I K := by
  refine ⟨fun a h1 h2 => ?_, ?_, ?_, ?_⟩
  · funext j; rw [f.1 a j (by unfold plS; omega) (by omega), e2 a j (by unfold prS tkS; omega)]
  · rw [f.2.1, e2 57 0 (by unfold prS tkS; omega)]
  · rw [f.2.2, e2 59 0 (by unfold prS tkS; omega)]
  · funext j; rw [f.1 64 j (by unfold plS; omega) (by omega), e2 64 j (by unfold prS tkS; omega)]
theorem q_need {m : Nat → Nat} (b s u what : Int32) (g : rG I m) (r : RL I m) : ∃ J, Cl X (d + 5) 127 [vr 1, vi b, vi s, vi u, vi what] (pm_mm al D I L) = some (some (vi (vNeed I m b s u what)), pm_mm al D J L) ∧ cF I J := by
  have hm : ∀ i, i < 4 → m i ≤ 2 ∧ I 4 i = Int32.ofNat (m i) := fun i hi => ⟨(g.1 i hi).1, (r.1 i hi).trans (g.1 i hi).2⟩
  rw [Cl_s]
  show ∃ J, Rn X (d + 4) co_Ch_need (0, [some (vr 1), some (vi b), some (vi s), some (vi u), some (vi what)], [], pm_mm al D I L) = _ ∧ _
  rw [sg_Ch_need_x_0, k_hasThree (d := d + 1) b s u hm]
  simp only [Option.bind_some, pm_ai, sg_Ch_need_x_7, b01_ne, vNeed]
  rw [Bool.and_comm (pm_in s (m 1))]
  cases hok : (pm_in b (m 0) && pm_in s (m 1) && pm_in u (m 2)) with
  | false => exact ⟨I, rfl, cF_refl⟩
  | true =>
    simp only [Bool.not_true, cond_false, Bool.true_and]
    simp only [Bool.and_eq_true] at hok
    obtain ⟨⟨o1, o2⟩, o3⟩ := hok
    obtain ⟨s', hs', es⟩ := in_nat o2
    obtain ⟨b', hb', eb⟩ := in_nat o1
    obtain ⟨u', hu', eu⟩ := in_nat o3
    have m0 := (g.1 0 (by omega)).1
    have m1 := (g.1 1 (by omega)).1
    have m2 := (g.1 2 (by omega)).1
    obtain ⟨J, e1, e2, e3⟩ := k_prepare (X := X) (d := d + 1) (al := al) (D := D) (L := L) (I := I) (b := b') (s := s') (by omega) (by omega) (sR_gC (r.2.2.1 s' hs') (g.2.2.1 s' hs'))
    obtain ⟨hp, h0, h1, h2⟩ := k_pd g r hb' hs' e3
    subst eb es eu
    have e7 : J 7 u' = I 89 u' := (e2 7 u' (by unfold prS tkS; omega)).trans (r.2.2.2.1 u' hu')
    have gB := bG_O g hb'
    rw [e1]
    simp (disch := omega) only [Option.bind_some, pm_av, sg_Ch_need_x_18, n_in, dt, cond_true, n_tn, e7]
    cases hw : pm_in what 4 with
    | true =>
      obtain ⟨w', hw', ew⟩ := in_nat hw
      have : w' = 0 ∨ w' = 1 ∨ w' = 2 ∨ w' = 3 := by omega
      rcases this with rfl | rfl | rfl | rfl <;> subst ew
      · obtain ⟨K, f1, f2⟩ := k_leastSize (X := X) (d := d) (al := al) (D := D) (L := L) (I 89 u') hp h0 h1 h2 gB
        refine ⟨K, ?_, cF_nd e2 f2⟩
        show ((Cl X (d + 4) 128 [vr 1, vi (I 89 u')] (pm_mm al D J L)).bind pm_ai).bind _ = _
        rw [f1]
        simp only [Option.bind_some, pm_ai, sg_Ch_need_x_65]; rfl
      · obtain ⟨K, f1, f2⟩ := k_leastFill (X := X) (d := d) (al := al) (D := D) (L := L) (I 89 u') hp h0 h1 h2 gB
        refine ⟨K, ?_, cF_nd e2 f2⟩
        show ((Cl X (d + 4) 129 [vr 1, vi (I 89 u')] (pm_mm al D J L)).bind pm_ai).bind _ = _
        rw [f1]
        simp only [Option.bind_some, pm_ai, sg_Ch_need_x_79]; rfl
      · obtain ⟨K, f1, f2⟩ := k_leastStrength (X := X) (d := d) (al := al) (D := D) (L := L) (I 89 u') hp h0 h1 h2 gB
        refine ⟨K, ?_, cF_nd e2 f2⟩
        show ((Cl X (d + 4) 130 [vr 1, vi (I 89 u')] (pm_mm al D J L)).bind pm_ai).bind _ = _
        rw [f1]
        simp only [Option.bind_some, pm_ai, sg_Ch_need_x_93]; rfl
      · obtain ⟨K, f1, f2⟩ := k_laziest (X := X) (d := d) (al := al) (D := D) (L := L) (I 89 u') hp h0 h1 h2
        refine ⟨K, ?_, cF_nd e2 f2⟩
        show ((Cl X (d + 4) 131 [vr 1] (pm_mm al D J L)).bind pm_ai).bind _ = _
        rw [f1]
        simp only [Option.bind_some, pm_ai, sg_Ch_need_x_98]; rfl
    | false =>
      have n0 : decide (what = 0) = false := df (fun c => by subst c; revert hw; decide)
      have n1 : decide (what = 1) = false := df (fun c => by subst c; revert hw; decide)
      have n2 : decide (what = 2) = false := df (fun c => by subst c; revert hw; decide)
      have n3 : decide (what = 3) = false := df (fun c => by subst c; revert hw; decide)
      simp only [n0, n1, n2, n3, cond_false]
      exact ⟨J, rfl, cF_nd e2 ndF_refl⟩
end
