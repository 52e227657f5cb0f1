section
variable {X : Nat × (Nat → Int32)} {d : Nat} {al : List Nat} {D : Nat → Bool} {I : Nat → Nat → Int32} {L : Nat → Nat → Int64}
/-- a question leaves what the reference was told -/
def rF (I J : Nat → Nat → Int32) : Prop := ∀ a, a ≠ 81 → ¬ (91 ≤ a ∧ a ≤ 112) → J a = I a
theorem rG_up {I J : Nat → Nat → Int32} (m : Nat → Nat) (h : rF I J) : rG J m = rG I m := by
  have h86 := h 86 (by omega) (by omega)
  have h87 := h 87 (by omega) (by omega)
  have h88 := h 88 (by omega) (by omega)
  have h89 := h 89 (by omega) (by omega)
  have h90 := h 90 (by omega) (by omega)
  simp only [rG, gB, gS, scO, gL, h86, h87, h88, h89, h90]
theorem rF_code : rF I (pm_up I 81 0 0) := fun a h _ => by funext j; rw [pm_up, if_neg (by omega)]
theorem rF_la {J : Nat → Nat → Int32} (h : ∀ a j, ¬ laS a j → J a j = I a j) : rF I J := fun a h1 h2 => by funext j; exact h a j (by unfold laS; omega)
theorem rF_pl {J : Nat → Nat → Int32} (h : plF I J) : rF I J := fun a h1 h2 => by funext j; exact h a j (by omega) (by omega)
theorem rF.trans {I J K : Nat → Nat → Int32} (h : rF I J) (g : rF J K) : rF I K := fun a h1 h2 => (g a h1 h2).trans (h a h1 h2)
/-- the play of the reference behind its lay, in what it was told -/
theorem pst_laid {m : Nat → Nat} {J : Nat → Nat → Int32} {b s : Nat} (g : rG I m) (hb : b < m 0) (hF : ∀ a j, ¬ laS a j → J a j = I a j) (h : laP I J b s) (tr : Nat → Int32 → Bool) (t : Nat) (ht : t ≤ 12) :
    pst (PBr J b (I 87 (29 * b)).toNatClampNeg) (J 93) tr t = pst (bdO I b) (wn (scO I s)) tr t := by
  obtain ⟨⟨h1, h2, h3, h4, h5, h6⟩, h7, h8⟩ := h
  have g6 := (g.2.1 b hb).1
  refine pst_congr (B := PBr J b (I 87 (29 * b)).toNatClampNeg) (C := bdO I b) h3 ?_ h4 h5 rfl (fun i hi => ?_) t (fun u hu => h8 u (by omega)) (fun _ _ _ => rfl)
  · exact hF 87 _ (by unfold laS; omega)
  · have hi : i < (I 87 (29 * b)).toNatClampNeg := hi
    have : J 94 i = Int32.ofNat i := h6 i (by omega)
    refine ⟨this, ?_⟩
    show dwR J b (J 94 i) = dwR I b (Int32.ofNat i)
    rw [this, dwR, dwR]
    exact hF 87 _ (by unfold laS; omega)
theorem c_plays_laid {m : Nat → Nat} {J : Nat → Nat → Int32} {b s : Nat} (set below : Int32) (g : rG I m) (hb : b < m 0) (hF : ∀ a j, ¬ laS a j → J a j = I a j) (h : laP I J b s) :
    ∃ K, Cl X (d + 3) 210 [vr 81, vi set, vi below] (pm_mm al D J L) = some (none, pm_mm al D K L) ∧ plF J K ∧ plR (PBr J b (I 87 (29 * b)).toNatClampNeg) (J 93) (trd set below) 12 K := by
  have g6 := (g.2.1 b hb).1
  have m0 := (g.1 0 (by omega)).1
  obtain ⟨⟨h1, h2, h3, h4, h5, h6⟩, h7, h8⟩ := h
  exact c_plays set below (by omega) h1 g6 (h2.trans (n_of (g.2.1 b hb).2.1)) (fun i hi => ⟨i, by omega, h6 i (by omega)⟩)
def vPlayed (I : Nat → Nat → Int32) (m : Nat → Nat) (b s u beat what : Int32) : Int32 :=
  cond (pm_in s (m 1) && pm_in b (m 0) && pm_in u (m 2) && pm_in beat 12) (bhd (pst (bdO I b.toNatClampNeg) (wn (scO I s.toNatClampNeg)) (trd (I 89 u.toNatClampNeg) (-1)) (beat.toNatClampNeg + 1)) what) (-1)
theorem r_played {m : Nat → Nat} (b s u beat what : Int32) (g : rG I m) : ∃ J, Cl X (d + 5) 216 [vr 81, vi b, vi s, vi u, vi beat, vi what] (pm_mm al D I L) = some (some (vi (vPlayed I m b s u beat what)), pm_mm al D J L) ∧ rF I J := by
  rw [Cl_s]
  show ∃ J, Rn X (d + 4) co_Mo_played (0, [some (vr 81), some (vi b), some (vi s), some (vi u), some (vi beat), some (vi what)], [], pm_mm al D I L) = _ ∧ _
  have g' : rG (pm_up I 81 0 0) m := by rw [rG_up m rF_code]; exact g
  obtain ⟨J, e1, e2, e3⟩ := c_layAll (X := X) (d := d) (al := al) (D := D) (L := L) (I := pm_up I 81 0 0) b s u g'
  rw [sg_Mo_played_0, e1]
  simp only [Option.bind_some, pm_ai, sg_Mo_played_12, b01_ne, vPlayed]
  cases hok : (pm_in s (m 1) && pm_in b (m 0) && pm_in u (m 2)) with
  | false =>
    simp only [Bool.not_false, cond_true, sg_Mo_played_26, Bool.false_and, cond_false]
    exact ⟨J, rfl, rF_code.trans (rF_la e2)⟩
  | true =>
    have hbt : (if 0 ≤ beat ∧ beat ≤ 11 then (1 : Int32) else 0) = b01 (pm_in beat 12) := in_m (m := 12) (by omega)
    simp only [Bool.not_true, cond_false, c_in, Option.bind_some, pm_ai, sg_Mo_played_23, Bool.true_and, hbt, b01_ne]
    cases ht : pm_in beat 12 with
    | false =>
      simp only [Bool.not_false, cond_true, sg_Mo_played_26, cond_false]
      exact ⟨J, rfl, rF_code.trans (rF_la e2)⟩
    | true =>
      simp only [Bool.and_eq_true] at hok
      obtain ⟨⟨o1, o2⟩, o3⟩ := hok
      obtain ⟨s', hs', es⟩ := in_nat o1
      obtain ⟨b', hb', eb⟩ := in_nat o2
      obtain ⟨u', hu', eu⟩ := in_nat o3
      obtain ⟨t', ht', et⟩ := in_nat ht
      have m0 := (g.1 0 (by omega)).1
      have m1 := (g.1 1 (by omega)).1
      have m2 := (g.1 2 (by omega)).1
      obtain ⟨hl, h40⟩ := e3 b' s' u' eb es eu hb' hs' hu'
      obtain ⟨K, f1, f2, f3⟩ := c_plays_laid (X := X) (d := d + 1) (al := al) (D := D) (L := L) (J 81 40) (-1) g' hb' e2 hl
      simp only [Bool.not_true, cond_false, cond_true]
      rw [f1]
      simp only [Option.bind_some, pm_av, sg_Mo_played_37]
      rw [et, c_ofPlayed what ht' f3]
      simp only [Option.bind_some, pm_ai, sg_Mo_played_45]
      refine ⟨K, ?_, rF_code.trans ((rF_la e2).trans (rF_pl f2))⟩
      have hp := pst_laid (I := pm_up I 81 0 0) g' hb' e2 hl (trd (J 81 40) (-1)) (t' + 1) (by omega)
      rw [hp, h40, eb, es, eu, n_tn (by omega), n_tn (by omega), n_tn (by omega), n_tn (by omega)]
      rfl
end
