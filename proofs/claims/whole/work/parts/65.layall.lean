section
variable {X : Nat × (Nat → Int32)} {d : Nat} {al : List Nat} {D : Nat → Bool} {I : Nat → Nat → Int32} {L : Nat → Nat → Int64}
theorem c_layAll {m : Nat → Nat} (b s u : Int32) (g : rG I m) : ∃ J, Cl X (d + 4) 214 [vr 81, vi b, vi s, vi u] (pm_mm al D I L) = some (some (vi (b01 (pm_in s (m 1) && pm_in b (m 0) && pm_in u (m 2)))), pm_mm al D J L) ∧ (∀ a j, ¬ laS a j → J a j = I a j)
    ∧ ∀ b' s' u', b = Int32.ofNat b' → s = Int32.ofNat s' → u = Int32.ofNat u' → b' < m 0 → s' < m 1 → u' < m 2 → laP I J b' s' ∧ J 81 40 = I 89 u' := by
  rw [Cl_s]
  show ∃ J, Rn X (d + 3) co_Mo_layAll (0, [some (vr 81), some (vi b), some (vi s), some (vi u)], [], pm_mm al D I L) = _ ∧ _
  obtain ⟨g0, g1, g2, g3, g4⟩ := g
  have m0 := (g0 0 (by omega)).1
  have m1 := (g0 1 (by omega)).1
  have m2 := (g0 2 (by omega)).1
  simp only [sg_Mo_layAll_0, c_hasScore s (g0 1 (by omega)).1 (g0 1 (by omega)).2, Option.bind_some, pm_ai, sg_Mo_layAll_5, b01_ne]
  cases hs : pm_in s (m 1) with
  | false =>
    simp only [Bool.not_false, cond_true, sg_Mo_layAll_25, Bool.false_and]
    refine ⟨_, rfl, fun a j h => ?_, fun b' s' u' _ es _ _ h _ => ?_⟩
    · unfold laS at h; rw [pm_up, if_neg (by omega)]
    · rw [es, n_in (by omega), decide_eq_true h] at hs; cases hs
  | true =>
    obtain ⟨s', hs', es⟩ := in_nat hs
    simp only [Bool.not_true, cond_false, Bool.true_and]
    have k0 : (pm_up I 81 24 s) 86 0 = Int32.ofNat (m 0) := (g0 0 (by omega)).2
    cases hb : pm_in b (m 0) with
    | false =>
      rw [c_hand_f (I := pm_up I 81 24 s) m0 k0 hb]
      simp only [Option.bind_some, pm_ai, sg_Mo_layAll_13]
      refine ⟨_, sg_Mo_layAll_25 .., fun a j h => ?_, fun b' s' u' eb _ _ h _ _ => ?_⟩
      · unfold laS at h; rw [pm_up, if_neg (by omega)]
      · rw [eb, n_in (by omega), decide_eq_true h] at hb; cases hb
    | true =>
      obtain ⟨b', hb', eb⟩ := in_nat hb
      obtain ⟨J, e1, e2, e3⟩ := c_hand_t (X := X) (d := d) (al := al) (D := D) (L := L) (I := pm_up I 81 24 s) m0 k0 hb'
      rw [eb, e1]
      have j88 : J 88 = I 88 := by
        funext j; rw [e2 88 j (by unfold hdS; omega), pm_up, if_neg (by omega)]
      have j86 : J 86 2 = Int32.ofNat (m 2) := by rw [e2 86 2 (by unfold hdS; omega)]; exact (g0 2 (by omega)).2
      have j24 : J 81 24 = Int32.ofNat s' := by rw [e2 81 24 (by unfold hdS; omega), es]; simp [pm_up]
      have hl := c_layNotes (X := X) (d := d) (al := al) (D := D) (L := L) (I := J) (s := s') (by omega) j24 (by rw [gS_up j88]; exact g2 s' hs')
      have hi : Cl X (d + 3) 172 [vr 81, vi 2, vi u] (pm_mm al D J L) = _ := c_is (s := 2) (m := m 2) (d := d + 1) u (by omega) (by omega) j86
      simp only [Option.bind_some, pm_ai, sg_Mo_layAll_13]
      rw [show decide ((1 : Int32) = 0) = false from rfl, cond_false, hi]
      simp only [Option.bind_some, pm_ai, sg_Mo_layAll_22, b01_ne, Bool.true_and]
      cases hu : pm_in u (m 2) with
      | false =>
        simp only [Bool.not_false, cond_true, sg_Mo_layAll_25]
        refine ⟨_, rfl, fun a j h => ?_, fun b' s' u' _ _ eu _ _ h => ?_⟩
        · unfold laS at h; rw [e2 a j (by unfold hdS; omega), pm_up, if_neg (by omega)]
        · rw [eu, n_in (by omega), decide_eq_true h] at hu; cases hu
      | true =>
        obtain ⟨u', hu', eu⟩ := in_nat hu
        have h1 : (1 : Int32) * Int32.ofNat u' = Int32.ofNat u' := Int32.one_mul _
        rw [Bool.not_true, cond_false, hl, eu]
        simp only [Option.bind_some, pm_av, sg_Mo_layAll_31, h1]
        rw [n_in (by omega), decide_eq_true (by omega), cond_true, n_tn (by omega)]
        refine ⟨_, rfl, fun a j h => ?_, fun b2 s2 u2 eb2 es2 eu2 h1 h2 h3 => ?_⟩
        · unfold laS at h
          rw [pm_up, if_neg (by omega), pm_ups, if_neg (by omega), e2 a j (by unfold hdS; omega), pm_up, if_neg (by omega)]
        · have q1 : b' = b2 := (n_eq (by omega) (by omega)).mp (eb2 ▸ rfl)
          have q2 : s' = s2 := (n_eq (by omega) (by omega)).mp (es ▸ es2)
          have q3 : u' = u2 := (n_eq (by omega) (by omega)).mp eu2
          subst q1; subst q2; subst q3
          refine ⟨⟨?_, ?_, fun t ht => ?_⟩, ?_⟩
          · exact e3
          · exact j24
          · rw [pm_up, if_neg (by omega), pm_ups, if_pos rfl, if_pos ht, scO_up j88]
          · rw [pm_up, if_pos ⟨rfl, rfl⟩, pm_ups, if_neg (by omega), e2 89 _ (by unfold hdS; omega), pm_up, if_neg (by omega)]
/-- the band as the reference has it: its numbers, its pipes in their own row -/
def bdO (I : Nat → Nat → Int32) (b : Nat) : PB := (I 87 (29 * b + 1), I 87 (29 * b + 2), I 87 (29 * b + 3), I 87 (29 * b + 4), (I 87 (29 * b)).toNatClampNeg, dwR I b, fun i => Int32.ofNat i)
theorem fo_congr {σ : Type} {f g : Nat → σ → σ} (n : Nat) (s : σ) (h : ∀ k t, k < n → f k t = g k t) : fo f n s = fo g n s := by
  induction n with
  | zero => rfl
  | succ n ih => rw [fo, fo, ih (fun k t hk => h k t (by omega)), h n _ (by omega)]
/-- the play asks the band's row only below its pipes, and the beats only below twelve -/
theorem pst_congr {B C : PB} {w v : Nat → Int32} {tr ur : Nat → Int32 → Bool} (h1 : B.1 = C.1) (h2 : B.2.1 = C.2.1) (h3 : B.2.2.1 = C.2.2.1) (h4 : B.2.2.2.1 = C.2.2.2.1) (h5 : B.2.2.2.2.1 = C.2.2.2.2.1)
    (h6 : ∀ i, i < C.2.2.2.2.1 → B.2.2.2.2.2.2 i = C.2.2.2.2.2.2 i ∧ B.2.2.2.2.2.1 (B.2.2.2.2.2.2 i) = C.2.2.2.2.2.1 (C.2.2.2.2.2.2 i)) : ∀ (t : Nat), (∀ u, u < t → w u = v u) → (∀ u, u < t → ∀ x, tr u x = ur u x) → pst B w tr t = pst C v ur t
  | 0, _, _ => by rw [pst, pst, h1, h4]
  | t + 1, hw, ht => by
    have ih := pst_congr h1 h2 h3 h4 h5 h6 t (fun u hu => hw u (by omega)) (fun u hu => ht u (by omega))
    have hd : ∀ w f br, dr w f br B.2.2.2.2.2.1 B.2.2.2.2.2.2 B.2.2.2.2.1 = dr w f br C.2.2.2.2.2.1 C.2.2.2.2.2.2 C.2.2.2.2.1 := fun w f br => by
      rw [dr, dr, h5]
      refine fo_congr _ _ (fun i s hi => ?_)
      rw [dr1, dr1, (h6 i hi).2, (h6 i hi).1]
    rw [pst, pst, ih, hw t (by omega), ht t (by omega)]
    simp only [nx, nxd, nxl, nxa, nxf, hd, h1, h2, h3, h4]
end
