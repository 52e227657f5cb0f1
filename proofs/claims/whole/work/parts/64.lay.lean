section
variable {X : Nat × (Nat → Int32)} {d : Nat} {al : List Nat} {D : Nat → Bool} {I : Nat → Nat → Int32} {L : Nat → Nat → Int64}
def rg (x : Int32) (a b : Int) : Prop := a ≤ x.toInt ∧ x.toInt ≤ b
def gB (I : Nat → Nat → Int32) (b : Nat) : Prop := (I 87 (29 * b)).toNatClampNeg ≤ 6 ∧ 0 ≤ I 87 (29 * b) ∧ rg (I 87 (29 * b + 1)) 1 99 ∧ rg (I 87 (29 * b + 2)) 0 9 ∧ rg (I 87 (29 * b + 3)) 0 20 ∧ rg (I 87 (29 * b + 4)) 0 12
  ∧ ∀ p, p < (I 87 (29 * b)).toNatClampNeg → rg (I 87 (29 * b + (5 + p))) 1 9 ∧ rg (I 87 (29 * b + (11 + p))) 0 9 ∧ rg (I 87 (29 * b + (17 + p))) 0 9 ∧ rg (I 87 (29 * b + (23 + p))) 0 9
def gL (I : Nat → Nat → Int32) (l : Nat) : Prop := (I 90 (17 * l)).toNatClampNeg ≤ 8 ∧ 0 ≤ I 90 (17 * l) ∧ ∀ k, k < (I 90 (17 * l)).toNatClampNeg → rg (I 90 (17 * l + 1 + 2 * k + 0)) 0 11 ∧ rg (I 90 (17 * l + 1 + 2 * k + 1)) 0 6
/-- what the reference was told is good: how many of each sort, and each of them -/
def rG (I : Nat → Nat → Int32) (m : Nat → Nat) : Prop := (∀ s, s < 4 → m s ≤ 2 ∧ I 86 s = Int32.ofNat (m s)) ∧ (∀ b, b < m 0 → gB I b) ∧ (∀ s, s < m 1 → gS I s) ∧ (∀ t, t < m 2 → rg (I 89 t) 0 4095) ∧ ∀ l, l < m 3 → gL I l
theorem in_nat {k : Int32} {m : Nat} (h : pm_in k m = true) : ∃ b, b < m ∧ k = Int32.ofNat b := by
  have h' := in_iff.mp h
  have h0 : (0 : Int32).toInt = 0 := rfl
  exact ⟨k.toNatClampNeg, by rw [t_tn]; omega, n_of (t_le.mpr (by omega))⟩
def laS (a j : Nat) : Prop := (a = 81 ∧ ((23 ≤ j ∧ j ≤ 25) ∨ (27 ≤ j ∧ j ≤ 29) ∨ j = 40)) ∨ a = 93 ∨ a = 94
/-- band b and score s are laid -/
def laP (I J : Nat → Nat → Int32) (b s : Nat) : Prop := hdP I J b ∧ J 81 24 = Int32.ofNat s ∧ ∀ t, t < 12 → J 93 t = wn (scO I s) t
theorem gS_up {I J : Nat → Nat → Int32} {s : Nat} (h : J 88 = I 88) : gS J s = gS I s := by simp only [gS, scO, h]
theorem scO_up {I J : Nat → Nat → Int32} {s : Nat} (h : J 88 = I 88) : scO J s = scO I s := by simp only [scO, h]
theorem c_layBoth {m : Nat → Nat} (b s : Int32) (g : rG I m) : ∃ J, Cl X (d + 4) 215 [vr 81, vi b, vi s] (pm_mm al D I L) = some (some (vi (b01 (pm_in s (m 1) && pm_in b (m 0)))), pm_mm al D J L) ∧ (∀ a j, ¬ laS a j → J a j = I a j)
    ∧ ∀ b' s', b = Int32.ofNat b' → s = Int32.ofNat s' → b' < m 0 → s' < m 1 → laP I J b' s' := by
  rw [Cl_s]
  show ∃ J, Rn X (d + 3) co_Mo_layBoth (0, [some (vr 81), some (vi b), some (vi s)], [], pm_mm al D I L) = _ ∧ _
  obtain ⟨g0, g1, g2, g3, g4⟩ := g
  simp only [sg_Mo_layBoth_0, c_hasScore s (g0 1 (by omega)).1 (g0 1 (by omega)).2, Option.bind_some, pm_ai, sg_Mo_layBoth_5, b01_ne]
  cases hs : pm_in s (m 1) with
  | false =>
    simp only [Bool.not_false, cond_true, sg_Mo_layBoth_16, Bool.false_and]
    refine ⟨_, rfl, fun a j h => ?_, fun b' s' _ es _ h => ?_⟩
    · unfold laS at h; rw [pm_up, if_neg (by omega)]
    · rw [es, n_in (by have := (g0 1 (by omega)).1; omega), decide_eq_true h] at hs; cases hs
  | true =>
    obtain ⟨s', hs', es⟩ := in_nat hs
    simp only [Bool.not_true, cond_false, Bool.true_and]
    have k0 : (pm_up I 81 24 s) 86 0 = Int32.ofNat (m 0) := (g0 0 (by omega)).2
    cases hb : pm_in b (m 0) with
    | false =>
      rw [c_hand_f (I := pm_up I 81 24 s) (g0 0 (by omega)).1 k0 hb]
      simp only [Option.bind_some, pm_ai, sg_Mo_layBoth_13]
      refine ⟨_, sg_Mo_layBoth_16 .., fun a j h => ?_, fun b' s' eb _ h _ => ?_⟩
      · unfold laS at h; rw [pm_up, if_neg (by omega)]
      · rw [eb, n_in (by have := (g0 0 (by omega)).1; omega), decide_eq_true h] at hb; cases hb
    | true =>
      obtain ⟨b', hb', eb⟩ := in_nat hb
      obtain ⟨J, e1, e2, e3⟩ := c_hand_t (X := X) (d := d) (al := al) (D := D) (L := L) (I := pm_up I 81 24 s) (g0 0 (by omega)).1 k0 hb'
      rw [eb, e1]
      have j88 : J 88 = I 88 := by
        funext j; rw [e2 88 j (by unfold hdS; omega), pm_up, if_neg (by omega)]
      have j24 : J 81 24 = Int32.ofNat s' := by rw [e2 81 24 (by unfold hdS; omega), es]; simp [pm_up]
      have hl := c_layNotes (X := X) (d := d) (al := al) (D := D) (L := L) (I := J) (s := s') (by have := (g0 1 (by omega)).1; omega) j24 (by rw [gS_up j88]; exact g2 s' hs')
      simp only [Option.bind_some, pm_ai, sg_Mo_layBoth_13]
      rw [show decide ((1 : Int32) = 0) = false from rfl, cond_false, hl]
      simp only [Option.bind_some, pm_av, sg_Mo_layBoth_22]
      refine ⟨_, rfl, fun a j h => ?_, fun b2 s2 eb2 es2 h1 h2 => ?_⟩
      · unfold laS at h
        rw [pm_ups, if_neg (by omega), e2 a j (by unfold hdS; omega), pm_up, if_neg (by omega)]
      · have hmm := (g0 0 (by omega)).1
        have hmm1 := (g0 1 (by omega)).1
        have q1 : b' = b2 := (n_eq (by omega) (by omega)).mp (eb2 ▸ rfl)
        have q2 : s' = s2 := (n_eq (by omega) (by omega)).mp (es ▸ es2)
        subst q1; subst q2
        refine ⟨e3, j24, fun t ht => ?_⟩
        rw [pm_ups, if_pos rfl, if_pos ht, scO_up j88]
end
