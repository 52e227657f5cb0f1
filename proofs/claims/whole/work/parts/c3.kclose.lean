section
variable {X : Nat × (Nat → Int32)} {d : Nat} {al : List Nat} {D : Nat → Bool} {I : Nat → Nat → Int32} {L : Nat → Nat → Int64}
def pu (P : Nat → Int32) (k : Nat) (x : Int32) : Nat → Int32 := fun j => if j = k then x else P j
theorem pu_eq {P : Nat → Int32} {k : Nat} {x : Int32} : pu P k x k = x := if_pos rfl
theorem pu_ne {P : Nat → Int32} {k j : Nat} {x : Int32} (h : ¬ j = k) : pu P k x j = P j := if_neg h
/-- what a line tells -/
def pay (w ℓ : Nat) (v : Nat → Nat) (P : Nat → Int32) : Nat → Int32 := match w with
  | 0 => pu (pu (pu P 1 (Int32.ofNat (v 0))) 2 (Int32.ofNat (v 1))) 3 (Int32.ofNat (v 2))
  | 1 => pu P 4 (Int32.ofNat (v 0))
  | 2 => cond (decide (ℓ < 6)) (pu (pu (pu (pu P (5 + ℓ) (Int32.ofNat (v 0))) (11 + ℓ) (Int32.ofNat (v 1))) (17 + ℓ) (Int32.ofNat (v 2))) (23 + ℓ) (Int32.ofNat (v 3))) P
  | 3 => cond (decide (ℓ < 8)) (pu (pu (pu P (1 + 3 * ℓ) (Int32.ofNat (v 0))) (2 + 3 * ℓ) (Int32.ofNat (v 1))) (3 + 3 * ℓ) (Int32.ofNat (v 2))) P
  | 4 => pu P 0 (P 0 ||| (1 <<< (Int32.ofNat (v 0) &&& 31)))
  | 5 => pu P 0 (P 0 &&& ((1 <<< (Int32.ofNat (v 0) &&& 31)) ^^^ (-1)))
  | _ => cond (decide (ℓ < 8)) (pu (pu P (1 + 2 * ℓ) (Int32.ofNat (v 0))) (2 + 2 * ℓ) (Int32.ofNat (v 1))) P
/-- the class's reader holds what was told -/
def CP (s ℓ : Nat) (P : Nat → Int32) (J : Nat → Nat → Int32) : Prop := match s with
  | 0 => J 35 4 = Int32.ofNat (min ℓ 6) ∧ (J 35 0 = P 1 ∧ J 35 1 = P 2 ∧ J 35 2 = P 3 ∧ J 35 3 = P 4) ∧ (∀ p, p < min ℓ 6 → J 36 p = P (5 + p) ∧ J 37 p = P (11 + p) ∧ J 38 p = P (17 + p) ∧ J 39 p = P (23 + p)) ∧ J 40 0 = 0
  | 1 => J 40 0 = Int32.ofNat (min ℓ 8) ∧ ∀ k, k < min ℓ 8 → J 41 k = P (1 + 3 * k) ∧ J 42 k = P (2 + 3 * k) ∧ J 43 k = P (3 + 3 * k)
  | 2 => J 34 3 = P 0 ∧ J 40 0 = 0
  | _ => J 44 0 = Int32.ofNat (min ℓ 8) ∧ (∀ k, k < min ℓ 8 → J 45 k = P (1 + 2 * k) ∧ J 46 k = P (2 + 2 * k)) ∧ J 40 0 = 0
def sow (w : Nat) : Nat := match w with
  | 0 => 0
  | 1 => 0
  | 2 => 0
  | 3 => 1
  | 4 => 2
  | 5 => 2
  | _ => 3
theorem CP_up {s ℓ : Nat} {P : Nat → Int32} {J : Nat → Nat → Int32} (h : CP s ℓ P I) (e : ∀ a j, (35 ≤ a ∧ a ≤ 46) ∨ (a = 34 ∧ j = 3) → J a j = I a j) : CP s ℓ P J := by
  unfold CP at h ⊢
  split at h
  · obtain ⟨h1, ⟨h2, h3, h4, h5⟩, h6, h7⟩ := h
    exact ⟨(e _ _ (by omega)).trans h1, ⟨(e _ _ (by omega)).trans h2, (e _ _ (by omega)).trans h3, (e _ _ (by omega)).trans h4, (e _ _ (by omega)).trans h5⟩, fun p hp => by
      obtain ⟨w1, w2, w3, w4⟩ := h6 p hp
      exact ⟨(e _ _ (by omega)).trans w1, (e _ _ (by omega)).trans w2, (e _ _ (by omega)).trans w3, (e _ _ (by omega)).trans w4⟩, (e _ _ (by omega)).trans h7⟩
  · exact ⟨(e _ _ (by omega)).trans h.1, fun k hk => by
      obtain ⟨w1, w2, w3⟩ := h.2 k hk
      exact ⟨(e _ _ (by omega)).trans w1, (e _ _ (by omega)).trans w2, (e _ _ (by omega)).trans w3⟩⟩
  · exact ⟨(e _ _ (by omega)).trans h.1, (e _ _ (by omega)).trans h.2⟩
  · exact ⟨(e _ _ (by omega)).trans h.1, fun k hk => by
      obtain ⟨w1, w2⟩ := h.2.1 k hk
      exact ⟨(e _ _ (by omega)).trans w1, (e _ _ (by omega)).trans w2⟩, (e _ _ (by omega)).trans h.2.2⟩
theorem k_addPipe {c : Nat} (h : I 35 4 = Int32.ofNat c) (hc : c < 6) : Cl X (d + 1) 8 [vr 35, vr 48] (pm_mm al D I L) = some (none, pm_mm al D (pm_up (pm_up (pm_up (pm_up (pm_up I 36 c (I 48 0)) 37 c (I 48 1)) 38 c (I 48 2)) 39 c (I 48 3)) 35 4 (Int32.ofNat (c + 1))) L) := by
  rw [Cl_s]
  show Rn X d co_Ba_addPipe (0, [some (vr 35), some (vr 48)], [], pm_mm al D I L) = _
  rw [sg_Ba_addPipe_35_48_0, h, show decide ((6 : Int32) ≤ Int32.ofNat c) = false from (n_dle (a := 6) (by omega) (by omega)).trans (df (by omega)), cond_false, n_in (by omega), dt hc, cond_true, cond_true, cond_true, cond_true, n_tn (by omega), n_s, sg_Ba_addPipe_35_48_67]
theorem k_addPipe6 (h : I 35 4 = Int32.ofNat 6) : Cl X (d + 1) 8 [vr 35, vr 48] (pm_mm al D I L) = some (none, pm_mm al D I L) := by
  rw [Cl_s]
  show Rn X d co_Ba_addPipe (0, [some (vr 35), some (vr 48)], [], pm_mm al D I L) = _
  rw [sg_Ba_addPipe_35_48_0, h, show decide ((6 : Int32) ≤ Int32.ofNat 6) = true from rfl, cond_true, sg_Ba_addPipe_35_48_67]
theorem k_addNote1 {c : Nat} (h : I 40 0 = Int32.ofNat c) (hc : c < 8) : Cl X (d + 1) 77 [vr 40, vr 48] (pm_mm al D I L) = some (none, pm_mm al D (pm_up (pm_up (pm_up (pm_up I 41 c (I 48 0)) 42 c (I 48 1)) 43 c (I 48 2)) 40 0 (Int32.ofNat (c + 1))) L) := by
  rw [Cl_s]
  show Rn X d co_Sc_addNote (0, [some (vr 40), some (vr 48)], [], pm_mm al D I L) = _
  rw [sg_Sc_addNote_40_48_0, h, show decide ((8 : Int32) ≤ Int32.ofNat c) = false from (n_dle (a := 8) (by omega) (by omega)).trans (df (by omega)), cond_false, n_in (by omega), dt hc, cond_true, cond_true, cond_true, n_tn (by omega), n_s, sg_Sc_addNote_40_48_55]
theorem k_addNote8 (h : I 40 0 = Int32.ofNat 8) : Cl X (d + 1) 77 [vr 40, vr 48] (pm_mm al D I L) = some (none, pm_mm al D I L) := by
  rw [Cl_s]
  show Rn X d co_Sc_addNote (0, [some (vr 40), some (vr 48)], [], pm_mm al D I L) = _
  rw [sg_Sc_addNote_40_48_0, h, show decide ((8 : Int32) ≤ Int32.ofNat 8) = true from rfl, cond_true, sg_Sc_addNote_40_48_55]
theorem k_addLine {c : Nat} (h : I 44 0 = Int32.ofNat c) (hc : c < 8) : Cl X (d + 1) 36 [vr 44, vr 48] (pm_mm al D I L) = some (none, pm_mm al D (pm_up (pm_up (pm_up I 45 c (I 48 0)) 46 c (I 48 1)) 44 0 (Int32.ofNat (c + 1))) L) := by
  rw [Cl_s]
  show Rn X d co_Lo_addLine (0, [some (vr 44), some (vr 48)], [], pm_mm al D I L) = _
  rw [sg_Lo_addLine_44_48_0, h, show decide ((8 : Int32) ≤ Int32.ofNat c) = false from (n_dle (a := 8) (by omega) (by omega)).trans (df (by omega)), cond_false, n_in (by omega), dt hc, cond_true, cond_true, n_tn (by omega), n_s, sg_Lo_addLine_44_48_43]
theorem k_addLine8 (h : I 44 0 = Int32.ofNat 8) : Cl X (d + 1) 36 [vr 44, vr 48] (pm_mm al D I L) = some (none, pm_mm al D I L) := by
  rw [Cl_s]
  show Rn X d co_Lo_addLine (0, [some (vr 44), some (vr 48)], [], pm_mm al D I L) = _
  rw [sg_Lo_addLine_44_48_0, h, show decide ((8 : Int32) ≤ Int32.ofNat 8) = true from rfl, cond_true, sg_Lo_addLine_44_48_43]
theorem k_close {w ℓ : Nat} {v : Nat → Nat} {P : Nat → Int32} (hw : w < 7) (e8 : I 34 8 = Int32.ofNat w) (ev : ∀ i, i < nno w → I 48 i = Int32.ofNat (v i)) (h : CP (sow w) ℓ P I) :
    ∃ J, Cl X (d + 2) 75 [vr 34] (pm_mm al (pm_tb 7 D) I L) = some (none, pm_mm al (pm_tb 7 D) J L) ∧ (∀ a j, ¬ (35 ≤ a ∧ a ≤ 46) → ¬ (a = 34 ∧ (j = 3 ∨ j = 8)) → J a j = I a j) ∧ J 34 8 = -1 ∧ CP (sow w) (lnn w ℓ) (pay w ℓ v P) J := by
  rw [Cl_s]
  show ∃ J, Rn X (d + 1) co_Re_closeLine (0, [some (vr 34)], [], pm_mm al (pm_tb 7 D) I L) = _ ∧ _
  rw [sg_Re_closeLine_0, e8]
  have hc : w = 0 ∨ w = 1 ∨ w = 2 ∨ w = 3 ∨ w = 4 ∨ w = 5 ∨ w = 6 := by omega
  rcases hc with c | c | c | c | c | c | c <;> subst c
  · -- bellows
    rw [show decide (Int32.ofNat 0 = 0) = true from rfl, cond_true, sg_Re_closeLine_183, ev 0 (by decide), ev 1 (by decide), ev 2 (by decide)]
    obtain ⟨h1, ⟨h2, h3, h4, h5⟩, h6, h7⟩ := h
    refine ⟨_, rfl, fun a j a1 a2 => by rw [up_ne (by omega), up_ne (by omega), up_ne (by omega), up_ne (by omega)], up_eq, ?_⟩
    refine ⟨by rw [up_ne (by omega), up_ne (by omega), up_ne (by omega), up_ne (by omega)]; exact h1, ⟨?_, ?_, ?_, ?_⟩, fun p hp => ?_, by rw [up_ne (by omega), up_ne (by omega), up_ne (by omega), up_ne (by omega)]; exact h7⟩
    · rw [up_ne (by omega), up_ne (by omega), up_ne (by omega), up_eq, pay, pu_ne (by omega), pu_ne (by omega), pu_eq]
    · rw [up_ne (by omega), up_ne (by omega), up_eq, pay, pu_ne (by omega), pu_eq]
    · rw [up_ne (by omega), up_eq, pay, pu_eq]
    · rw [up_ne (by omega), up_ne (by omega), up_ne (by omega), up_ne (by omega), pay, pu_ne (by omega), pu_ne (by omega), pu_ne (by omega)]; exact h5
    · obtain ⟨w1, w2, w3, w4⟩ := h6 p hp
      refine ⟨?_, ?_, ?_, ?_⟩ <;> rw [up_ne (by omega), up_ne (by omega), up_ne (by omega), up_ne (by omega), pay, pu_ne (by omega), pu_ne (by omega), pu_ne (by omega)] <;> assumption
  · -- strength
    rw [show decide (Int32.ofNat 1 = 0) = false from rfl, cond_false, show decide (Int32.ofNat 1 = 1) = true from rfl, cond_true, sg_Re_closeLine_183, ev 0 (by decide)]
    obtain ⟨h1, ⟨h2, h3, h4, h5⟩, h6, h7⟩ := h
    refine ⟨_, rfl, fun a j a1 a2 => by rw [up_ne (by omega), up_ne (by omega)], up_eq, ?_⟩
    refine ⟨by rw [up_ne (by omega), up_ne (by omega)]; exact h1, ⟨?_, ?_, ?_, ?_⟩, fun p hp => ?_, by rw [up_ne (by omega), up_ne (by omega)]; exact h7⟩
    · rw [up_ne (by omega), up_ne (by omega), pay, pu_ne (by omega)]; exact h2
    · rw [up_ne (by omega), up_ne (by omega), pay, pu_ne (by omega)]; exact h3
    · rw [up_ne (by omega), up_ne (by omega), pay, pu_ne (by omega)]; exact h4
    · rw [up_ne (by omega), up_eq, pay, pu_eq]
    · obtain ⟨w1, w2, w3, w4⟩ := h6 p hp
      refine ⟨?_, ?_, ?_, ?_⟩ <;> rw [up_ne (by omega), up_ne (by omega), pay, pu_ne (by omega)] <;> assumption
  · -- pipe
    rw [show decide (Int32.ofNat 2 = 0) = false from rfl, cond_false, show decide (Int32.ofNat 2 = 1) = false from rfl, cond_false, show decide (Int32.ofNat 2 = 2) = true from rfl, cond_true]
    obtain ⟨h1, ⟨h2, h3, h4, h5⟩, h6, h7⟩ := h
    have el : lnn 2 ℓ = ℓ + 1 := rfl
    by_cases hl : ℓ < 6
    · rw [Nat.min_eq_left (by omega)] at h1 h6
      rw [k_addPipe h1 hl, ev 0 (by decide), ev 1 (by decide), ev 2 (by decide), ev 3 (by decide)]
      simp only [Option.bind_some, pm_av]
      rw [sg_Re_closeLine_113, sg_Re_closeLine_183]
      refine ⟨_, rfl, fun a j a1 a2 => by rw [up_ne (by omega), up_ne (by omega), up_ne (by omega), up_ne (by omega), up_ne (by omega), up_ne (by omega)], up_eq, ?_⟩
      rw [el, pay, dt hl, cond_true]
      refine ⟨by rw [up_ne (by omega), up_eq, Nat.min_eq_left (by omega)], ⟨?_, ?_, ?_, ?_⟩, fun p hp => ?_, ?_⟩
      · rw [up_ne (by omega), up_ne (by omega), up_ne (by omega), up_ne (by omega), up_ne (by omega), up_ne (by omega), pu_ne (by omega), pu_ne (by omega), pu_ne (by omega), pu_ne (by omega)]; exact h2
      · rw [up_ne (by omega), up_ne (by omega), up_ne (by omega), up_ne (by omega), up_ne (by omega), up_ne (by omega), pu_ne (by omega), pu_ne (by omega), pu_ne (by omega), pu_ne (by omega)]; exact h3
      · rw [up_ne (by omega), up_ne (by omega), up_ne (by omega), up_ne (by omega), up_ne (by omega), up_ne (by omega), pu_ne (by omega), pu_ne (by omega), pu_ne (by omega), pu_ne (by omega)]; exact h4
      · rw [up_ne (by omega), up_ne (by omega), up_ne (by omega), up_ne (by omega), up_ne (by omega), up_ne (by omega), pu_ne (by omega), pu_ne (by omega), pu_ne (by omega), pu_ne (by omega)]; exact h5
      · by_cases e : p = ℓ
        · subst e
          refine ⟨?_, ?_, ?_, ?_⟩
          · rw [up_ne (by omega), up_ne (by omega), up_ne (by omega), up_ne (by omega), up_ne (by omega), up_eq, pu_ne (by omega), pu_ne (by omega), pu_ne (by omega), pu_eq]
          · rw [up_ne (by omega), up_ne (by omega), up_ne (by omega), up_ne (by omega), up_eq, pu_ne (by omega), pu_ne (by omega), pu_eq]
          · rw [up_ne (by omega), up_ne (by omega), up_ne (by omega), up_eq, pu_ne (by omega), pu_eq]
          · rw [up_ne (by omega), up_ne (by omega), up_eq, pu_eq]
        · obtain ⟨w1, w2, w3, w4⟩ := h6 p (by omega)
          refine ⟨?_, ?_, ?_, ?_⟩ <;> rw [up_ne (by omega), up_ne (by omega), up_ne (by omega), up_ne (by omega), up_ne (by omega), up_ne (by omega), pu_ne (by omega), pu_ne (by omega), pu_ne (by omega), pu_ne (by omega)] <;> assumption
      · rw [up_ne (by omega), up_ne (by omega), up_ne (by omega), up_ne (by omega), up_ne (by omega), up_ne (by omega)]; exact h7
    · rw [Nat.min_eq_right (by omega)] at h1 h6
      rw [k_addPipe6 h1]
      simp only [Option.bind_some, pm_av]
      rw [sg_Re_closeLine_113, sg_Re_closeLine_183]
      refine ⟨_, rfl, fun a j a1 a2 => by rw [up_ne (by omega)], up_eq, ?_⟩
      rw [el, pay, df hl, cond_false]
      refine ⟨by rw [up_ne (by omega), Nat.min_eq_right (by omega)]; exact h1, ⟨by rw [up_ne (by omega)]; exact h2, by rw [up_ne (by omega)]; exact h3, by rw [up_ne (by omega)]; exact h4, by rw [up_ne (by omega)]; exact h5⟩, fun p hp => ?_, by rw [up_ne (by omega)]; exact h7⟩
      obtain ⟨w1, w2, w3, w4⟩ := h6 p (by omega)
      refine ⟨?_, ?_, ?_, ?_⟩ <;> rw [up_ne (by omega)] <;> assumption
  · -- note
    rw [show decide (Int32.ofNat 3 = 0) = false from rfl, cond_false, show decide (Int32.ofNat 3 = 1) = false from rfl, cond_false, show decide (Int32.ofNat 3 = 2) = false from rfl, cond_false, show decide (Int32.ofNat 3 = 3) = true from rfl, cond_true]
    obtain ⟨h1, h6⟩ := h
    have el : lnn 3 ℓ = ℓ + 1 := rfl
    by_cases hl : ℓ < 8
    · rw [Nat.min_eq_left (by omega)] at h1 h6
      rw [k_addNote1 h1 hl, ev 0 (by decide), ev 1 (by decide), ev 2 (by decide)]
      simp only [Option.bind_some, pm_av]
      rw [sg_Re_closeLine_127, sg_Re_closeLine_183]
      refine ⟨_, rfl, fun a j a1 a2 => by rw [up_ne (by omega), up_ne (by omega), up_ne (by omega), up_ne (by omega), up_ne (by omega)], up_eq, ?_⟩
      rw [el, pay, dt hl, cond_true]
      refine ⟨by rw [up_ne (by omega), up_eq, Nat.min_eq_left (by omega)], fun p hp => ?_⟩
      by_cases e : p = ℓ
      · subst e
        refine ⟨?_, ?_, ?_⟩
        · rw [up_ne (by omega), up_ne (by omega), up_ne (by omega), up_ne (by omega), up_eq, pu_ne (by omega), pu_ne (by omega), pu_eq]
        · rw [up_ne (by omega), up_ne (by omega), up_ne (by omega), up_eq, pu_ne (by omega), pu_eq]
        · rw [up_ne (by omega), up_ne (by omega), up_eq, pu_eq]
      · obtain ⟨w1, w2, w3⟩ := h6 p (by omega)
        refine ⟨?_, ?_, ?_⟩ <;> rw [up_ne (by omega), up_ne (by omega), up_ne (by omega), up_ne (by omega), up_ne (by omega), pu_ne (by omega), pu_ne (by omega), pu_ne (by omega)] <;> assumption
    · rw [Nat.min_eq_right (by omega)] at h1 h6
      rw [k_addNote8 h1]
      simp only [Option.bind_some, pm_av]
      rw [sg_Re_closeLine_127, sg_Re_closeLine_183]
      refine ⟨_, rfl, fun a j a1 a2 => by rw [up_ne (by omega)], up_eq, ?_⟩
      rw [el, pay, df hl, cond_false]
      refine ⟨by rw [up_ne (by omega), Nat.min_eq_right (by omega)]; exact h1, fun p hp => ?_⟩
      obtain ⟨w1, w2, w3⟩ := h6 p (by omega)
      refine ⟨?_, ?_, ?_⟩ <;> rw [up_ne (by omega)] <;> assumption
  · -- tread
    rw [show decide (Int32.ofNat 4 = 0) = false from rfl, cond_false, show decide (Int32.ofNat 4 = 1) = false from rfl, cond_false, show decide (Int32.ofNat 4 = 2) = false from rfl, cond_false, show decide (Int32.ofNat 4 = 3) = false from rfl, cond_false, show decide (Int32.ofNat 4 = 4) = true from rfl, cond_true, sg_Re_closeLine_183, ev 0 (by decide)]
    obtain ⟨h1, h2⟩ := h
    refine ⟨_, rfl, fun a j a1 a2 => by rw [up_ne (by omega), up_ne (by omega)], up_eq, by rw [up_ne (by omega), up_eq, pay, pu_eq, h1], by rw [up_ne (by omega), up_ne (by omega)]; exact h2⟩
  · -- rest
    rw [show decide (Int32.ofNat 5 = 0) = false from rfl, cond_false, show decide (Int32.ofNat 5 = 1) = false from rfl, cond_false, show decide (Int32.ofNat 5 = 2) = false from rfl, cond_false, show decide (Int32.ofNat 5 = 3) = false from rfl, cond_false, show decide (Int32.ofNat 5 = 4) = false from rfl, cond_false, show decide (Int32.ofNat 5 = 5) = true from rfl, cond_true, sg_Re_closeLine_183, ev 0 (by decide)]
    obtain ⟨h1, h2⟩ := h
    refine ⟨_, rfl, fun a j a1 a2 => by rw [up_ne (by omega), up_ne (by omega)], up_eq, by rw [up_ne (by omega), up_eq, pay, pu_eq, h1], by rw [up_ne (by omega), up_ne (by omega)]; exact h2⟩
  · -- heard
    rw [show decide (Int32.ofNat 6 = 0) = false from rfl, cond_false, show decide (Int32.ofNat 6 = 1) = false from rfl, cond_false, show decide (Int32.ofNat 6 = 2) = false from rfl, cond_false, show decide (Int32.ofNat 6 = 3) = false from rfl, cond_false, show decide (Int32.ofNat 6 = 4) = false from rfl, cond_false, show decide (Int32.ofNat 6 = 5) = false from rfl, cond_false]
    obtain ⟨h1, h6, h7⟩ := h
    have el : lnn 6 ℓ = ℓ + 1 := rfl
    by_cases hl : ℓ < 8
    · rw [Nat.min_eq_left (by omega)] at h1 h6
      rw [k_addLine h1 hl, ev 0 (by decide), ev 1 (by decide)]
      simp only [Option.bind_some, pm_av]
      rw [sg_Re_closeLine_183]
      refine ⟨_, rfl, fun a j a1 a2 => by rw [up_ne (by omega), up_ne (by omega), up_ne (by omega), up_ne (by omega)], up_eq, ?_⟩
      rw [el]
      have ep : pay 6 ℓ v P = pu (pu P (1 + 2 * ℓ) (Int32.ofNat (v 0))) (2 + 2 * ℓ) (Int32.ofNat (v 1)) := by
        show cond (decide (ℓ < 8)) _ _ = _
        rw [dt hl, cond_true]
      rw [ep]
      refine ⟨by rw [up_ne (by omega), up_eq, Nat.min_eq_left (by omega)], fun p hp => ?_, by rw [up_ne (by omega), up_ne (by omega), up_ne (by omega), up_ne (by omega)]; exact h7⟩
      by_cases e : p = ℓ
      · subst e
        refine ⟨?_, ?_⟩
        · rw [up_ne (by omega), up_ne (by omega), up_ne (by omega), up_eq, pu_ne (by omega), pu_eq]
        · rw [up_ne (by omega), up_ne (by omega), up_eq, pu_eq]
      · obtain ⟨w1, w2⟩ := h6 p (by omega)
        refine ⟨?_, ?_⟩ <;> rw [up_ne (by omega), up_ne (by omega), up_ne (by omega), up_ne (by omega), pu_ne (by omega), pu_ne (by omega)] <;> assumption
    · rw [Nat.min_eq_right (by omega)] at h1 h6
      rw [k_addLine8 h1]
      simp only [Option.bind_some, pm_av]
      rw [sg_Re_closeLine_183]
      refine ⟨_, rfl, fun a j a1 a2 => by rw [up_ne (by omega)], up_eq, ?_⟩
      have ep : pay 6 ℓ v P = P := by
        show cond (decide (ℓ < 8)) _ _ = _
        rw [df hl, cond_false]
      rw [el, ep]
      refine ⟨by rw [up_ne (by omega), Nat.min_eq_right (by omega)]; exact h1, fun p hp => ?_, by rw [up_ne (by omega)]; exact h7⟩
      obtain ⟨w1, w2⟩ := h6 p (by omega)
      refine ⟨?_, ?_⟩ <;> rw [up_ne (by omega)] <;> assumption
end
