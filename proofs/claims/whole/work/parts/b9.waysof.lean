section
variable {X : Nat × (Nat → Int32)} {d : Nat} {al : List Nat} {D : Nat → Bool} {I : Nat → Nat → Int32} {L : Nat → Nat → Int64}
/-- what was told, and nothing else -/
def tlE (I J : Nat → Nat → Int32) : Prop := ∀ a, a ≤ 33 ∨ (82 ≤ a ∧ a ≤ 90) → J a = I a
theorem cF_tl {I J : Nat → Nat → Int32} (h : cF I J) : tlE I J := fun a ha => h.1 a (by omega) (by omega)
theorem rG_tl {I J : Nat → Nat → Int32} {m : Nat → Nat} (h : tlE I J) (g : rG I m) : rG J m := by
  have e86 := h 86 (by omega); have e87 := h 87 (by omega); have e88 := h 88 (by omega); have e89 := h 89 (by omega); have e90 := h 90 (by omega)
  simpa only [rG, gB, gS, gL, scO, e86, e87, e88, e89, e90] using g
theorem RL_tl {I J : Nat → Nat → Int32} {m : Nat → Nat} (h : tlE I J) (g : rG I m) (r : RL I m) : RL J m := by
  have m0 := (g.1 0 (by omega)).1; have m1 := (g.1 1 (by omega)).1; have m3 := (g.1 3 (by omega)).1
  obtain ⟨r1, r2, r3, r4, r5, r6, r7, r8, r9⟩ := r
  have e82 := h 82 (by omega); have e83 := h 83 (by omega); have e84 := h 84 (by omega); have e85 := h 85 (by omega)
  have e86 := h 86 (by omega); have e87 := h 87 (by omega); have e88 := h 88 (by omega); have e89 := h 89 (by omega); have e90 := h 90 (by omega)
  have e2 := h 2 (by omega); have e3 := h 3 (by omega); have e4 := h 4 (by omega); have e7 := h 7 (by omega)
  refine ⟨fun i hi => by rw [e4, e86]; exact r1 i hi, fun b hb => ?_, fun s hs => ?_, fun u hu => by rw [e7, e89]; exact r4 u hu, fun l hl => ?_, fun k hk => by rw [e3, e82]; exact r6 k hk, by rw [e2, e83]; exact r7, by rw [e2, e84]; exact r8, by rw [e2, e85]; exact r9⟩
  · rw [bR, e87, h (9 + 5 * b) (by omega), h (9 + 5 * b + 1) (by omega), h (9 + 5 * b + 2) (by omega), h (9 + 5 * b + 3) (by omega), h (9 + 5 * b + 4) (by omega)]
    exact r2 b hb
  · rw [sR, e88, h (19 + 4 * s) (by omega), h (19 + 4 * s + 1) (by omega), h (19 + 4 * s + 2) (by omega), h (19 + 4 * s + 3) (by omega)]
    exact r3 s hs
  · rw [lR, e90, h (27 + 3 * l) (by omega), h (27 + 3 * l + 1) (by omega), h (27 + 3 * l + 2) (by omega)]
    exact r5 l hl
theorem bdO_tl {I J : Nat → Nat → Int32} (h : tlE I J) (b : Nat) : bdO J b = bdO I b := by
  have e87 := h 87 (by omega)
  have : dwR J b = dwR I b := by funext p; rw [dwR, dwR, e87]
  rw [bdO, bdO, e87, this]
theorem scO_tl {I J : Nat → Nat → Int32} (h : tlE I J) (s : Nat) : scO J s = scO I s := scO_up (h 88 (by omega))
/-- ways that are known are those of what was told -/
def cW (D : Nat → Bool) (I : Nat → Nat → Int32) (L : Nat → Nat → Int64) (m : Nat → Nat) : Prop := ∀ b s, b < m 0 → s < m 1 → D (3 + 2 * b + s) = true → ¬ I (220 + 6 * b + 3 * s) 3 = 0 → wyP (bdO I b) (wn (scO I s)) (2 * b + s) I L
theorem tbD {k : Nat} (h : D k = true) : pm_tb k D = D := by
  funext j; by_cases c : j = k
  · subst c; show cond (Nat.beq j j) true (D j) = D j; rw [Nat.beq_refl, h]; rfl
  · show cond (Nat.beq j k) true (D j) = D j; rw [beq_f c]; rfl
theorem fbD {k : Nat} (h : D k = false) : pm_fb k D = D := by
  funext j; by_cases c : j = k
  · subst c; show cond (Nat.beq j j) false (D j) = D j; rw [Nat.beq_refl, h]; rfl
  · show cond (Nat.beq j k) false (D j) = D j; rw [beq_f c]; rfl
def wyF (b s : Nat) (I J : Nat → Nat → Int32) : Prop := cF I J ∧ ∀ a j, 81 ≤ a → ¬ (220 + 6 * b + 3 * s ≤ a ∧ a ≤ 222 + 6 * b + 3 * s) → J a j = I a j
theorem cW_up {m : Nat → Nat} {b s : Nat} {J : Nat → Nat → Int32} {M : Nat → Nat → Int64} (g : rG I m) (w : cW D I L m) (hs2 : s < 2) (h : wyF b s I J) (hl : lnL (2 * b + s) L M) (hw : wyP (bdO I b) (wn (scO I s)) (2 * b + s) J M) : cW (pm_tb (3 + 2 * b + s) D) J M m := fun b' s' hb' hs' h1 h2 => by
  have m1 := (g.1 1 (by omega)).1
  rw [bdO_tl (cF_tl h.1), scO_tl (cF_tl h.1)]
  by_cases hc : b' = b ∧ s' = s
  · obtain ⟨rfl, rfl⟩ := hc; exact hw
  · have hne : ¬ 3 + 2 * b' + s' = 3 + 2 * b + s := by omega
    have h1 : cond (Nat.beq (3 + 2 * b' + s') (3 + 2 * b + s)) true (D (3 + 2 * b' + s')) = true := h1
    rw [beq_f hne] at h1
    rw [h.2 _ _ (by omega) (by omega)] at h2
    obtain ⟨w1, w2, w3⟩ := w b' s' hb' hs' h1 h2
    exact ⟨fun j hj => by rw [h.2 _ _ (by omega) (by omega)]; exact w1 j hj, by rw [hl _ _ (by omega)]; exact w2, fun x hx => by rw [hl _ _ (by omega)]; exact w3 x hx⟩
theorem k_ways28 {m : Nat → Nat} {b s : Nat} (g : rG I m) (r : RL I m) (hb : b < m 0) (hs : s < m 1) (h0 : I (220 + 6 * b + 3 * s) 3 = 0) : ∃ J M, Rn X (d + 16) co_Ch_waysOf (28, [some (vr 1), some (vi (Int32.ofNat b)), some (vi (Int32.ofNat s)), some (vi (Int32.ofNat (2 * b + s)))], [], pm_mm al (pm_tb (3 + 2 * b + s) D) I L) = some (some (vr (220 + 6 * b + 3 * s)), pm_mm al (pm_tb (3 + 2 * b + s) D) J M) ∧ wyF b s I J ∧ lnL (2 * b + s) L M ∧ wyP (bdO I b) (wn (scO I s)) (2 * b + s) J M := by
  have m0 := (g.1 0 (by omega)).1
  have m1 := (g.1 1 (by omega)).1
  have hb2 : b < 2 := by omega
  have hs2 : s < 2 := by omega
  obtain ⟨J, e1, e2, e3⟩ := k_prepare (X := X) (d := d + 13) (al := al) (D := pm_tb (3 + 2 * b + s) D) (L := L) (I := I) (b := b) (s := s) hb2 hs2 (sR_gC (r.2.2.1 s hs) (g.2.2.1 s hs))
  obtain ⟨p1, p2, p3, p4, p5⟩ := k_prepared g r hb hs e3
  obtain ⟨K, M, f1, f2, f3, f4, f5⟩ := k_learn (X := X) (d := d) (al := al) (D := D) (I := J) (L := L) (b := 2 * b + s) (by omega) p1 ⟨p2, p3, p4, rfl, rfl⟩
  have q1 : 220 + 3 * (2 * b + s) = 220 + 6 * b + 3 * s := by omega
  rw [q1, show 3 + (2 * b + s) = 3 + 2 * b + s by omega] at f1
  refine ⟨K, M, ?_, ⟨⟨fun a h1 h2 => ?_, ?_, ?_, ?_⟩, fun a j h1 h2 => ?_⟩, f3, wyP_ext (fun n t ht => p5 _ t ht) f5⟩
  · rw [sgb_Ch_waysOf_28 hb2 hs2, h0]
    show ((Cl X (d + 16) 122 _ _).bind pm_av).bind _ = _
    rw [e1]
    simp only [Option.bind_some, pm_av]
    rw [sgb_Ch_waysOf_46 hb2 hs2, f1]
    simp only [Option.bind_some, pm_av]
    rw [sgb_Ch_waysOf_59 hb2 hs2]
  · funext j; rw [f2.1 a j (by unfold plS; omega) (by omega), e2 a j (by unfold prS tkS; omega)]
  · rw [f2.2.1, e2 57 0 (by unfold prS tkS; omega)]
  · rw [f2.2.2, e2 59 0 (by unfold prS tkS; omega)]
  · funext j; rw [f2.1 64 j (by unfold plS; omega) (by omega), e2 64 j (by unfold prS tkS; omega)]
  · rw [f2.1 a j (by unfold plS; omega) (by omega), e2 a j (by unfold prS tkS; omega)]
theorem k_waysOf {m : Nat → Nat} {b s : Nat} (g : rG I m) (r : RL I m) (w : cW D I L m) (hb : b < m 0) (hs : s < m 1) : ∃ J M, Cl X (d + 17) 137 [vr 1, vi (Int32.ofNat b), vi (Int32.ofNat s)] (pm_mm al D I L) = some (some (vr (220 + 6 * b + 3 * s)), pm_mm (cond (D (3 + 2 * b + s)) al (al ++ [220 + 6 * b + 3 * s] ++ [221 + 6 * b + 3 * s] ++ [222 + 6 * b + 3 * s])) (pm_tb (3 + 2 * b + s) D) J M) ∧ wyF b s I J ∧ lnL (2 * b + s) L M ∧ wyP (bdO I b) (wn (scO I s)) (2 * b + s) J M := by
  have m0 := (g.1 0 (by omega)).1
  have m1 := (g.1 1 (by omega)).1
  have hb2 : b < 2 := by omega
  have hs2 : s < 2 := by omega
  rw [Cl_s]
  show ∃ J M, Rn X (d + 16) co_Ch_waysOf (0, [some (vr 1), some (vi (Int32.ofNat b)), some (vi (Int32.ofNat s)), none], [], pm_mm al D I L) = _ ∧ _
  cases hD : D (3 + 2 * b + s) with
  | true =>
    have e := tbD hD
    rw [cond_true]
    by_cases h0 : I (220 + 6 * b + 3 * s) 3 = 0
    · obtain ⟨J, M, f1, f2⟩ := k_ways28 (X := X) (d := d) (al := al) (D := D) (L := L) g r hb hs h0
      refine ⟨J, M, ?_, f2⟩
      rw [← f1]
      have := sgb_Ch_waysOf_0 (X := X) (d := d + 16) hb2 hs2 none al D I L
      rw [e] at this ⊢
      exact this
    · refine ⟨I, L, ?_, ⟨cF_refl, fun _ _ _ _ => rfl⟩, fun _ _ _ => rfl, w b s hb hs hD h0⟩
      have h1 := sgb_Ch_waysOf_0 (X := X) (d := d + 16) hb2 hs2 none al D I L
      have h2 := sgb_Ch_waysOf_28 (X := X) (d := d + 16) hb2 hs2 al D I L
      rw [df h0, cond_false, sgb_Ch_waysOf_59 hb2 hs2] at h2
      rw [e] at h1 h2 ⊢
      exact h1.trans h2
  | false =>
    have e := fbD hD
    rw [cond_false]
    have tl : tlE I (pm_up I (220 + 6 * b + 3 * s) 3 0) := fun a ha => up_rw (by omega)
    obtain ⟨J, M, f1, f2, f3, f4⟩ := k_ways28 (X := X) (d := d) (al := al ++ [220 + 6 * b + 3 * s] ++ [221 + 6 * b + 3 * s] ++ [222 + 6 * b + 3 * s]) (D := D) (I := pm_up I (220 + 6 * b + 3 * s) 3 0) (L := pm_up L (220 + 6 * b + 3 * s) 2 0) (rG_tl tl g) (RL_tl tl g r) hb hs up_eq
    rw [bdO_tl tl, scO_tl tl] at f4
    refine ⟨J, M, ?_, ⟨cF.trans ⟨fun a h1 h2 => up_rw (by omega), up_ne (by omega), up_ne (by omega), up_rw (by omega)⟩ f2.1, fun a j h1 h2 => by rw [f2.2 a j h1 h2, up_ne (by omega)]⟩, fun a j h1 => by rw [f3 a j h1, up_ne (by omega)], f4⟩
    rw [← f1]
    have : Rn X (d + 16) co_Ch_waysOf (0, [some (vr 1), some (vi (Int32.ofNat b)), some (vi (Int32.ofNat s)), none], [], pm_mm al (pm_fb (3 + 2 * b + s) D) I L) = Rn X (d + 16) co_Ch_waysOf (28, [some (vr 1), some (vi (Int32.ofNat b)), some (vi (Int32.ofNat s)), some (vi (Int32.ofNat (2 * b + s)))], [], pm_mm (al ++ [220 + 6 * b + 3 * s] ++ [221 + 6 * b + 3 * s] ++ [222 + 6 * b + 3 * s]) (pm_tb (3 + 2 * b + s) D) (pm_up I (220 + 6 * b + 3 * s) 3 0) (pm_up L (220 + 6 * b + 3 * s) 2 0)) := by
      rcases two hb2 with rfl | rfl <;> rcases two hs2 with rfl | rfl
      · exact nw_0 ..
      · exact nw_1 ..
      · exact nw_2 ..
      · exact nw_3 ..
    rw [e] at this
    exact this
end
