section
variable {X : Nat × (Nat → Int32)} {d : Nat} {al : List Nat} {D : Nat → Bool} {I : Nat → Nat → Int32} {L : Nat → Nat → Int64}
/-- told, at number k, in the reference -/
theorem cst {a len n k : Nat} (hn : n ≤ 29) (hk : k < 2) (hl : 2 * n ≤ len) (hl2 : len ≤ 232) (ha : ¬ a = 91)
    (h0 : ∀ J, Rn X d co_Mo_store (0, [some (vr 81), some (vr a), some (vi (Int32.ofNat n)), some (vi (Int32.ofNat k)), none], [], pm_mm al D J L) = Rn X d co_Mo_store (3, [some (vr 81), some (vr a), some (vi (Int32.ofNat n)), some (vi (Int32.ofNat k)), some (vi 0)], [], pm_mm al D J L))
    (h3 : ∀ x4 J, Rn X d co_Mo_store (3, [some (vr 81), some (vr a), some (vi (Int32.ofNat n)), some (vi (Int32.ofNat k)), some (vi x4)], [], pm_mm al D J L) = cond (decide (Int32.ofNat n ≤ x4)) (some (none, pm_mm al D J L)) (cond (pm_in x4 29) (cond (pm_in ((Int32.ofNat n * Int32.ofNat k) + x4) len) (Rn X d co_Mo_store (3, [some (vr 81), some (vr a), some (vi (Int32.ofNat n)), some (vi (Int32.ofNat k)), some (vi (x4 + 1))], [], pm_mm al D (pm_up J a (((Int32.ofNat n * Int32.ofNat k) + x4).toNatClampNeg) (J 91 x4.toNatClampNeg)) L)) none) none)) :
    ∃ J, Cl X (d + 1) 191 [vr 81, vr a, vi (Int32.ofNat n), vi (Int32.ofNat k)] (pm_mm al D I L) = some (none, pm_mm al D J L) ∧ (∀ i, i < n → J a (n * k + i) = I 91 i) ∧ ∀ b j, ¬ (b = a ∧ n * k ≤ j ∧ j < n * k + n) → J b j = I b j := by
  have e1 : n * k + n ≤ 2 * n := by have := Nat.mul_le_mul_left n (show k + 1 ≤ 2 by omega); rw [Nat.mul_add, Nat.mul_one] at this; omega
  rw [Cl_s]
  show ∃ J, Rn X d co_Mo_store (0, [some (vr 81), some (vr a), some (vi (Int32.ofNat n)), some (vi (Int32.ofNat k)), none], [], pm_mm al D I L) = _ ∧ _
  obtain ⟨J, j1, j2, j3⟩ := lp n (fun i J => Rn X d co_Mo_store (3, [some (vr 81), some (vr a), some (vi (Int32.ofNat n)), some (vi (Int32.ofNat k)), some (vi (Int32.ofNat i))], [], pm_mm al D J L)) (fun q J => (∀ i, i < q → J a (n * k + i) = I 91 i) ∧ (∀ b j, ¬ (b = a ∧ n * k ≤ j ∧ j < n * k + q) → J b j = I b j)) (fun i J hi hq => by
    obtain ⟨q1, q2⟩ := hq
    refine ⟨pm_up J a (n * k + i) (J 91 i), ?_, fun u hu => ?_, fun b j hj => ?_⟩
    · show Rn X d co_Mo_store _ = Rn X d co_Mo_store _
      rw [h3, n_dle (by omega) (by omega), df (by omega), cond_false, n_in (by omega), dt (by omega), cond_true, n_mul n k, n_add (n * k) i, n_in (by omega), dt (by omega), cond_true, n_tn (by omega), n_tn (by omega), n_s]
    · by_cases e : u = i
      · subst e; rw [up_eq]; exact q2 _ _ (by omega)
      · rw [up_ne (by omega)]; exact q1 u (by omega)
    · rw [up_ne (by omega)]; exact q2 b j (by omega)) 0 I (Nat.zero_le _) ⟨fun i hi => absurd hi (Nat.not_lt_zero i), fun _ _ _ => rfl⟩
  refine ⟨J, ?_, j2, j3⟩
  rw [h0]
  refine Eq.trans j1 ?_
  rw [h3, n_dle (by omega) (by omega), dt (Nat.le_refl _), cond_true]
def rwd (s : Nat) : Nat := match s with
  | 0 => 29
  | 1 => 25
  | 2 => 1
  | _ => 17
theorem c_storeAll {s k : Nat} (hs : s < 4) (hk : k < 2) : ∃ J, Cl X (d + 2) 192 [vr 81, vi (Int32.ofNat s), vi (Int32.ofNat k)] (pm_mm al D I L) = some (none, pm_mm al D J L) ∧ (∀ i, i < rwd s → J (87 + s) (rwd s * k + i) = I 91 i) ∧ ∀ b j, ¬ (b = 87 + s ∧ rwd s * k ≤ j ∧ j < rwd s * k + rwd s) → J b j = I b j := by
  rw [Cl_s]
  show ∃ J, Rn X (d + 1) co_Mo_storeAll (0, [some (vr 81), some (vi (Int32.ofNat s)), some (vi (Int32.ofNat k))], [], pm_mm al D I L) = _ ∧ _
  have hc : s = 0 ∨ s = 1 ∨ s = 2 ∨ s = 3 := by omega
  rcases hc with c | c | c | c <;> subst c
  · obtain ⟨J, j1, j2, j3⟩ := cst (X := X) (d := d) (al := al) (D := D) (I := I) (L := L) (a := 87) (len := 232) (n := 29) (k := k) (by omega) hk (by omega) (by omega) (by omega) (fun J => sg_Mo_store_87_0 ..) (fun x4 J => sg_Mo_store_87_3 ..)
    have j1 : Cl X (d + 1) 191 [vr 81, vr 87, vi 29, vi (Int32.ofNat k)] (pm_mm al D I L) = some (none, pm_mm al D J L) := j1
    refine ⟨J, ?_, j2, j3⟩
    rw [sg_Mo_storeAll_0, show decide (Int32.ofNat 0 = 0) = true from rfl, cond_true, j1]
    simp only [Option.bind_some, pm_av]
    rw [sg_Mo_storeAll_39]
  · obtain ⟨J, j1, j2, j3⟩ := cst (X := X) (d := d) (al := al) (D := D) (I := I) (L := L) (a := 88) (len := 200) (n := 25) (k := k) (by omega) hk (by omega) (by omega) (by omega) (fun J => sg_Mo_store_88_0 ..) (fun x4 J => sg_Mo_store_88_3 ..)
    have j1 : Cl X (d + 1) 191 [vr 81, vr 88, vi 25, vi (Int32.ofNat k)] (pm_mm al D I L) = some (none, pm_mm al D J L) := j1
    refine ⟨J, ?_, j2, j3⟩
    rw [sg_Mo_storeAll_0, show decide (Int32.ofNat 1 = 0) = false from rfl, cond_false, show decide (Int32.ofNat 1 = 1) = true from rfl, cond_true, j1]
    simp only [Option.bind_some, pm_av]
    rw [sg_Mo_storeAll_51]
  · obtain ⟨J, j1, j2, j3⟩ := cst (X := X) (d := d) (al := al) (D := D) (I := I) (L := L) (a := 89) (len := 8) (n := 1) (k := k) (by omega) hk (by omega) (by omega) (by omega) (fun J => sg_Mo_store_89_0 ..) (fun x4 J => sg_Mo_store_89_3 ..)
    have j1 : Cl X (d + 1) 191 [vr 81, vr 89, vi 1, vi (Int32.ofNat k)] (pm_mm al D I L) = some (none, pm_mm al D J L) := j1
    refine ⟨J, ?_, j2, j3⟩
    rw [sg_Mo_storeAll_0, show decide (Int32.ofNat 2 = 0) = false from rfl, cond_false, show decide (Int32.ofNat 2 = 1) = false from rfl, cond_false, show decide (Int32.ofNat 2 = 2) = true from rfl, cond_true, j1]
    simp only [Option.bind_some, pm_av]
    rw [sg_Mo_storeAll_62]
  · obtain ⟨J, j1, j2, j3⟩ := cst (X := X) (d := d) (al := al) (D := D) (I := I) (L := L) (a := 90) (len := 136) (n := 17) (k := k) (by omega) hk (by omega) (by omega) (by omega) (fun J => sg_Mo_store_90_0 ..) (fun x4 J => sg_Mo_store_90_3 ..)
    have j1 : Cl X (d + 1) 191 [vr 81, vr 90, vi 17, vi (Int32.ofNat k)] (pm_mm al D I L) = some (none, pm_mm al D J L) := j1
    refine ⟨J, ?_, j2, j3⟩
    rw [sg_Mo_storeAll_0, show decide (Int32.ofNat 3 = 0) = false from rfl, cond_false, show decide (Int32.ofNat 3 = 1) = false from rfl, cond_false, show decide (Int32.ofNat 3 = 2) = false from rfl, cond_false, j1]
    simp only [Option.bind_some, pm_av]
    rw [sg_Mo_storeAll_74]
/-- told, at number k, in the class: what was read -/
def NC (s k ℓ : Nat) (P : Nat → Int32) (Q : Nat → Nat → Int32) : Prop := match s with
  | 0 => Q (9 + 5 * k) 4 = Int32.ofNat ℓ ∧ (Q (9 + 5 * k) 0 = P 1 ∧ Q (9 + 5 * k) 1 = P 2 ∧ Q (9 + 5 * k) 2 = P 3 ∧ Q (9 + 5 * k) 3 = P 4) ∧ ∀ p, p < ℓ → Q (9 + 5 * k + 1) p = P (5 + p) ∧ Q (9 + 5 * k + 2) p = P (11 + p) ∧ Q (9 + 5 * k + 3) p = P (17 + p) ∧ Q (9 + 5 * k + 4) p = P (23 + p)
  | 1 => Q (19 + 4 * k) 0 = Int32.ofNat ℓ ∧ ∀ i, i < ℓ → Q (19 + 4 * k + 1) i = P (1 + 3 * i) ∧ Q (19 + 4 * k + 2) i = P (2 + 3 * i) ∧ Q (19 + 4 * k + 3) i = P (3 + 3 * i)
  | 2 => Q 7 k = P 0
  | _ => Q (27 + 3 * k) 0 = Int32.ofNat ℓ ∧ ∀ i, i < ℓ → Q (27 + 3 * k + 1) i = P (1 + 2 * i) ∧ Q (27 + 3 * k + 2) i = P (2 + 2 * i)
/-- the class's cells of number k of a sort -/
def itm (s k a j : Nat) : Prop := (s = 0 ∧ 9 + 5 * k ≤ a ∧ a ≤ 13 + 5 * k) ∨ (s = 1 ∧ 19 + 4 * k ≤ a ∧ a ≤ 22 + 4 * k) ∨ (s = 2 ∧ a = 7 ∧ j = k) ∨ (s = 3 ∧ 27 + 3 * k ≤ a ∧ a ≤ 29 + 3 * k)
theorem k_keep {s k ℓ c : Nat} {P : Nat → Int32} (hs : s < 4) (hk : k < 2) (h : CP s ℓ P I) (g : GP s ℓ P) (hc : c ≤ 2) (e4 : I 4 s = Int32.ofNat c) : ∃ Q, Cl X (d + 2) 95 [vr 2, vr 34, vi (Int32.ofNat s), vi (Int32.ofNat k)] (pm_mm al D I L) = some (none, pm_mm al D Q L) ∧ NC s k ℓ P Q ∧ Q 4 s = Int32.ofNat (max c (k + 1)) ∧ ∀ a j, ¬ itm s k a j → ¬ (a = 4 ∧ j = s) → Q a j = I a j := by
  rw [Cl_s]
  show ∃ Q, Rn X (d + 1) co_To_keep (0, [some (vr 2), some (vr 34), some (vi (Int32.ofNat s)), some (vi (Int32.ofNat k))], [], pm_mm al D I L) = _ ∧ _
  have fin : ∀ (Q : Nat → Nat → Int32), Q 4 s = Int32.ofNat c → Rn X (d + 1) co_To_keep (86, [some (vr 2), some (vr 34), some (vi (Int32.ofNat s)), some (vi (Int32.ofNat k))], [], pm_mm al D Q L) = some (none, pm_mm al D (pm_up Q 4 s (Int32.ofNat (max c (k + 1)))) L) := fun Q e => by
    rw [sgb_To_keep_86 hk, n_in (by omega), dt hs, cond_true, n_tn (by omega), e, n_s, k_max, mxx_n (by omega) (by omega)]
    simp only [Option.bind_some, pm_ai]
    rw [sgb_To_keep_103, n_in (by omega), dt hs, cond_true, n_tn (by omega)]
  have hcs : s = 0 ∨ s = 1 ∨ s = 2 ∨ s = 3 := by omega
  rcases hcs with c | c | c | c <;> subst c
  · have cp : Cl X (d + 1) 9 [vr (9 + 5 * k), vr 35] (pm_mm al D I L) = some (none, pm_mm al D (bcp I (9 + 5 * k) (10 + 5 * k) (11 + 5 * k) (12 + 5 * k) (13 + 5 * k) 35 36 37 38 39) L) := by
      rw [Cl_s]
      show Rn X d co_Ba_copy (0, [some (vr (9 + 5 * k)), some (vr 35)], [], pm_mm al D I L) = _
      rw [sgb_Ba_copy_r_0 hk]; rfl
    have b := bcp_ok (I := I) (p := 9 + 5 * k) (p1 := 10 + 5 * k) (p2 := 11 + 5 * k) (p3 := 12 + 5 * k) (p4 := 13 + 5 * k) (q := 35) (q1 := 36) (q2 := 37) (q3 := 38) (q4 := 39) (p' := 9 + 5 * k) (q' := 35) rfl rfl (by omega) (by omega) (by omega) (by omega) rfl rfl rfl rfl
    generalize bcp I (9 + 5 * k) (10 + 5 * k) (11 + 5 * k) (12 + 5 * k) (13 + 5 * k) 35 36 37 38 39 = Q at cp b
    obtain ⟨b1, b2, b3⟩ := b
    obtain ⟨h1, ⟨h2, h3, h4, h5⟩, h6, h7⟩ := h
    have g6 : ℓ ≤ 6 := g.1
    rw [Nat.min_eq_left g6] at h1 h6
    refine ⟨pm_up Q 4 0 (Int32.ofNat (max c (k + 1))), ?_, ⟨?_, ⟨?_, ?_, ?_, ?_⟩, fun p hp => ?_⟩, up_eq, fun a j i1 i2 => ?_⟩
    · rw [sgb_To_keep_0 hk, show decide (Int32.ofNat 0 = 0) = true from rfl, cond_true, cp]
      simp only [Option.bind_some, pm_av]
      rw [sgb_To_keep_41 hk, fin Q (by rw [b3 4 (by omega)]; exact e4)]
    · rw [up_ne (by omega), b1 4 (by omega)]; exact h1
    · rw [up_ne (by omega), b1 0 (by omega)]; exact h2
    · rw [up_ne (by omega), b1 1 (by omega)]; exact h3
    · rw [up_ne (by omega), b1 2 (by omega)]; exact h4
    · rw [up_ne (by omega), b1 3 (by omega)]; exact h5
    · obtain ⟨w1, w2, w3, w4⟩ := h6 p hp
      refine ⟨?_, ?_, ?_, ?_⟩
      · rw [up_ne (by omega), b2 1 p (by omega) (by omega) (by omega)]; exact w1
      · rw [up_ne (by omega), b2 2 p (by omega) (by omega) (by omega)]; exact w2
      · rw [up_ne (by omega), b2 3 p (by omega) (by omega) (by omega)]; exact w3
      · rw [up_ne (by omega), b2 4 p (by omega) (by omega) (by omega)]; exact w4
    · unfold itm at i1
      rw [up_ne (by omega), b3 a (by omega)]
  · have cp : Cl X (d + 1) 78 [vr (19 + 4 * k), vr 40] (pm_mm al D I L) = some (none, pm_mm al D (scp I (19 + 4 * k) (20 + 4 * k) (21 + 4 * k) (22 + 4 * k) 40 41 42 43) L) := by
      rw [Cl_s]
      show Rn X d co_Sc_copy (0, [some (vr (19 + 4 * k)), some (vr 40)], [], pm_mm al D I L) = _
      rw [sgb_Sc_copy_r_0 hk]; rfl
    have b := scp_ok (I := I) (p := 19 + 4 * k) (p1 := 20 + 4 * k) (p2 := 21 + 4 * k) (p3 := 22 + 4 * k) (q := 40) (q1 := 41) (q2 := 42) (q3 := 43) (p' := 19 + 4 * k) (q' := 40) rfl rfl (by omega) (by omega) (by omega) rfl rfl rfl
    generalize scp I (19 + 4 * k) (20 + 4 * k) (21 + 4 * k) (22 + 4 * k) 40 41 42 43 = Q at cp b
    obtain ⟨b1, b2, b3⟩ := b
    obtain ⟨h1, h6⟩ := h
    have g8 : ℓ ≤ 8 := g.1
    rw [Nat.min_eq_left g8] at h1 h6
    refine ⟨pm_up Q 4 1 (Int32.ofNat (max c (k + 1))), ?_, ⟨?_, fun i hi => ?_⟩, up_eq, fun a j i1 i2 => ?_⟩
    · rw [sgb_To_keep_0 hk, show decide (Int32.ofNat 1 = 0) = false from rfl, cond_false, show decide (Int32.ofNat 1 = 1) = true from rfl, cond_true, cp]
      simp only [Option.bind_some, pm_av]
      rw [sgb_To_keep_57 hk, fin Q (by rw [b3 4 (by omega)]; exact e4)]
    · rw [up_ne (by omega), b1]; exact h1
    · obtain ⟨w1, w2, w3⟩ := h6 i hi
      refine ⟨?_, ?_, ?_⟩
      · rw [up_ne (by omega), b2 1 i (by omega) (by omega) (by omega)]; exact w1
      · rw [up_ne (by omega), b2 2 i (by omega) (by omega) (by omega)]; exact w2
      · rw [up_ne (by omega), b2 3 i (by omega) (by omega) (by omega)]; exact w3
    · unfold itm at i1
      rw [up_ne (by omega), b3 a (by omega)]
  · obtain ⟨h1, h7⟩ := h
    refine ⟨pm_up (pm_up I 7 k (I 34 3)) 4 2 (Int32.ofNat (max c (k + 1))), ?_, ?_, up_eq, fun a j i1 i2 => ?_⟩
    · rw [sgb_To_keep_0 hk, show decide (Int32.ofNat 2 = 0) = false from rfl, cond_false, show decide (Int32.ofNat 2 = 1) = false from rfl, cond_false, show decide (Int32.ofNat 2 = 2) = true from rfl, cond_true, fin _ (by rw [up_ne (by omega)]; exact e4)]
    · show pm_up (pm_up I 7 k (I 34 3)) 4 2 _ 7 k = P 0
      rw [up_ne (by omega), up_eq]; exact h1
    · unfold itm at i1
      rw [up_ne (by omega), up_ne (by omega)]
  · have cp : Cl X (d + 1) 37 [vr (27 + 3 * k), vr 44] (pm_mm al D I L) = some (none, pm_mm al D (lcp I (27 + 3 * k) (28 + 3 * k) (29 + 3 * k) 44 45 46) L) := by
      rw [Cl_s]
      show Rn X d co_Lo_copy (0, [some (vr (27 + 3 * k)), some (vr 44)], [], pm_mm al D I L) = _
      rw [sgb_Lo_copy_r_0 hk]; rfl
    have b := lcp_ok (I := I) (p := 27 + 3 * k) (p1 := 28 + 3 * k) (p2 := 29 + 3 * k) (q := 44) (q1 := 45) (q2 := 46) (p' := 27 + 3 * k) (q' := 44) rfl rfl (by omega) (by omega) rfl rfl
    generalize lcp I (27 + 3 * k) (28 + 3 * k) (29 + 3 * k) 44 45 46 = Q at cp b
    obtain ⟨b1, b2, b3⟩ := b
    obtain ⟨h1, h6, h7⟩ := h
    have g8 : ℓ ≤ 8 := g.1
    rw [Nat.min_eq_left g8] at h1 h6
    refine ⟨pm_up Q 4 3 (Int32.ofNat (max c (k + 1))), ?_, ⟨?_, fun i hi => ?_⟩, up_eq, fun a j i1 i2 => ?_⟩
    · rw [sgb_To_keep_0 hk, show decide (Int32.ofNat 3 = 0) = false from rfl, cond_false, show decide (Int32.ofNat 3 = 1) = false from rfl, cond_false, show decide (Int32.ofNat 3 = 2) = false from rfl, cond_false, cp]
      simp only [Option.bind_some, pm_av]
      rw [fin Q (by rw [b3 4 (by omega)]; exact e4)]
    · rw [up_ne (by omega), b1]; exact h1
    · obtain ⟨w1, w2⟩ := h6 i hi
      refine ⟨?_, ?_⟩
      · rw [up_ne (by omega), b2 1 i (by omega) (by omega) (by omega)]; exact w1
      · rw [up_ne (by omega), b2 2 i (by omega) (by omega) (by omega)]; exact w2
    · unfold itm at i1
      rw [up_ne (by omega), b3 a (by omega)]
end
