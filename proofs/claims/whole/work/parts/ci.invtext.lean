section
variable {X : Nat × (Nat → Int32)} {d : Nat} {al : List Nat} {D : Nat → Bool} {I : Nat → Nat → Int32} {L : Nat → Nat → Int64}
/-- told, in the reference: a row -/
def NM (s ℓ : Nat) (P R : Nat → Int32) : Prop := match s with
  | 0 => R 0 = Int32.ofNat ℓ ∧ ∀ i, 1 ≤ i → i < 29 → R i = P i
  | 1 => R 0 = Int32.ofNat ℓ ∧ ∀ i, 1 ≤ i → i < 25 → R i = P i
  | 2 => R 0 = P 0
  | _ => R 0 = Int32.ofNat ℓ ∧ ∀ i, 1 ≤ i → i < 17 → R i = P i
theorem lst_ge {P : Nat → Int32} {i : Nat} : ∀ k, i < k → (P (2 + 3 * i)).toInt + (P (3 + 3 * i)).toInt - 1 ≤ lst P k
  | 0, h => absurd h (Nat.not_lt_zero i)
  | k + 1, h => by
    rw [lst]
    by_cases e : i = k
    · subst e; omega
    · have := lst_ge (P := P) (i := i) k (by omega); omega
def mm' (m : Nat → Nat) (s k : Nat) : Nat → Nat := fun i => if i = s then max (m s) (k + 1) else m i
theorem mm_b {m : Nat → Nat} {s k i b : Nat} (hk : k ≤ m s) (h : b < mm' m s k i) (hn : ¬ (i = s ∧ b = k)) : b < m i := by
  unfold mm' at h
  by_cases e : i = s
  · subst e; rw [if_pos rfl] at h; omega
  · rw [if_neg e] at h; exact h
theorem gB_new {k ℓ : Nat} {P R : Nat → Int32} (gp : GP 0 ℓ P) (nm : NM 0 ℓ P R) (e : ∀ i, i < 29 → I 87 (29 * k + i) = R i) : gB I k := by
  obtain ⟨g1, g2, g3, g4, g5, g6⟩ := gp
  obtain ⟨n0, n1⟩ := nm
  have e0 : I 87 (29 * k) = Int32.ofNat ℓ := (e 0 (by omega)).trans n0
  have ei : ∀ i, 1 ≤ i → i < 29 → I 87 (29 * k + i) = P i := fun i h1 h2 => (e i h2).trans (n1 i h1 h2)
  refine ⟨by rw [e0, n_tn (by omega)]; exact g1, by rw [e0]; exact (n_le (a := 0) (by omega) (by omega)).mpr (Nat.zero_le _), by rw [ei 1 (by omega) (by omega)]; exact g2, by rw [ei 2 (by omega) (by omega)]; exact g3, by rw [ei 3 (by omega) (by omega)]; exact g4, by rw [ei 4 (by omega) (by omega)]; exact g5, fun p hp => ?_⟩
  rw [e0, n_tn (by omega)] at hp
  obtain ⟨w1, w2, w3, w4⟩ := g6 p hp
  exact ⟨by rw [ei (5 + p) (by omega) (by omega)]; exact w1, by rw [ei (11 + p) (by omega) (by omega)]; exact w2, by rw [ei (17 + p) (by omega) (by omega)]; exact w3, by rw [ei (23 + p) (by omega) (by omega)]; exact w4⟩
theorem gB_old {J : Nat → Nat → Int32} {b : Nat} (g : gB I b) (e : ∀ i, i < 29 → J 87 (29 * b + i) = I 87 (29 * b + i)) : gB J b := by
  obtain ⟨q1, q2, q3, q4, q5, q6, q7⟩ := g
  have e0 : J 87 (29 * b) = I 87 (29 * b) := e 0 (by omega)
  refine ⟨by rw [e0]; exact q1, by rw [e0]; exact q2, by rw [e 1 (by omega)]; exact q3, by rw [e 2 (by omega)]; exact q4, by rw [e 3 (by omega)]; exact q5, by rw [e 4 (by omega)]; exact q6, fun p hp => ?_⟩
  rw [e0] at hp
  obtain ⟨w1, w2, w3, w4⟩ := q7 p hp
  exact ⟨by rw [e (5 + p) (by omega)]; exact w1, by rw [e (11 + p) (by omega)]; exact w2, by rw [e (17 + p) (by omega)]; exact w3, by rw [e (23 + p) (by omega)]; exact w4⟩
theorem rg_nat {x : Int32} {a b : Nat} (h : rg x a b) : 0 ≤ x ∧ a ≤ x.toNatClampNeg ∧ x.toNatClampNeg ≤ b := by
  obtain ⟨h1, h2⟩ := h
  have e0 : (0 : Int32).toInt = 0 := rfl
  refine ⟨t_le.mpr (by omega), ?_, ?_⟩ <;> (rw [t_tn]; omega)
theorem gS_new {k ℓ : Nat} {P R : Nat → Int32} (gp : GP 1 ℓ P) (nm : NM 1 ℓ P R) (hb : lst P ℓ < 12) (e : ∀ i, i < 25 → I 88 (25 * k + i) = R i) : gS I k := by
  obtain ⟨g1, g2⟩ := gp
  obtain ⟨n0, n1⟩ := nm
  have e0 : I 88 (25 * k) = Int32.ofNat ℓ := (e 0 (by omega)).trans n0
  have ei : ∀ i, 1 ≤ i → i < 25 → I 88 (25 * k + i) = P i := fun i h1 h2 => (e i h2).trans (n1 i h1 h2)
  have ec : (scO I k).1 = ℓ := by show (I 88 (25 * k)).toNatClampNeg = ℓ; rw [e0, n_tn (by omega)]
  have x0 : ∀ q, q < ℓ → I 88 (25 * k + 1 + 3 * q + 0) = P (1 + 3 * q) := fun q hq => by rw [show 25 * k + 1 + 3 * q + 0 = 25 * k + (1 + 3 * q) by omega]; exact ei _ (by omega) (by omega)
  have x1 : ∀ q, q < ℓ → I 88 (25 * k + 1 + 3 * q + 1) = P (2 + 3 * q) := fun q hq => by rw [show 25 * k + 1 + 3 * q + 1 = 25 * k + (2 + 3 * q) by omega]; exact ei _ (by omega) (by omega)
  have x2 : ∀ q, q < ℓ → I 88 (25 * k + 1 + 3 * q + 2) = P (3 + 3 * q) := fun q hq => by rw [show 25 * k + 1 + 3 * q + 2 = 25 * k + (3 + 3 * q) by omega]; exact ei _ (by omega) (by omega)
  refine ⟨⟨by rw [ec]; exact g1, fun q hq => ?_⟩, by rw [e0]; exact (n_le (a := 0) (by omega) (by omega)).mpr (Nat.zero_le _), fun q hq => ?_⟩
  · rw [ec] at hq
    obtain ⟨w1, w2, w3⟩ := g2 q hq
    have y0 := rg_nat (a := 0) (b := 5) w1
    have y1 := rg_nat (a := 0) (b := 11) w2
    have y2 := rg_nat (a := 1) (b := 6) w3
    have hl := lst_ge (P := P) ℓ hq
    show (I 88 (25 * k + 1 + 3 * q + 0)).toNatClampNeg < 6 ∧ 1 ≤ (I 88 (25 * k + 1 + 3 * q + 2)).toNatClampNeg ∧ (I 88 (25 * k + 1 + 3 * q + 2)).toNatClampNeg ≤ 6 ∧ (I 88 (25 * k + 1 + 3 * q + 1)).toNatClampNeg + (I 88 (25 * k + 1 + 3 * q + 2)).toNatClampNeg ≤ 12
    rw [x0 q hq, x1 q hq, x2 q hq]
    have t1 := t_tn (P (2 + 3 * q))
    have t2 := t_tn (P (3 + 3 * q))
    obtain ⟨w2a, w2b⟩ := w2
    obtain ⟨w3a, w3b⟩ := w3
    omega
  · rw [ec] at hq
    obtain ⟨w1, w2, w3⟩ := g2 q hq
    rw [x0 q hq, x1 q hq, x2 q hq]
    exact ⟨(rg_nat (a := 0) (b := 5) w1).1, (rg_nat (a := 0) (b := 11) w2).1, (rg_nat (a := 1) (b := 6) w3).1⟩
theorem gS_old {J : Nat → Nat → Int32} {s : Nat} (g : gS I s) (e : ∀ i, i < 25 → J 88 (25 * s + i) = I 88 (25 * s + i)) : gS J s := by
  obtain ⟨⟨s1, s2⟩, s3, s4⟩ := g
  have c : J 88 (25 * s) = I 88 (25 * s) := e 0 (by omega)
  have e1 : (scO J s).1 = (scO I s).1 := congrArg Int32.toNatClampNeg c
  have s1' : (scO I s).1 ≤ 8 := s1
  have x : ∀ k i, k < 8 → i < 3 → J 88 (25 * s + 1 + 3 * k + i) = I 88 (25 * s + 1 + 3 * k + i) := fun k i hk hi => by rw [show 25 * s + 1 + 3 * k + i = 25 * s + (1 + 3 * k + i) by omega]; exact e _ (by omega)
  refine ⟨⟨by rw [e1]; exact s1, fun k hk => ?_⟩, by rw [c]; exact s3, fun k hk => ?_⟩
  · rw [e1] at hk
    have := s2 k hk
    have y0 := x k 0 (by omega) (by omega); have y1 := x k 1 (by omega) (by omega); have y2 := x k 2 (by omega) (by omega)
    simp only [scO, y0, y1, y2] at this ⊢
    exact this
  · rw [e1] at hk
    rw [x k 0 (by omega) (by omega), x k 1 (by omega) (by omega), x k 2 (by omega) (by omega)]
    exact s4 k hk
theorem gL_new {k ℓ : Nat} {P R : Nat → Int32} (gp : GP 3 ℓ P) (nm : NM 3 ℓ P R) (e : ∀ i, i < 17 → I 90 (17 * k + i) = R i) : gL I k := by
  obtain ⟨g1, g2⟩ := gp
  obtain ⟨n0, n1⟩ := nm
  have e0 : I 90 (17 * k) = Int32.ofNat ℓ := (e 0 (by omega)).trans n0
  have ei : ∀ i, 1 ≤ i → i < 17 → I 90 (17 * k + i) = P i := fun i h1 h2 => (e i h2).trans (n1 i h1 h2)
  refine ⟨by rw [e0, n_tn (by omega)]; exact g1, by rw [e0]; exact (n_le (a := 0) (by omega) (by omega)).mpr (Nat.zero_le _), fun q hq => ?_⟩
  rw [e0, n_tn (by omega)] at hq
  obtain ⟨w1, w2⟩ := g2 q hq
  rw [show 17 * k + 1 + 2 * q + 0 = 17 * k + (1 + 2 * q) by omega, show 17 * k + 1 + 2 * q + 1 = 17 * k + (2 + 2 * q) by omega, ei _ (by omega) (by omega), ei _ (by omega) (by omega)]
  exact ⟨w1, w2⟩
theorem gL_old {J : Nat → Nat → Int32} {l : Nat} (g : gL I l) (e : ∀ i, i < 17 → J 90 (17 * l + i) = I 90 (17 * l + i)) : gL J l := by
  obtain ⟨l1, l2, l3⟩ := g
  have c : J 90 (17 * l) = I 90 (17 * l) := e 0 (by omega)
  refine ⟨by rw [c]; exact l1, by rw [c]; exact l2, fun k hk => ?_⟩
  rw [c] at hk
  have := l3 k hk
  rw [show 17 * l + 1 + 2 * k + 0 = 17 * l + (1 + 2 * k) by omega, show 17 * l + 1 + 2 * k + 1 = 17 * l + (2 + 2 * k) by omega] at this ⊢
  rw [e _ (by omega), e _ (by omega)]
  exact this
theorem INV_text {m : Nat → Nat} {s k ℓ : Nat} {P R : Nat → Int32} {I2 : Nat → Nat → Int32} {M : Nat → Nat → Int64} {D' : Nat → Bool} (g : rG I m) (r : RL I m) (w : cW D I L m) (z : cZ I) (y : ∀ j, j < 2400 → byt (I 82 j)) (im : IM D I)
    (hD : ∀ i, i < 7 → D' i = D i) (hM : ∀ a, 220 ≤ a → a < 232 → M a = L a) (hs : s < 4) (hk : k < 2) (hkm : k ≤ m s) (gp : GP s ℓ P) (hbey : s = 1 → lst P ℓ < 12) (nc : NC s k ℓ P I2) (nm : NM s ℓ P R) (nr : ∀ i, i < rwd s → I2 (87 + s) (rwd s * k + i) = R i)
    (c4 : ∀ i, i < 4 → I2 4 i = Int32.ofNat (mm' m s k i)) (c86 : ∀ i, i < 4 → I2 86 i = Int32.ofNat (mm' m s k i)) (t83 : I2 83 0 = Int32.ofNat 0) (t2 : I2 2 1 = Int32.ofNat 0) (h3 : I2 3 = I 3) (h82 : I2 82 = I 82) (hf : I2 2 2 = I2 84 0) (hp : I2 2 3 = I2 85 0)
    (o1 : ∀ a j, (a = 7 ∨ (9 ≤ a ∧ a ≤ 33)) → ¬ itm s k a j → I2 a j = I a j) (o2 : ∀ a j, 87 ≤ a → a ≤ 90 → ¬ (a = 87 + s ∧ rwd s * k ≤ j ∧ j < rwd s * k + rwd s) → I2 a j = I a j)
    (o3 : ∀ a j, (a = 86 ∧ 4 ≤ j) ∨ (83 ≤ a ∧ a ≤ 85 ∧ 1 ≤ j) ∨ (113 ≤ a ∧ a < 213) ∨ a = 64 ∨ (a = 57 ∧ j = 0) ∨ (a = 59 ∧ j = 0) → I2 a j = I a j)
    (hw : 2 ≤ s → ∀ a, 220 ≤ a → a < 232 → I2 a = I a) (hw2 : s ≤ 1 → ∀ i, i < 4 → D' (3 + i) = true → I2 (220 + 3 * i) 3 = 0) : INV D' I2 M := by
  obtain ⟨g0, g1, g2, g3, g4⟩ := g
  have m0 := (g0 0 (by omega)).1; have m1 := (g0 1 (by omega)).1; have m2 := (g0 2 (by omega)).1; have m3 := (g0 3 (by omega)).1
  have hms : m s ≤ 2 := (g0 s hs).1
  have mle : ∀ i, i < 4 → mm' m s k i ≤ 2 := fun i hi => by
    unfold mm'
    have := (g0 i hi).1
    by_cases e : i = s
    · rw [if_pos e]; omega
    · rw [if_neg e]; exact this
  have hrk : rwd s * k + rwd s ≤ 2 * rwd s := by have := Nat.mul_le_mul_left (rwd s) (show k + 1 ≤ 2 by omega); rw [Nat.mul_add, Nat.mul_one] at this; omega
  have hG : rG I2 (mm' m s k) := by
    refine ⟨fun i hi => ⟨mle i hi, c86 i hi⟩, fun b hb => ?_, fun q hq => ?_, fun t ht => ?_, fun l hl => ?_⟩
    · by_cases e : 0 = s ∧ b = k
      · obtain ⟨e1, e2⟩ := e
        subst e1 e2
        exact gB_new gp nm nr
      · exact gB_old (g1 b (mm_b hkm hb e)) (fun i hi => o2 _ _ (by omega) (by omega) (fun c => by
          have : s = 0 := by omega
          subst this
          have c2 : 29 * k ≤ 29 * b + i := c.2.1
          have c3 : 29 * b + i < 29 * k + 29 := c.2.2
          omega))
    · by_cases e : 1 = s ∧ q = k
      · obtain ⟨e1, e2⟩ := e
        subst e1 e2
        exact gS_new gp nm (hbey rfl) nr
      · exact gS_old (g2 q (mm_b hkm hq e)) (fun i hi => o2 _ _ (by omega) (by omega) (fun c => by
          have : s = 1 := by omega
          subst this
          have c2 : 25 * k ≤ 25 * q + i := c.2.1
          have c3 : 25 * q + i < 25 * k + 25 := c.2.2
          omega))
    · by_cases e : 2 = s ∧ t = k
      · obtain ⟨e1, e2⟩ := e
        subst e1 e2
        have : I2 89 (1 * t + 0) = R 0 := nr 0 (by show 0 < 1; omega)
        rw [show 1 * t + 0 = t by omega] at this
        rw [this, nm]; exact gp
      · rw [o2 89 t (by omega) (by omega) (fun c => by
          have : s = 2 := by omega
          subst this
          have c2 : 1 * k ≤ t := c.2.1
          have c3 : t < 1 * k + 1 := c.2.2
          omega)]
        exact g3 t (mm_b hkm ht e)
    · by_cases e : 3 = s ∧ l = k
      · obtain ⟨e1, e2⟩ := e
        subst e1 e2
        exact gL_new gp nm nr
      · exact gL_old (g4 l (mm_b hkm hl e)) (fun i hi => o2 _ _ (by omega) (by omega) (fun c => by
          have : s = 3 := by omega
          subst this
          have c2 : 17 * k ≤ 17 * l + i := c.2.1
          have c3 : 17 * l + i < 17 * k + 17 := c.2.2
          omega))
  have hR : RL I2 (mm' m s k) := by
    obtain ⟨r1, r2, r3, r4, r5, r6, r7, r8, r9⟩ := r
    refine ⟨fun i hi => (c4 i hi).trans (c86 i hi).symm, fun b hb => ?_, fun q hq => ?_, fun u hu => ?_, fun l hl => ?_, fun j hj => by rw [h3, h82]; exact r6 j hj, t2.trans t83.symm, hf, hp⟩
    · by_cases e : 0 = s ∧ b = k
      · obtain ⟨e1, e2⟩ := e
        subst e1 e2
        obtain ⟨n0, n1⟩ := nm
        obtain ⟨gp1, _⟩ := gp
        obtain ⟨x0, ⟨x1, x2, x3, x4⟩, x5⟩ := nc
        have ei : ∀ i, 1 ≤ i → i < 29 → I2 87 (29 * b + i) = P i := fun i h1 h2 => (nr i h2).trans (n1 i h1 h2)
        have e0 : I2 87 (29 * b) = Int32.ofNat ℓ := (nr 0 (by show 0 < 29; omega)).trans n0
        refine ⟨x0.trans e0.symm, x1.trans (ei 1 (by omega) (by omega)).symm, x2.trans (ei 2 (by omega) (by omega)).symm, x3.trans (ei 3 (by omega) (by omega)).symm, x4.trans (ei 4 (by omega) (by omega)).symm, fun p hp => ?_⟩
        rw [e0, n_tn (by omega)] at hp
        obtain ⟨v1, v2, v3, v4⟩ := x5 p hp
        exact ⟨v1.trans (ei _ (by omega) (by omega)).symm, v2.trans (ei _ (by omega) (by omega)).symm, v3.trans (ei _ (by omega) (by omega)).symm, v4.trans (ei _ (by omega) (by omega)).symm⟩
      · have hb' := mm_b hkm hb e
        have rw87 : ∀ i, i < 29 → I2 87 (29 * b + i) = I 87 (29 * b + i) := fun i hi => o2 _ _ (by omega) (by omega) (fun c => by
          have : s = 0 := by omega
          subst this
          have c2 : 29 * k ≤ 29 * b + i := c.2.1
          have c3 : 29 * b + i < 29 * k + 29 := c.2.2
          omega)
        have cl : ∀ c j, c ≤ 4 → I2 (9 + 5 * b + c) j = I (9 + 5 * b + c) j := fun c j hc => o1 _ _ (by omega) (by unfold itm; omega)
        obtain ⟨x0, x1, x2, x3, x4, x5⟩ := r2 b hb'
        have b6 := (g1 b hb').1
        refine ⟨(cl 0 4 (by omega)).trans (x0.trans (rw87 0 (by omega)).symm), (cl 0 0 (by omega)).trans (x1.trans (rw87 1 (by omega)).symm), (cl 0 1 (by omega)).trans (x2.trans (rw87 2 (by omega)).symm), (cl 0 2 (by omega)).trans (x3.trans (rw87 3 (by omega)).symm), (cl 0 3 (by omega)).trans (x4.trans (rw87 4 (by omega)).symm), fun p hp => ?_⟩
        rw [show I2 87 (29 * b) = I 87 (29 * b) from rw87 0 (by omega)] at hp
        obtain ⟨v1, v2, v3, v4⟩ := x5 p hp
        exact ⟨(cl 1 p (by omega)).trans (v1.trans (rw87 _ (by omega)).symm), (cl 2 p (by omega)).trans (v2.trans (rw87 _ (by omega)).symm), (cl 3 p (by omega)).trans (v3.trans (rw87 _ (by omega)).symm), (cl 4 p (by omega)).trans (v4.trans (rw87 _ (by omega)).symm)⟩
    · by_cases e : 1 = s ∧ q = k
      · obtain ⟨e1, e2⟩ := e
        subst e1 e2
        obtain ⟨n0, n1⟩ := nm
        obtain ⟨gp1, _⟩ := gp
        obtain ⟨x0, x5⟩ := nc
        have ei : ∀ i, 1 ≤ i → i < 25 → I2 88 (25 * q + i) = P i := fun i h1 h2 => (nr i h2).trans (n1 i h1 h2)
        have e0 : I2 88 (25 * q) = Int32.ofNat ℓ := (nr 0 (by show 0 < 25; omega)).trans n0
        refine ⟨x0.trans e0.symm, fun i hi => ?_⟩
        rw [e0, n_tn (by omega)] at hi
        obtain ⟨v1, v2, v3⟩ := x5 i hi
        rw [show 25 * q + 1 + 3 * i + 0 = 25 * q + (1 + 3 * i) by omega, show 25 * q + 1 + 3 * i + 1 = 25 * q + (2 + 3 * i) by omega, show 25 * q + 1 + 3 * i + 2 = 25 * q + (3 + 3 * i) by omega]
        exact ⟨v1.trans (ei _ (by omega) (by omega)).symm, v2.trans (ei _ (by omega) (by omega)).symm, v3.trans (ei _ (by omega) (by omega)).symm⟩
      · have hq' := mm_b hkm hq e
        have rw88 : ∀ i, i < 25 → I2 88 (25 * q + i) = I 88 (25 * q + i) := fun i hi => o2 _ _ (by omega) (by omega) (fun c => by
          have : s = 1 := by omega
          subst this
          have c2 : 25 * k ≤ 25 * q + i := c.2.1
          have c3 : 25 * q + i < 25 * k + 25 := c.2.2
          omega)
        have cl : ∀ c j, c ≤ 3 → I2 (19 + 4 * q + c) j = I (19 + 4 * q + c) j := fun c j hc => o1 _ _ (by omega) (by unfold itm; omega)
        obtain ⟨x0, x5⟩ := r3 q hq'
        have s8 : (I 88 (25 * q)).toNatClampNeg ≤ 8 := (g2 q hq').1.1
        refine ⟨(cl 0 0 (by omega)).trans (x0.trans (rw88 0 (by omega)).symm), fun i hi => ?_⟩
        rw [show I2 88 (25 * q) = I 88 (25 * q) from rw88 0 (by omega)] at hi
        obtain ⟨v1, v2, v3⟩ := x5 i hi
        have z0 := rw88 (1 + 3 * i + 0) (by omega); have z1 := rw88 (1 + 3 * i + 1) (by omega); have z2 := rw88 (1 + 3 * i + 2) (by omega)
        rw [show 25 * q + (1 + 3 * i + 0) = 25 * q + 1 + 3 * i + 0 by omega] at z0
        rw [show 25 * q + (1 + 3 * i + 1) = 25 * q + 1 + 3 * i + 1 by omega] at z1
        rw [show 25 * q + (1 + 3 * i + 2) = 25 * q + 1 + 3 * i + 2 by omega] at z2
        exact ⟨(cl 1 i (by omega)).trans (v1.trans z0.symm), (cl 2 i (by omega)).trans (v2.trans z1.symm), (cl 3 i (by omega)).trans (v3.trans z2.symm)⟩
    · by_cases e : 2 = s ∧ u = k
      · obtain ⟨e1, e2⟩ := e
        subst e1 e2
        have : I2 89 (1 * u + 0) = R 0 := nr 0 (by show 0 < 1; omega)
        rw [show 1 * u + 0 = u by omega] at this
        rw [this, nm]; exact nc
      · rw [o2 89 u (by omega) (by omega) (fun c => by
          have : s = 2 := by omega
          subst this
          have c2 : 1 * k ≤ u := c.2.1
          have c3 : u < 1 * k + 1 := c.2.2
          omega), o1 7 u (by omega) (by unfold itm; omega)]
        exact r4 u (mm_b hkm hu e)
    · by_cases e : 3 = s ∧ l = k
      · obtain ⟨e1, e2⟩ := e
        subst e1 e2
        obtain ⟨n0, n1⟩ := nm
        obtain ⟨gp1, _⟩ := gp
        obtain ⟨x0, x5⟩ := nc
        have ei : ∀ i, 1 ≤ i → i < 17 → I2 90 (17 * l + i) = P i := fun i h1 h2 => (nr i h2).trans (n1 i h1 h2)
        have e0 : I2 90 (17 * l) = Int32.ofNat ℓ := (nr 0 (by show 0 < 17; omega)).trans n0
        refine ⟨x0.trans e0.symm, fun i hi => ?_⟩
        rw [e0, n_tn (by omega)] at hi
        obtain ⟨v1, v2⟩ := x5 i hi
        rw [show 17 * l + 1 + 2 * i + 0 = 17 * l + (1 + 2 * i) by omega, show 17 * l + 1 + 2 * i + 1 = 17 * l + (2 + 2 * i) by omega]
        exact ⟨v1.trans (ei _ (by omega) (by omega)).symm, v2.trans (ei _ (by omega) (by omega)).symm⟩
      · have hl' := mm_b hkm hl e
        have rw90 : ∀ i, i < 17 → I2 90 (17 * l + i) = I 90 (17 * l + i) := fun i hi => o2 _ _ (by omega) (by omega) (fun c => by
          have : s = 3 := by omega
          subst this
          have c2 : 17 * k ≤ 17 * l + i := c.2.1
          have c3 : 17 * l + i < 17 * k + 17 := c.2.2
          omega)
        have cl : ∀ c j, c ≤ 2 → I2 (27 + 3 * l + c) j = I (27 + 3 * l + c) j := fun c j hc => o1 _ _ (by omega) (by unfold itm; omega)
        obtain ⟨x0, x5⟩ := r5 l hl'
        have l8 := (g4 l hl').1
        refine ⟨(cl 0 0 (by omega)).trans (x0.trans (rw90 0 (by omega)).symm), fun i hi => ?_⟩
        rw [show I2 90 (17 * l) = I 90 (17 * l) from rw90 0 (by omega)] at hi
        obtain ⟨v1, v2⟩ := x5 i hi
        have z0 := rw90 (1 + 2 * i + 0) (by omega); have z1 := rw90 (1 + 2 * i + 1) (by omega)
        rw [show 17 * l + (1 + 2 * i + 0) = 17 * l + 1 + 2 * i + 0 by omega] at z0
        rw [show 17 * l + (1 + 2 * i + 1) = 17 * l + 1 + 2 * i + 1 by omega] at z1
        exact ⟨(cl 1 i (by omega)).trans (v1.trans z0.symm), (cl 2 i (by omega)).trans (v2.trans z1.symm)⟩
  have hW : cW D' I2 M (mm' m s k) := by
    by_cases h2 : 2 ≤ s
    · intro b q hb hq h1 h2'
      have hb' : b < m 0 := mm_b hkm hb (by omega)
      have hq' : q < m 1 := mm_b hkm hq (by omega)
      have e87 : I2 87 = I 87 := by funext j; exact o2 87 j (by omega) (by omega) (by omega)
      have e88 : I2 88 = I 88 := by funext j; exact o2 88 j (by omega) (by omega) (by omega)
      have eb : bdO I2 b = bdO I b := by
        have : dwR I2 b = dwR I b := by funext p; rw [dwR, dwR, e87]
        rw [bdO, bdO, e87, this]
      rw [hD _ (by omega)] at h1
      rw [hw h2 _ (by omega) (by omega)] at h2'
      obtain ⟨w1, w2, w3⟩ := w b q hb' hq' h1 h2'
      rw [eb, scO_up e88]
      exact ⟨fun j hj => by rw [hw h2 _ (by omega) (by omega)]; exact w1 j hj, by rw [hM _ (by omega) (by omega)]; exact w2, fun x hx => by rw [hM _ (by omega) (by omega)]; exact w3 x hx⟩
    · exact cW_forget (hw2 (by omega)) (mle 0 (by omega)) (mle 1 (by omega))
  refine ⟨⟨mm' m s k, ⟨hG, 0, by omega, t83⟩, hR, hW⟩, ⟨?_, ?_, fun j hj => ?_⟩, fun j hj => by rw [h82]; exact y j hj, fun q hq => ?_⟩
  · rw [o3 57 0 (by omega)]; exact z.1
  · rw [o3 59 0 (by omega)]; exact z.2.1
  · rw [o3 64 j (by omega)]; exact z.2.2 j hj
  · obtain ⟨i1, i2⟩ := im q hq
    rw [o3 113 q (by omega), hD q (by omega)]
    refine ⟨i1, fun hd => ?_⟩
    obtain ⟨K, m', i3⟩ := i2 hd
    refine ⟨K, m', IR_up i3 (fun a a1 a2 => by funext j; exact o3 a j (by omega)) (fun a a1 a2 j hj => ?_)⟩
    rw [← i3.2.2 a a1 a2 j hj]
    have hc : a = 82 ∨ a = 83 ∨ a = 84 ∨ a = 85 ∨ a = 86 ∨ a = 87 ∨ a = 88 ∨ a = 89 ∨ a = 90 := by omega
    rcases hc with e | e | e | e | e | e | e | e | e <;> subst e
    · rw [h82]
    · exact o3 _ _ (by show (83 = 86 ∧ 4 ≤ 1 * (q + 1) + j) ∨ (83 ≤ 83 ∧ 83 ≤ 85 ∧ 1 ≤ 1 * (q + 1) + j) ∨ _; omega)
    · exact o3 _ _ (by show (84 = 86 ∧ 4 ≤ 1 * (q + 1) + j) ∨ (83 ≤ 84 ∧ 84 ≤ 85 ∧ 1 ≤ 1 * (q + 1) + j) ∨ _; omega)
    · exact o3 _ _ (by show (85 = 86 ∧ 4 ≤ 1 * (q + 1) + j) ∨ (83 ≤ 85 ∧ 85 ≤ 85 ∧ 1 ≤ 1 * (q + 1) + j) ∨ _; omega)
    · exact o3 _ _ (by show (86 = 86 ∧ 4 ≤ 4 * (q + 1) + j) ∨ _; omega)
    · exact o2 _ _ (by omega) (by omega) (fun c => by
        have : s = 0 := by omega
        subst this
        have c3 : 58 * (q + 1) + j < 29 * k + 29 := c.2.2
        omega)
    · exact o2 _ _ (by omega) (by omega) (fun c => by
        have : s = 1 := by omega
        subst this
        have c3 : 50 * (q + 1) + j < 25 * k + 25 := c.2.2
        omega)
    · exact o2 _ _ (by omega) (by omega) (fun c => by
        have : s = 2 := by omega
        subst this
        have c3 : 2 * (q + 1) + j < 1 * k + 1 := c.2.2
        omega)
    · exact o2 _ _ (by omega) (by omega) (fun c => by
        have : s = 3 := by omega
        subst this
        have c3 : 34 * (q + 1) + j < 17 * k + 17 := c.2.2
        omega)
end
