section
variable {X : Nat × (Nat → Int32)} {d : Nat} {al : List Nat} {D : Nat → Bool} {I : Nat → Nat → Int32} {L : Nat → Nat → Int64}
theorem cpy_lt {f g : Nat → Int32} {n j : Nat} (h : j < n) : va_cpy f g 0 0 n j = f j := by
  rw [va_cpy, if_pos ⟨Nat.zero_le _, by omega⟩, Nat.zero_add, Nat.sub_zero]
/-- a band, a score, a log copied from q to p -/
def bcp (I : Nat → Nat → Int32) (p p1 p2 p3 p4 q q1 q2 q3 q4 : Nat) : Nat → Nat → Int32 := pm_ups (pm_ups (pm_ups (pm_ups (pm_up (pm_up (pm_up (pm_up (pm_up I p 0 (I q 0)) p 1 (I q 1)) p 2 (I q 2)) p 3 (I q 3)) p 4 (I q 4)) p1 (va_cpy (I q1) (I p1) 0 0 6)) p2 (va_cpy (I q2) (I p2) 0 0 6)) p3 (va_cpy (I q3) (I p3) 0 0 6)) p4 (va_cpy (I q4) (I p4) 0 0 6)
def scp (I : Nat → Nat → Int32) (p p1 p2 p3 q q1 q2 q3 : Nat) : Nat → Nat → Int32 := pm_ups (pm_ups (pm_ups (pm_up I p 0 (I q 0)) p1 (va_cpy (I q1) (I p1) 0 0 8)) p2 (va_cpy (I q2) (I p2) 0 0 8)) p3 (va_cpy (I q3) (I p3) 0 0 8)
def lcp (I : Nat → Nat → Int32) (p p1 p2 q q1 q2 : Nat) : Nat → Nat → Int32 := pm_ups (pm_ups (pm_up I p 0 (I q 0)) p1 (va_cpy (I q1) (I p1) 0 0 8)) p2 (va_cpy (I q2) (I p2) 0 0 8)
def bcP (I J : Nat → Nat → Int32) (p q : Nat) : Prop := (∀ j, j < 5 → J p j = I q j) ∧ (∀ c j, 1 ≤ c → c ≤ 4 → j < 6 → J (p + c) j = I (q + c) j) ∧ ∀ a, ¬ (p ≤ a ∧ a ≤ p + 4) → J a = I a
def scP (I J : Nat → Nat → Int32) (p q : Nat) : Prop := J p 0 = I q 0 ∧ (∀ c j, 1 ≤ c → c ≤ 3 → j < 8 → J (p + c) j = I (q + c) j) ∧ ∀ a, ¬ (p ≤ a ∧ a ≤ p + 3) → J a = I a
def lcP (I J : Nat → Nat → Int32) (p q : Nat) : Prop := J p 0 = I q 0 ∧ (∀ c j, 1 ≤ c → c ≤ 2 → j < 8 → J (p + c) j = I (q + c) j) ∧ ∀ a, ¬ (p ≤ a ∧ a ≤ p + 2) → J a = I a
theorem bcp_ok {p p1 p2 p3 p4 q q1 q2 q3 q4 p' q' : Nat} (hp : p' = p) (hq : q' = q) (h1 : p1 = p + 1) (h2 : p2 = p + 2) (h3 : p3 = p + 3) (h4 : p4 = p + 4) (g1 : q1 = q + 1) (g2 : q2 = q + 2) (g3 : q3 = q + 3) (g4 : q4 = q + 4) : bcP I (bcp I p p1 p2 p3 p4 q q1 q2 q3 q4) p' q' := by
  subst hp hq h1 h2 h3 h4 g1 g2 g3 g4
  refine ⟨fun j hj => ?_, fun c j c1 c4 hj => ?_, fun a ha => ?_⟩
  · have hc : j = 0 ∨ j = 1 ∨ j = 2 ∨ j = 3 ∨ j = 4 := by omega
    rw [bcp, ups_ne (by omega), ups_ne (by omega), ups_ne (by omega), ups_ne (by omega)]
    rcases hc with h | h | h | h | h <;> subst h
    · rw [up_ne (by omega), up_ne (by omega), up_ne (by omega), up_ne (by omega), up_eq]
    · rw [up_ne (by omega), up_ne (by omega), up_ne (by omega), up_eq]
    · rw [up_ne (by omega), up_ne (by omega), up_eq]
    · rw [up_ne (by omega), up_eq]
    · rw [up_eq]
  · have hc : c = 1 ∨ c = 2 ∨ c = 3 ∨ c = 4 := by omega
    rcases hc with h | h | h | h <;> subst h
    · rw [bcp, ups_ne (by omega), ups_ne (by omega), ups_ne (by omega), ups_eq, cpy_lt hj]
    · rw [bcp, ups_ne (by omega), ups_ne (by omega), ups_eq, cpy_lt hj]
    · rw [bcp, ups_ne (by omega), ups_eq, cpy_lt hj]
    · rw [bcp, ups_eq, cpy_lt hj]
  · rw [bcp, ups_rw (by omega), ups_rw (by omega), ups_rw (by omega), ups_rw (by omega), up_rw (by omega), up_rw (by omega), up_rw (by omega), up_rw (by omega), up_rw (by omega)]
theorem scp_ok {p p1 p2 p3 q q1 q2 q3 p' q' : Nat} (hp : p' = p) (hq : q' = q) (h1 : p1 = p + 1) (h2 : p2 = p + 2) (h3 : p3 = p + 3) (g1 : q1 = q + 1) (g2 : q2 = q + 2) (g3 : q3 = q + 3) : scP I (scp I p p1 p2 p3 q q1 q2 q3) p' q' := by
  subst hp hq h1 h2 h3 g1 g2 g3
  refine ⟨?_, fun c j c1 c4 hj => ?_, fun a ha => ?_⟩
  · rw [scp, ups_ne (by omega), ups_ne (by omega), ups_ne (by omega), up_eq]
  · have hc : c = 1 ∨ c = 2 ∨ c = 3 := by omega
    rcases hc with h | h | h <;> subst h
    · rw [scp, ups_ne (by omega), ups_ne (by omega), ups_eq, cpy_lt hj]
    · rw [scp, ups_ne (by omega), ups_eq, cpy_lt hj]
    · rw [scp, ups_eq, cpy_lt hj]
  · rw [scp, ups_rw (by omega), ups_rw (by omega), ups_rw (by omega), up_rw (by omega)]
theorem lcp_ok {p p1 p2 q q1 q2 p' q' : Nat} (hp : p' = p) (hq : q' = q) (h1 : p1 = p + 1) (h2 : p2 = p + 2) (g1 : q1 = q + 1) (g2 : q2 = q + 2) : lcP I (lcp I p p1 p2 q q1 q2) p' q' := by
  subst hp hq h1 h2 g1 g2
  refine ⟨?_, fun c j c1 c4 hj => ?_, fun a ha => ?_⟩
  · rw [lcp, ups_ne (by omega), ups_ne (by omega), up_eq]
  · have hc : c = 1 ∨ c = 2 := by omega
    rcases hc with h | h <;> subst h
    · rw [lcp, ups_ne (by omega), ups_eq, cpy_lt hj]
    · rw [lcp, ups_eq, cpy_lt hj]
  · rw [lcp, ups_rw (by omega), ups_rw (by omega), up_rw (by omega)]
/-- the class's cells that tell: by their number behind the first -/
def cc (i j : Nat) : Prop := (i = 0 ∧ 1 ≤ j ∧ j ≤ 3) ∨ (i = 1 ∧ j < 600) ∨ (i = 2 ∧ j < 4) ∨ (i = 5 ∧ j < 2) ∨ (∃ b, b < 2 ∧ i = 7 + 5 * b ∧ j < 5) ∨ (∃ b c, b < 2 ∧ 1 ≤ c ∧ c ≤ 4 ∧ i = 7 + 5 * b + c ∧ j < 6) ∨ (∃ b, b < 2 ∧ i = 17 + 4 * b ∧ j = 0) ∨ (∃ b c, b < 2 ∧ 1 ≤ c ∧ c ≤ 3 ∧ i = 17 + 4 * b + c ∧ j < 8) ∨ (∃ b, b < 2 ∧ i = 25 + 3 * b ∧ j = 0) ∨ (∃ b c, b < 2 ∧ 1 ≤ c ∧ c ≤ 2 ∧ i = 25 + 3 * b + c ∧ j < 8)
/-- what stood at s stands at t too -/
def CC (I J : Nat → Nat → Int32) (s t : Nat) : Prop := (∀ i j, cc i j → J (t + i) j = I (s + i) j) ∧ ∀ a, ¬ (t ≤ a ∧ a ≤ t + 30) → J a = I a
def inP (t s : Nat) (I J : Nat → Nat → Int32) : Prop := (∀ a j, ¬ (a = t ∧ 1 ≤ j ∧ j ≤ 3) → ¬ a = t + 1 → ¬ a = t + 2 → J a j = I a j) ∧ (∀ j, 1 ≤ j → j ≤ 3 → J t j = I s j) ∧ (∀ j, j < 600 → J (t + 1) j = I (s + 1) j) ∧ ∀ j, j < 4 → J (t + 2) j = I (s + 2) j
def stP (t s b : Nat) (K K' : Nat → Nat → Int32) : Prop := (∀ a j, ¬ ((t + 7 + 5 * b ≤ a ∧ a ≤ t + 11 + 5 * b) ∨ (t + 17 + 4 * b ≤ a ∧ a ≤ t + 20 + 4 * b) ∨ (t + 25 + 3 * b ≤ a ∧ a ≤ t + 27 + 3 * b) ∨ (a = t + 5 ∧ j = b)) → K' a j = K a j)
  ∧ (∀ j, j < 5 → K' (t + 7 + 5 * b) j = K (s + 7 + 5 * b) j) ∧ (∀ c j, 1 ≤ c → c ≤ 4 → j < 6 → K' (t + 7 + 5 * b + c) j = K (s + 7 + 5 * b + c) j)
  ∧ K' (t + 17 + 4 * b) 0 = K (s + 17 + 4 * b) 0 ∧ (∀ c j, 1 ≤ c → c ≤ 3 → j < 8 → K' (t + 17 + 4 * b + c) j = K (s + 17 + 4 * b + c) j)
  ∧ K' (t + 25 + 3 * b) 0 = K (s + 25 + 3 * b) 0 ∧ (∀ c j, 1 ≤ c → c ≤ 2 → j < 8 → K' (t + 25 + 3 * b + c) j = K (s + 25 + 3 * b + c) j) ∧ K' (t + 5) b = K (s + 5) b
theorem st_of {t s b : Nat} {K K1 K2 K3 : Nat → Nat → Int32} (hb : b < 2) (hd : t + 30 < s ∨ s + 30 < t) (h1 : bcP K K1 (t + 7 + 5 * b) (s + 7 + 5 * b)) (h2 : scP K1 K2 (t + 17 + 4 * b) (s + 17 + 4 * b)) (h3 : lcP (pm_up K2 (t + 5) b (K2 (s + 5) b)) K3 (t + 25 + 3 * b) (s + 25 + 3 * b)) : stP t s b K K3 := by
  have e1 : ∀ a j, ¬ (t + 7 + 5 * b ≤ a ∧ a ≤ t + 7 + 5 * b + 4) → K1 a j = K a j := fun a j h => by rw [h1.2.2 a h]
  have e2 : ∀ a j, ¬ (t + 17 + 4 * b ≤ a ∧ a ≤ t + 17 + 4 * b + 3) → K2 a j = K1 a j := fun a j h => by rw [h2.2.2 a h]
  have e3 : ∀ a j, ¬ (t + 25 + 3 * b ≤ a ∧ a ≤ t + 25 + 3 * b + 2) → ¬ (a = t + 5 ∧ j = b) → K3 a j = K2 a j := fun a j h h' => by rw [h3.2.2 a h, up_ne h']
  refine ⟨fun a j h => ?_, fun j hj => ?_, fun c j c1 c2 hj => ?_, ?_, fun c j c1 c2 hj => ?_, ?_, fun c j c1 c2 hj => ?_, ?_⟩
  · rw [e3 a j (by omega) (by omega), e2 a j (by omega), e1 a j (by omega)]
  · rw [e3 _ j (by omega) (by omega), e2 _ j (by omega), h1.1 j hj]
  · rw [e3 _ j (by omega) (by omega), e2 _ j (by omega), h1.2.1 c j c1 c2 hj]
  · rw [e3 _ _ (by omega) (by omega), h2.1, e1 _ _ (by omega)]
  · rw [e3 _ j (by omega) (by omega), h2.2.1 c j c1 c2 hj, e1 _ _ (by omega)]
  · rw [h3.1, up_ne (by omega), e2 _ _ (by omega), e1 _ _ (by omega)]
  · rw [h3.2.1 c j c1 c2 hj, up_ne (by omega), e2 _ _ (by omega), e1 _ _ (by omega)]
  · rw [h3.2.2 (t + 5) (by omega), up_eq, e2 _ _ (by omega), e1 _ _ (by omega)]
theorem cc_of {t s : Nat} {I J0 J1 J2 : Nat → Nat → Int32} (hd : t + 30 < s ∨ s + 30 < t) (h0 : inP t s I J0) (h1 : stP t s 0 J0 J1) (h2 : stP t s 1 J1 J2) : CC I J2 s t := by
  obtain ⟨i1, i2, i3, i4⟩ := h0
  obtain ⟨a1, a2, a3, a4, a5, a6, a7, a8⟩ := h1
  obtain ⟨b1, b2, b3, b4, b5, b6, b7, b8⟩ := h2
  simp only [Nat.mul_zero, Nat.add_zero, Nat.mul_one, Nat.add_assoc, Nat.reduceAdd] at a1 a2 a3 a4 a5 a6 a7 a8 b1 b2 b3 b4 b5 b6 b7 b8
  have z0 : ∀ a j, (s ≤ a ∧ a ≤ s + 30) → J0 a j = I a j := fun a j h => i1 a j (by omega) (by omega) (by omega)
  have z1 : ∀ a j, (s ≤ a ∧ a ≤ s + 30) → J1 a j = I a j := fun a j h => by rw [a1 a j (by omega), z0 a j h]
  refine ⟨fun i j h => ?_, fun a h => by funext j; rw [b1 a j (by omega), a1 a j (by omega), i1 a j (by omega) (by omega) (by omega)]⟩
  rcases h with ⟨rfl, h1, h2⟩ | ⟨rfl, h1⟩ | ⟨rfl, h1⟩ | ⟨rfl, h1⟩ | ⟨b, hb, rfl, h1⟩ | ⟨b, c, hb, c1, c2, rfl, h1⟩ | ⟨b, hb, rfl, rfl⟩ | ⟨b, c, hb, c1, c2, rfl, h1⟩ | ⟨b, hb, rfl, rfl⟩ | ⟨b, c, hb, c1, c2, rfl, h1⟩
  · rw [Nat.add_zero, Nat.add_zero, b1 _ _ (by omega), a1 _ _ (by omega)]; exact i2 j h1 h2
  · rw [b1 _ _ (by omega), a1 _ _ (by omega)]; exact i3 j h1
  · rw [b1 _ _ (by omega), a1 _ _ (by omega)]; exact i4 j h1
  · have hc : j = 0 ∨ j = 1 := by omega
    rcases hc with h | h <;> subst h
    · rw [b1 _ _ (by omega), a8, z0 _ _ (by omega)]
    · rw [b8, z1 _ _ (by omega)]
  · have hc : b = 0 ∨ b = 1 := by omega
    rcases hc with h | h <;> subst h
    · rw [show t + (7 + 5 * 0) = t + 7 by omega, show s + (7 + 5 * 0) = s + 7 by omega, b1 _ _ (by omega), a2 j h1, z0 _ _ (by omega)]
    · rw [show t + (7 + 5 * 1) = t + 12 by omega, show s + (7 + 5 * 1) = s + 12 by omega, b2 j h1, z1 _ _ (by omega)]
  · have hc : b = 0 ∨ b = 1 := by omega
    rcases hc with h | h <;> subst h
    · rw [show t + (7 + 5 * 0 + c) = t + (7 + c) by omega, show s + (7 + 5 * 0 + c) = s + (7 + c) by omega, b1 _ _ (by omega), a3 c j c1 c2 h1, z0 _ _ (by omega)]
    · rw [show t + (7 + 5 * 1 + c) = t + (12 + c) by omega, show s + (7 + 5 * 1 + c) = s + (12 + c) by omega, b3 c j c1 c2 h1, z1 _ _ (by omega)]
  · have hc : b = 0 ∨ b = 1 := by omega
    rcases hc with h | h <;> subst h
    · rw [show t + (17 + 4 * 0) = t + 17 by omega, show s + (17 + 4 * 0) = s + 17 by omega, b1 _ _ (by omega), a4, z0 _ _ (by omega)]
    · rw [show t + (17 + 4 * 1) = t + 21 by omega, show s + (17 + 4 * 1) = s + 21 by omega, b4, z1 _ _ (by omega)]
  · have hc : b = 0 ∨ b = 1 := by omega
    rcases hc with h | h <;> subst h
    · rw [show t + (17 + 4 * 0 + c) = t + (17 + c) by omega, show s + (17 + 4 * 0 + c) = s + (17 + c) by omega, b1 _ _ (by omega), a5 c j c1 c2 h1, z0 _ _ (by omega)]
    · rw [show t + (17 + 4 * 1 + c) = t + (21 + c) by omega, show s + (17 + 4 * 1 + c) = s + (21 + c) by omega, b5 c j c1 c2 h1, z1 _ _ (by omega)]
  · have hc : b = 0 ∨ b = 1 := by omega
    rcases hc with h | h <;> subst h
    · rw [show t + (25 + 3 * 0) = t + 25 by omega, show s + (25 + 3 * 0) = s + 25 by omega, b1 _ _ (by omega), a6, z0 _ _ (by omega)]
    · rw [show t + (25 + 3 * 1) = t + 28 by omega, show s + (25 + 3 * 1) = s + 28 by omega, b6, z1 _ _ (by omega)]
  · have hc : b = 0 ∨ b = 1 := by omega
    rcases hc with h | h <;> subst h
    · rw [show t + (25 + 3 * 0 + c) = t + (25 + c) by omega, show s + (25 + 3 * 0 + c) = s + (25 + c) by omega, b1 _ _ (by omega), a7 c j c1 c2 h1, z0 _ _ (by omega)]
    · rw [show t + (25 + 3 * 1 + c) = t + (28 + c) by omega, show s + (25 + 3 * 1 + c) = s + (28 + c) by omega, b7 c j c1 c2 h1, z1 _ _ (by omega)]
theorem dn_b {k b : Nat} (hk : k < 3) (hb : b < 2) : pm_dM (pm_tb k D) 5 b = 9 + 5 * b ∧ pm_dM (pm_tb k D) (123 + 31 * k) b = 127 + 5 * b + 31 * k ∧ pm_is (pm_mm al (pm_tb k D) I L) (9 + 5 * b) 10 = true ∧ pm_is (pm_mm al (pm_tb k D) I L) (127 + 5 * b + 31 * k) 10 = true := by
  have h1 : k = 0 ∨ k = 1 ∨ k = 2 := by omega
  have h2 : b = 0 ∨ b = 1 := by omega
  rcases h1 with h | h | h <;> subst h <;> rcases h2 with h | h <;> subst h <;> exact ⟨rfl, rfl, rfl, rfl⟩
theorem dn_s {k b : Nat} (hk : k < 3) (hb : b < 2) : pm_dM (pm_tb k D) 6 b = 19 + 4 * b ∧ pm_dM (pm_tb k D) (124 + 31 * k) b = 137 + 4 * b + 31 * k ∧ pm_is (pm_mm al (pm_tb k D) I L) (19 + 4 * b) 16 = true ∧ pm_is (pm_mm al (pm_tb k D) I L) (137 + 4 * b + 31 * k) 16 = true := by
  have h1 : k = 0 ∨ k = 1 ∨ k = 2 := by omega
  have h2 : b = 0 ∨ b = 1 := by omega
  rcases h1 with h | h | h <;> subst h <;> rcases h2 with h | h <;> subst h <;> exact ⟨rfl, rfl, rfl, rfl⟩
theorem dn_l {k b : Nat} (hk : k < 3) (hb : b < 2) : pm_dM (pm_tb k D) 8 b = 27 + 3 * b ∧ pm_dM (pm_tb k D) (126 + 31 * k) b = 145 + 3 * b + 31 * k ∧ pm_is (pm_mm al (pm_tb k D) I L) (27 + 3 * b) 13 = true ∧ pm_is (pm_mm al (pm_tb k D) I L) (145 + 3 * b + 31 * k) 13 = true := by
  have h1 : k = 0 ∨ k = 1 ∨ k = 2 := by omega
  have h2 : b = 0 ∨ b = 1 := by omega
  rcases h1 with h | h | h <;> subst h <;> rcases h2 with h | h <;> subst h <;> exact ⟨rfl, rfl, rfl, rfl⟩
theorem k_bcopy_o {k b : Nat} (hk : k < 3) (hb : b < 2) : Cl X (d + 1) 9 [vr (127 + 5 * b + 31 * k), vr (9 + 5 * b)] (pm_mm al (pm_tb k D) I L) = some (none, pm_mm al (pm_tb k D) (bcp I (127 + 5 * b + 31 * k) (128 + 5 * b + 31 * k) (129 + 5 * b + 31 * k) (130 + 5 * b + 31 * k) (131 + 5 * b + 31 * k) (9 + 5 * b) (10 + 5 * b) (11 + 5 * b) (12 + 5 * b) (13 + 5 * b)) L) := by
  rw [Cl_s]
  show Rn X d co_Ba_copy (0, [some (vr (127 + 5 * b + 31 * k)), some (vr (9 + 5 * b))], [], pm_mm al (pm_tb k D) I L) = _
  rw [sgb_Ba_copy_o_0 hb hk]; rfl
theorem k_scopy_o {k b : Nat} (hk : k < 3) (hb : b < 2) : Cl X (d + 1) 78 [vr (137 + 4 * b + 31 * k), vr (19 + 4 * b)] (pm_mm al (pm_tb k D) I L) = some (none, pm_mm al (pm_tb k D) (scp I (137 + 4 * b + 31 * k) (138 + 4 * b + 31 * k) (139 + 4 * b + 31 * k) (140 + 4 * b + 31 * k) (19 + 4 * b) (20 + 4 * b) (21 + 4 * b) (22 + 4 * b)) L) := by
  rw [Cl_s]
  show Rn X d co_Sc_copy (0, [some (vr (137 + 4 * b + 31 * k)), some (vr (19 + 4 * b))], [], pm_mm al (pm_tb k D) I L) = _
  rw [sgb_Sc_copy_o_0 hb hk]; rfl
theorem k_lcopy_o {k b : Nat} (hk : k < 3) (hb : b < 2) : Cl X (d + 1) 37 [vr (145 + 3 * b + 31 * k), vr (27 + 3 * b)] (pm_mm al (pm_tb k D) I L) = some (none, pm_mm al (pm_tb k D) (lcp I (145 + 3 * b + 31 * k) (146 + 3 * b + 31 * k) (147 + 3 * b + 31 * k) (27 + 3 * b) (28 + 3 * b) (29 + 3 * b)) L) := by
  rw [Cl_s]
  show Rn X d co_Lo_copy (0, [some (vr (145 + 3 * b + 31 * k)), some (vr (27 + 3 * b))], [], pm_mm al (pm_tb k D) I L) = _
  rw [sgb_Lo_copy_o_0 hb hk]; rfl
theorem k_tcopy_o_step {k b : Nat} {K : Nat → Nat → Int32} (hk : k < 3) (hb : b < 2) : ∃ K', Rn X (d + 1) co_To_copy (56, [some (vr (120 + 31 * k)), some (vr 2), some (vi (Int32.ofNat b))], [], pm_mm al (pm_tb k D) K L) = Rn X (d + 1) co_To_copy (56, [some (vr (120 + 31 * k)), some (vr 2), some (vi (Int32.ofNat (b + 1)))], [], pm_mm al (pm_tb k D) K' L) ∧ stP (120 + 31 * k) 2 b K K' := by
  generalize hJ1 : bcp K (127 + 5 * b + 31 * k) (128 + 5 * b + 31 * k) (129 + 5 * b + 31 * k) (130 + 5 * b + 31 * k) (131 + 5 * b + 31 * k) (9 + 5 * b) (10 + 5 * b) (11 + 5 * b) (12 + 5 * b) (13 + 5 * b) = J1
  generalize hJ2 : scp J1 (137 + 4 * b + 31 * k) (138 + 4 * b + 31 * k) (139 + 4 * b + 31 * k) (140 + 4 * b + 31 * k) (19 + 4 * b) (20 + 4 * b) (21 + 4 * b) (22 + 4 * b) = J2
  generalize hJ3 : lcp (pm_up J2 (125 + 31 * k) b (J2 7 b)) (145 + 3 * b + 31 * k) (146 + 3 * b + 31 * k) (147 + 3 * b + 31 * k) (27 + 3 * b) (28 + 3 * b) (29 + 3 * b) = J3
  have x1 := k_bcopy_o (X := X) (d := d) (al := al) (D := D) (I := K) (L := L) hk hb
  have x2 := k_scopy_o (X := X) (d := d) (al := al) (D := D) (I := J1) (L := L) hk hb
  have x3 := k_lcopy_o (X := X) (d := d) (al := al) (D := D) (I := pm_up J2 (125 + 31 * k) b (J2 7 b)) (L := L) hk hb
  rw [hJ1] at x1; rw [hJ2] at x2; rw [hJ3] at x3
  refine ⟨J3, ?_, ?_⟩
  · rw [sgb_To_copy_o_56 hk, show decide ((2 : Int32) ≤ Int32.ofNat b) = false from (n_dle (a := 2) (by omega) (by omega)).trans (df (by omega)), cond_false, n_in (by omega), dt hb, cond_true, cond_true, n_tn (by omega), (dn_b (al := al) (I := K) (L := L) hk hb).1, (dn_b (al := al) (I := K) (L := L) hk hb).2.1, (dn_b (al := al) (I := K) (L := L) hk hb).2.2.2, cond_true, x1]
    simp only [Option.bind_some, pm_av]
    rw [sgb_To_copy_o_76 hk, n_in (by omega), dt hb, cond_true, cond_true, n_tn (by omega), (dn_s (al := al) (I := K) (L := L) hk hb).1, (dn_s (al := al) (I := K) (L := L) hk hb).2.1, (dn_s (al := al) (I := J1) (L := L) hk hb).2.2.2, cond_true, x2]
    simp only [Option.bind_some, pm_av]
    rw [sgb_To_copy_o_91 hk, n_in (by omega), dt hb, cond_true, cond_true, cond_true, cond_true, n_tn (by omega), (dn_l (al := al) (I := K) (L := L) hk hb).1, (dn_l (al := al) (I := K) (L := L) hk hb).2.1, (dn_l (al := al) (I := pm_up J2 (125 + 31 * k) b (J2 7 b)) (L := L) hk hb).2.2.2, cond_true, x3]
    simp only [Option.bind_some, pm_av]
    rw [sgb_To_copy_o_118 hk, n_s]
  · refine st_of (K1 := J1) (K2 := J2) hb (by omega) ?_ ?_ ?_
    · rw [← hJ1]; exact bcp_ok (by omega) (by omega) (by omega) (by omega) (by omega) (by omega) (by omega) (by omega) (by omega) (by omega)
    · rw [← hJ2]; exact scp_ok (by omega) (by omega) (by omega) (by omega) (by omega) (by omega) (by omega) (by omega)
    · rw [← hJ3, show (120 + 31 * k) + 5 = (125 + 31 * k) by omega, show 2 + 5 = 7 by omega]; exact lcp_ok (by omega) (by omega) (by omega) (by omega) (by omega) (by omega)
theorem k_tcopy_o {k : Nat} (hk : k < 3) : ∃ J, Cl X (d + 2) 96 [vr (120 + 31 * k), vr 2] (pm_mm al (pm_tb k D) I L) = some (none, pm_mm al (pm_tb k D) J L) ∧ CC I J 2 (120 + 31 * k) := by
  rw [Cl_s]
  show ∃ J, Rn X (d + 1) co_To_copy (0, [some (vr (120 + 31 * k)), some (vr 2), none], [], pm_mm al (pm_tb k D) I L) = _ ∧ _
  rw [sgb_To_copy_o_0 hk]
  generalize hJ0 : pm_ups (pm_up (pm_up (pm_up (pm_ups I (121 + 31 * k) (va_cpy (I 3) (I (121 + 31 * k)) 0 0 600)) (120 + 31 * k) 1 (I 2 1)) (120 + 31 * k) 2 (I 2 2)) (120 + 31 * k) 3 (I 2 3)) (122 + 31 * k) (va_cpy (I 4) (I (122 + 31 * k)) 0 0 4) = J0
  have h0 : inP (120 + 31 * k) 2 I J0 := by
    refine ⟨fun a j h1 h2 h3 => ?_, fun j h1 h2 => ?_, fun j hj => ?_, fun j hj => ?_⟩
    · rw [← hJ0, ups_ne (by omega), up_ne (by omega), up_ne (by omega), up_ne (by omega), ups_ne (by omega)]
    · have hc : j = 1 ∨ j = 2 ∨ j = 3 := by omega
      rw [← hJ0, ups_ne (by omega)]
      rcases hc with h | h | h <;> subst h
      · rw [up_ne (by omega), up_ne (by omega), up_eq]
      · rw [up_ne (by omega), up_eq]
      · rw [up_eq]
    · rw [show (120 + 31 * k) + 1 = (121 + 31 * k) by omega, show 2 + 1 = 3 by omega, ← hJ0, ups_ne (by omega), up_ne (by omega), up_ne (by omega), up_ne (by omega), ups_eq, cpy_lt hj]
    · rw [show (120 + 31 * k) + 2 = (122 + 31 * k) by omega, show 2 + 2 = 4 by omega, ← hJ0, ups_eq, cpy_lt hj]
  obtain ⟨J1, a1, a2⟩ := k_tcopy_o_step (X := X) (d := d) (al := al) (D := D) (L := L) (K := J0) hk (b := 0) (by omega)
  obtain ⟨J2, b1, b2⟩ := k_tcopy_o_step (X := X) (d := d) (al := al) (D := D) (L := L) (K := J1) hk (b := 1) (by omega)
  refine ⟨J2, ?_, cc_of (by omega) h0 a2 b2⟩
  refine Eq.trans a1 (Eq.trans b1 ?_)
  rw [sgb_To_copy_o_56 hk, show decide ((2 : Int32) ≤ Int32.ofNat (1 + 1)) = true from rfl, cond_true]
theorem k_bcopy_i {k b : Nat} (hk : k < 3) (hb : b < 2) : Cl X (d + 1) 9 [vr (9 + 5 * b), vr (127 + 5 * b + 31 * k)] (pm_mm al (pm_tb k D) I L) = some (none, pm_mm al (pm_tb k D) (bcp I (9 + 5 * b) (10 + 5 * b) (11 + 5 * b) (12 + 5 * b) (13 + 5 * b) (127 + 5 * b + 31 * k) (128 + 5 * b + 31 * k) (129 + 5 * b + 31 * k) (130 + 5 * b + 31 * k) (131 + 5 * b + 31 * k)) L) := by
  rw [Cl_s]
  show Rn X d co_Ba_copy (0, [some (vr (9 + 5 * b)), some (vr (127 + 5 * b + 31 * k))], [], pm_mm al (pm_tb k D) I L) = _
  rw [sgb_Ba_copy_i_0 hb hk]; rfl
theorem k_scopy_i {k b : Nat} (hk : k < 3) (hb : b < 2) : Cl X (d + 1) 78 [vr (19 + 4 * b), vr (137 + 4 * b + 31 * k)] (pm_mm al (pm_tb k D) I L) = some (none, pm_mm al (pm_tb k D) (scp I (19 + 4 * b) (20 + 4 * b) (21 + 4 * b) (22 + 4 * b) (137 + 4 * b + 31 * k) (138 + 4 * b + 31 * k) (139 + 4 * b + 31 * k) (140 + 4 * b + 31 * k)) L) := by
  rw [Cl_s]
  show Rn X d co_Sc_copy (0, [some (vr (19 + 4 * b)), some (vr (137 + 4 * b + 31 * k))], [], pm_mm al (pm_tb k D) I L) = _
  rw [sgb_Sc_copy_i_0 hb hk]; rfl
theorem k_lcopy_i {k b : Nat} (hk : k < 3) (hb : b < 2) : Cl X (d + 1) 37 [vr (27 + 3 * b), vr (145 + 3 * b + 31 * k)] (pm_mm al (pm_tb k D) I L) = some (none, pm_mm al (pm_tb k D) (lcp I (27 + 3 * b) (28 + 3 * b) (29 + 3 * b) (145 + 3 * b + 31 * k) (146 + 3 * b + 31 * k) (147 + 3 * b + 31 * k)) L) := by
  rw [Cl_s]
  show Rn X d co_Lo_copy (0, [some (vr (27 + 3 * b)), some (vr (145 + 3 * b + 31 * k))], [], pm_mm al (pm_tb k D) I L) = _
  rw [sgb_Lo_copy_i_0 hb hk]; rfl
theorem k_tcopy_i_step {k b : Nat} {K : Nat → Nat → Int32} (hk : k < 3) (hb : b < 2) : ∃ K', Rn X (d + 1) co_To_copy (56, [some (vr 2), some (vr (120 + 31 * k)), some (vi (Int32.ofNat b))], [], pm_mm al (pm_tb k D) K L) = Rn X (d + 1) co_To_copy (56, [some (vr 2), some (vr (120 + 31 * k)), some (vi (Int32.ofNat (b + 1)))], [], pm_mm al (pm_tb k D) K' L) ∧ stP 2 (120 + 31 * k) b K K' := by
  generalize hJ1 : bcp K (9 + 5 * b) (10 + 5 * b) (11 + 5 * b) (12 + 5 * b) (13 + 5 * b) (127 + 5 * b + 31 * k) (128 + 5 * b + 31 * k) (129 + 5 * b + 31 * k) (130 + 5 * b + 31 * k) (131 + 5 * b + 31 * k) = J1
  generalize hJ2 : scp J1 (19 + 4 * b) (20 + 4 * b) (21 + 4 * b) (22 + 4 * b) (137 + 4 * b + 31 * k) (138 + 4 * b + 31 * k) (139 + 4 * b + 31 * k) (140 + 4 * b + 31 * k) = J2
  generalize hJ3 : lcp (pm_up J2 7 b (J2 (125 + 31 * k) b)) (27 + 3 * b) (28 + 3 * b) (29 + 3 * b) (145 + 3 * b + 31 * k) (146 + 3 * b + 31 * k) (147 + 3 * b + 31 * k) = J3
  have x1 := k_bcopy_i (X := X) (d := d) (al := al) (D := D) (I := K) (L := L) hk hb
  have x2 := k_scopy_i (X := X) (d := d) (al := al) (D := D) (I := J1) (L := L) hk hb
  have x3 := k_lcopy_i (X := X) (d := d) (al := al) (D := D) (I := pm_up J2 7 b (J2 (125 + 31 * k) b)) (L := L) hk hb
  rw [hJ1] at x1; rw [hJ2] at x2; rw [hJ3] at x3
  refine ⟨J3, ?_, ?_⟩
  · rw [sgb_To_copy_i_56 hk, show decide ((2 : Int32) ≤ Int32.ofNat b) = false from (n_dle (a := 2) (by omega) (by omega)).trans (df (by omega)), cond_false, n_in (by omega), dt hb, cond_true, cond_true, n_tn (by omega), (dn_b (al := al) (I := K) (L := L) hk hb).1, (dn_b (al := al) (I := K) (L := L) hk hb).2.1, (dn_b (al := al) (I := K) (L := L) hk hb).2.2.1, cond_true, x1]
    simp only [Option.bind_some, pm_av]
    rw [sgb_To_copy_i_76 hk, n_in (by omega), dt hb, cond_true, cond_true, n_tn (by omega), (dn_s (al := al) (I := K) (L := L) hk hb).1, (dn_s (al := al) (I := K) (L := L) hk hb).2.1, (dn_s (al := al) (I := J1) (L := L) hk hb).2.2.1, cond_true, x2]
    simp only [Option.bind_some, pm_av]
    rw [sgb_To_copy_i_91 hk, n_in (by omega), dt hb, cond_true, cond_true, cond_true, cond_true, n_tn (by omega), (dn_l (al := al) (I := K) (L := L) hk hb).1, (dn_l (al := al) (I := K) (L := L) hk hb).2.1, (dn_l (al := al) (I := pm_up J2 7 b (J2 (125 + 31 * k) b)) (L := L) hk hb).2.2.1, cond_true, x3]
    simp only [Option.bind_some, pm_av]
    rw [sgb_To_copy_i_118 hk, n_s]
  · refine st_of (K1 := J1) (K2 := J2) hb (by omega) ?_ ?_ ?_
    · rw [← hJ1]; exact bcp_ok (by omega) (by omega) (by omega) (by omega) (by omega) (by omega) (by omega) (by omega) (by omega) (by omega)
    · rw [← hJ2]; exact scp_ok (by omega) (by omega) (by omega) (by omega) (by omega) (by omega) (by omega) (by omega)
    · rw [← hJ3, show 2 + 5 = 7 by omega, show (120 + 31 * k) + 5 = (125 + 31 * k) by omega]; exact lcp_ok (by omega) (by omega) (by omega) (by omega) (by omega) (by omega)
theorem k_tcopy_i {k : Nat} (hk : k < 3) : ∃ J, Cl X (d + 2) 96 [vr 2, vr (120 + 31 * k)] (pm_mm al (pm_tb k D) I L) = some (none, pm_mm al (pm_tb k D) J L) ∧ CC I J (120 + 31 * k) 2 := by
  rw [Cl_s]
  show ∃ J, Rn X (d + 1) co_To_copy (0, [some (vr 2), some (vr (120 + 31 * k)), none], [], pm_mm al (pm_tb k D) I L) = _ ∧ _
  rw [sgb_To_copy_i_0 hk]
  generalize hJ0 : pm_ups (pm_up (pm_up (pm_up (pm_ups I 3 (va_cpy (I (121 + 31 * k)) (I 3) 0 0 600)) 2 1 (I (120 + 31 * k) 1)) 2 2 (I (120 + 31 * k) 2)) 2 3 (I (120 + 31 * k) 3)) 4 (va_cpy (I (122 + 31 * k)) (I 4) 0 0 4) = J0
  have h0 : inP 2 (120 + 31 * k) I J0 := by
    refine ⟨fun a j h1 h2 h3 => ?_, fun j h1 h2 => ?_, fun j hj => ?_, fun j hj => ?_⟩
    · rw [← hJ0, ups_ne (by omega), up_ne (by omega), up_ne (by omega), up_ne (by omega), ups_ne (by omega)]
    · have hc : j = 1 ∨ j = 2 ∨ j = 3 := by omega
      rw [← hJ0, ups_ne (by omega)]
      rcases hc with h | h | h <;> subst h
      · rw [up_ne (by omega), up_ne (by omega), up_eq]
      · rw [up_ne (by omega), up_eq]
      · rw [up_eq]
    · rw [show 2 + 1 = 3 by omega, show (120 + 31 * k) + 1 = (121 + 31 * k) by omega, ← hJ0, ups_ne (by omega), up_ne (by omega), up_ne (by omega), up_ne (by omega), ups_eq, cpy_lt hj]
    · rw [show 2 + 2 = 4 by omega, show (120 + 31 * k) + 2 = (122 + 31 * k) by omega, ← hJ0, ups_eq, cpy_lt hj]
  obtain ⟨J1, a1, a2⟩ := k_tcopy_i_step (X := X) (d := d) (al := al) (D := D) (L := L) (K := J0) hk (b := 0) (by omega)
  obtain ⟨J2, b1, b2⟩ := k_tcopy_i_step (X := X) (d := d) (al := al) (D := D) (L := L) (K := J1) hk (b := 1) (by omega)
  refine ⟨J2, ?_, cc_of (by omega) h0 a2 b2⟩
  refine Eq.trans a1 (Eq.trans b1 ?_)
  rw [sgb_To_copy_i_56 hk, show decide ((2 : Int32) ≤ Int32.ofNat (1 + 1)) = true from rfl, cond_true]
end
