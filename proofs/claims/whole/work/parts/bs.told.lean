section
variable {X : Nat × (Nat → Int32)} {d : Nat} {al : List Nat} {D : Nat → Bool} {I : Nat → Nat → Int32} {L : Nat → Nat → Int64}
/-- what was told, place by place -/
def tP (I J : Nat → Nat → Int32) : Prop := (∀ i j, cc i j → J (2 + i) j = I (2 + i) j) ∧ ∀ a k, 82 ≤ a → a ≤ 90 → k < wd a → J a k = I a k
theorem ccB {i b j : Nat} (hb : b < 2) (e : i = 7 + 5 * b) (hj : j < 5) : cc i j := Or.inr (Or.inr (Or.inr (Or.inr (Or.inl ⟨b, hb, e, hj⟩))))
theorem ccBc {i b c j : Nat} (hb : b < 2) (h1 : 1 ≤ c) (h2 : c ≤ 4) (e : i = 7 + 5 * b + c) (hj : j < 6) : cc i j := Or.inr (Or.inr (Or.inr (Or.inr (Or.inr (Or.inl ⟨b, c, hb, h1, h2, e, hj⟩)))))
theorem ccS {i b : Nat} (hb : b < 2) (e : i = 17 + 4 * b) : cc i 0 := Or.inr (Or.inr (Or.inr (Or.inr (Or.inr (Or.inr (Or.inl ⟨b, hb, e, rfl⟩))))))
theorem ccSc {i b c j : Nat} (hb : b < 2) (h1 : 1 ≤ c) (h2 : c ≤ 3) (e : i = 17 + 4 * b + c) (hj : j < 8) : cc i j := Or.inr (Or.inr (Or.inr (Or.inr (Or.inr (Or.inr (Or.inr (Or.inl ⟨b, c, hb, h1, h2, e, hj⟩)))))))
theorem ccL {i b : Nat} (hb : b < 2) (e : i = 25 + 3 * b) : cc i 0 := Or.inr (Or.inr (Or.inr (Or.inr (Or.inr (Or.inr (Or.inr (Or.inr (Or.inl ⟨b, hb, e, rfl⟩))))))))
theorem ccLc {i b c j : Nat} (hb : b < 2) (h1 : 1 ≤ c) (h2 : c ≤ 2) (e : i = 25 + 3 * b + c) (hj : j < 8) : cc i j := Or.inr (Or.inr (Or.inr (Or.inr (Or.inr (Or.inr (Or.inr (Or.inr (Or.inr ⟨b, c, hb, h1, h2, e, hj⟩))))))))
theorem cc_le {i j : Nat} (h : cc i j) : i ≤ 30 := by
  rcases h with ⟨rfl, h1, h2⟩ | ⟨rfl, h1⟩ | ⟨rfl, h1⟩ | ⟨rfl, h1⟩ | ⟨b, hb, rfl, h1⟩ | ⟨b, c, hb, c1, c2, rfl, h1⟩ | ⟨b, hb, rfl, rfl⟩ | ⟨b, c, hb, c1, c2, rfl, h1⟩ | ⟨b, hb, rfl, rfl⟩ | ⟨b, c, hb, c1, c2, rfl, h1⟩ <;> omega
theorem rG_pt {I J : Nat → Nat → Int32} {m : Nat → Nat} (h : ∀ a k, 82 ≤ a → a ≤ 90 → k < wd a → J a k = I a k) (g : rG I m) : rG J m := by
  have e86 : ∀ j, j < 4 → J 86 j = I 86 j := fun j hj => h 86 j (by omega) (by omega) hj
  have e87 : ∀ j, j < 58 → J 87 j = I 87 j := fun j hj => h 87 j (by omega) (by omega) hj
  have e88 : ∀ j, j < 50 → J 88 j = I 88 j := fun j hj => h 88 j (by omega) (by omega) hj
  have e89 : ∀ j, j < 2 → J 89 j = I 89 j := fun j hj => h 89 j (by omega) (by omega) hj
  have e90 : ∀ j, j < 34 → J 90 j = I 90 j := fun j hj => h 90 j (by omega) (by omega) hj
  obtain ⟨g0, g1, g2, g3, g4⟩ := g
  have m0 := (g0 0 (by omega)).1; have m1 := (g0 1 (by omega)).1; have m2 := (g0 2 (by omega)).1; have m3 := (g0 3 (by omega)).1
  refine ⟨fun s hs => ⟨(g0 s hs).1, (e86 s hs).trans (g0 s hs).2⟩, fun b hb => ?_, fun s hs => ?_, fun t ht => by rw [e89 t (by omega)]; exact g3 t ht, fun l hl => ?_⟩
  · obtain ⟨q1, q2, q3, q4, q5, q6, q7⟩ := g1 b hb
    have c : J 87 (29 * b) = I 87 (29 * b) := e87 _ (by omega)
    refine ⟨by rw [c]; exact q1, by rw [c]; exact q2, by rw [e87 _ (by omega)]; exact q3, by rw [e87 _ (by omega)]; exact q4, by rw [e87 _ (by omega)]; exact q5, by rw [e87 _ (by omega)]; exact q6, fun p hp => ?_⟩
    rw [c] at hp
    obtain ⟨w1, w2, w3, w4⟩ := q7 p hp
    exact ⟨by rw [e87 _ (by omega)]; exact w1, by rw [e87 _ (by omega)]; exact w2, by rw [e87 _ (by omega)]; exact w3, by rw [e87 _ (by omega)]; exact w4⟩
  · obtain ⟨⟨s1, s2⟩, s3, s4⟩ := g2 s hs
    have c : J 88 (25 * s) = I 88 (25 * s) := e88 _ (by omega)
    have e1 : (scO J s).1 = (scO I s).1 := congrArg Int32.toNatClampNeg c
    have s1' : (scO I s).1 ≤ 8 := s1
    refine ⟨⟨by rw [e1]; exact s1, fun k hk => ?_⟩, by rw [c]; exact s3, fun k hk => ?_⟩
    · rw [e1] at hk
      have := s2 k hk
      have y0 := e88 (25 * s + 1 + 3 * k + 0) (by omega); have y1 := e88 (25 * s + 1 + 3 * k + 1) (by omega); have y2 := e88 (25 * s + 1 + 3 * k + 2) (by omega)
      simp only [scO, y0, y1, y2] at this ⊢
      exact this
    · rw [e1] at hk
      rw [e88 (25 * s + 1 + 3 * k + 0) (by omega), e88 (25 * s + 1 + 3 * k + 1) (by omega), e88 (25 * s + 1 + 3 * k + 2) (by omega)]
      exact s4 k hk
  · obtain ⟨l1, l2, l3⟩ := g4 l hl
    have c : J 90 (17 * l) = I 90 (17 * l) := e90 _ (by omega)
    refine ⟨by rw [c]; exact l1, by rw [c]; exact l2, fun k hk => ?_⟩
    rw [c] at hk
    rw [e90 _ (by omega), e90 _ (by omega)]
    exact l3 k hk
theorem RL_pt {I J : Nat → Nat → Int32} {m : Nat → Nat} (h : tP I J) (g : rG I m) (r : RL I m) : RL J m := by
  have e82 : ∀ j, j < 600 → J 82 j = I 82 j := fun j hj => h.2 82 j (by omega) (by omega) hj
  have e83 : J 83 0 = I 83 0 := h.2 83 0 (by omega) (by omega) (by decide)
  have e84 : J 84 0 = I 84 0 := h.2 84 0 (by omega) (by omega) (by decide)
  have e85 : J 85 0 = I 85 0 := h.2 85 0 (by omega) (by omega) (by decide)
  have e86 : ∀ j, j < 4 → J 86 j = I 86 j := fun j hj => h.2 86 j (by omega) (by omega) hj
  have e87 : ∀ j, j < 58 → J 87 j = I 87 j := fun j hj => h.2 87 j (by omega) (by omega) hj
  have e88 : ∀ j, j < 50 → J 88 j = I 88 j := fun j hj => h.2 88 j (by omega) (by omega) hj
  have e89 : ∀ j, j < 2 → J 89 j = I 89 j := fun j hj => h.2 89 j (by omega) (by omega) hj
  have e90 : ∀ j, j < 34 → J 90 j = I 90 j := fun j hj => h.2 90 j (by omega) (by omega) hj
  have ec : ∀ a j, 2 ≤ a → cc (a - 2) j → J a j = I a j := fun a j ha hc => by have := h.1 (a - 2) j hc; rwa [show 2 + (a - 2) = a by omega] at this
  have e2 : ∀ j, 1 ≤ j → j ≤ 3 → J 2 j = I 2 j := fun j h1 h2 => ec 2 j (by omega) (Or.inl ⟨rfl, h1, h2⟩)
  have e3 : ∀ j, j < 600 → J 3 j = I 3 j := fun j hj => ec 3 j (by omega) (Or.inr (Or.inl ⟨rfl, hj⟩))
  have e4 : ∀ j, j < 4 → J 4 j = I 4 j := fun j hj => ec 4 j (by omega) (Or.inr (Or.inr (Or.inl ⟨rfl, hj⟩)))
  have e7 : ∀ j, j < 2 → J 7 j = I 7 j := fun j hj => ec 7 j (by omega) (Or.inr (Or.inr (Or.inr (Or.inl ⟨rfl, hj⟩))))
  obtain ⟨g0, g1, g2, g3, g4⟩ := g
  have m0 := (g0 0 (by omega)).1; have m1 := (g0 1 (by omega)).1; have m2 := (g0 2 (by omega)).1; have m3 := (g0 3 (by omega)).1
  obtain ⟨r1, r2, r3, r4, r5, r6, r7, r8, r9⟩ := r
  refine ⟨fun i hi => by rw [e4 i hi, e86 i hi]; exact r1 i hi, fun b hb => ?_, fun s hs => ?_, fun u hu => by rw [e7 u (by omega), e89 u (by omega)]; exact r4 u hu, fun l hl => ?_, fun k hk => by rw [e3 k hk, e82 k hk]; exact r6 k hk, by rw [e2 1 (by omega) (by omega), e83]; exact r7, by rw [e2 2 (by omega) (by omega), e84]; exact r8, by rw [e2 3 (by omega) (by omega), e85]; exact r9⟩
  · have hb2 : b < 2 := by omega
    obtain ⟨q1, q2, q3, q4, q5, q6⟩ := r2 b hb
    obtain ⟨b6, _⟩ := g1 b hb
    have eo : ∀ j, j < 5 → J (9 + 5 * b) j = I (9 + 5 * b) j := fun j hj => ec _ j (by omega) (ccB hb2 (by omega) hj)
    have ea : ∀ c j, 1 ≤ c → c ≤ 4 → j < 6 → J (9 + 5 * b + c) j = I (9 + 5 * b + c) j := fun c j h1 h2 hj => ec _ j (by omega) (ccBc hb2 h1 h2 (by omega) hj)
    have c : J 87 (29 * b) = I 87 (29 * b) := e87 _ (by omega)
    refine ⟨by rw [eo 4 (by omega), c]; exact q1, by rw [eo 0 (by omega), e87 _ (by omega)]; exact q2, by rw [eo 1 (by omega), e87 _ (by omega)]; exact q3, by rw [eo 2 (by omega), e87 _ (by omega)]; exact q4, by rw [eo 3 (by omega), e87 _ (by omega)]; exact q5, fun p hp => ?_⟩
    rw [c] at hp
    obtain ⟨w1, w2, w3, w4⟩ := q6 p hp
    exact ⟨by rw [ea 1 p (by omega) (by omega) (by omega), e87 _ (by omega)]; exact w1, by rw [ea 2 p (by omega) (by omega) (by omega), e87 _ (by omega)]; exact w2, by rw [ea 3 p (by omega) (by omega) (by omega), e87 _ (by omega)]; exact w3, by rw [ea 4 p (by omega) (by omega) (by omega), e87 _ (by omega)]; exact w4⟩
  · have hs2 : s < 2 := by omega
    obtain ⟨q1, q2⟩ := r3 s hs
    obtain ⟨⟨s8, _⟩, _⟩ := g2 s hs
    have s8 : (I 88 (25 * s)).toNatClampNeg ≤ 8 := s8
    have ea : ∀ c j, 1 ≤ c → c ≤ 3 → j < 8 → J (19 + 4 * s + c) j = I (19 + 4 * s + c) j := fun c j h1 h2 hj => ec _ j (by omega) (ccSc hs2 h1 h2 (by omega) hj)
    have c : J 88 (25 * s) = I 88 (25 * s) := e88 _ (by omega)
    refine ⟨by rw [ec (19 + 4 * s) 0 (by omega) (ccS hs2 (by omega)), c]; exact q1, fun k hk => ?_⟩
    rw [c] at hk
    obtain ⟨w1, w2, w3⟩ := q2 k hk
    exact ⟨by rw [ea 1 k (by omega) (by omega) (by omega), e88 _ (by omega)]; exact w1, by rw [ea 2 k (by omega) (by omega) (by omega), e88 _ (by omega)]; exact w2, by rw [ea 3 k (by omega) (by omega) (by omega), e88 _ (by omega)]; exact w3⟩
  · have hl2 : l < 2 := by omega
    obtain ⟨q1, q2⟩ := r5 l hl
    obtain ⟨l8, _⟩ := g4 l hl
    have ea : ∀ c j, 1 ≤ c → c ≤ 2 → j < 8 → J (27 + 3 * l + c) j = I (27 + 3 * l + c) j := fun c j h1 h2 hj => ec _ j (by omega) (ccLc hl2 h1 h2 (by omega) hj)
    have c : J 90 (17 * l) = I 90 (17 * l) := e90 _ (by omega)
    refine ⟨by rw [ec (27 + 3 * l) 0 (by omega) (ccL hl2 (by omega)), c]; exact q1, fun k hk => ?_⟩
    rw [c] at hk
    obtain ⟨w1, w2⟩ := q2 k hk
    exact ⟨by rw [ea 1 k (by omega) (by omega) (by omega), e90 _ (by omega)]; exact w1, by rw [ea 2 k (by omega) (by omega) (by omega), e90 _ (by omega)]; exact w2⟩
/-- the class's cells from t on, beside a reference's K -/
def mixm (I K : Nat → Nat → Int32) (t : Nat) : Nat → Nat → Int32 := fun a j => if 82 ≤ a ∧ a ≤ 90 then K a j else I (t + (a - 2)) j
theorem mix_K {K : Nat → Nat → Int32} {t a k : Nat} (h1 : 82 ≤ a) (h2 : a ≤ 90) : mixm I K t a k = K a k := if_pos ⟨h1, h2⟩
theorem mix_I {K : Nat → Nat → Int32} {t i j : Nat} (h : i ≤ 30) : mixm I K t (2 + i) j = I (t + i) j := by rw [mixm, if_neg (by omega), show 2 + i - 2 = i by omega]
/-- told and good: what a version of the reference may be -/
def TG (K : Nat → Nat → Int32) (m : Nat → Nat) : Prop := rG K m ∧ ∃ n, n ≤ 600 ∧ K 83 0 = Int32.ofNat n
def IR (I K : Nat → Nat → Int32) (t v : Nat) (m : Nat → Nat) : Prop := TG K m ∧ RL (mixm I K t) m ∧ MR I K v
theorem TG_pt {I J : Nat → Nat → Int32} {m : Nat → Nat} (h : ∀ a k, 82 ≤ a → a ≤ 90 → k < wd a → J a k = I a k) (g : TG I m) : TG J m := by
  obtain ⟨g1, n, hn, e⟩ := g
  exact ⟨rG_pt h g1, n, hn, (h 83 0 (by omega) (by omega) (by decide)).trans e⟩
theorem rG_mix {K : Nat → Nat → Int32} {t : Nat} {m : Nat → Nat} (g : rG K m) : rG (mixm I K t) m := rG_pt (fun a k h1 h2 _ => mix_K h1 h2) g
theorem MR_0 : MR I I 0 := fun a _ _ k _ => by rw [Nat.mul_zero, Nat.zero_add]
/-- what was told stands in an image -/
theorem IR_image {J : Nat → Nat → Int32} {t v : Nat} {m : Nat → Nat} (g : TG I m) (r : RL I m) (c : ∀ i j, cc i j → J (t + i) j = I (2 + i) j) (v1 : MR J I v) : IR J I t v m :=
  ⟨g, RL_pt (I := I) ⟨fun i j h => by rw [mix_I (cc_le h)]; exact c i j h, fun a k h1 h2 _ => mix_K h1 h2⟩ g.1 r, v1⟩
/-- an image's is told again -/
theorem IR_again {J K : Nat → Nat → Int32} {t v : Nat} {m : Nat → Nat} (h : IR I K t v m) (c : ∀ i j, cc i j → J (2 + i) j = I (t + i) j) (v1 : MR J K 0) : TG J m ∧ RL J m := by
  have e : ∀ a k, 82 ≤ a → a ≤ 90 → k < wd a → J a k = K a k := fun a k h1 h2 hk => by have := v1 a h1 h2 k hk; rwa [Nat.mul_zero, Nat.zero_add] at this
  exact ⟨TG_pt e h.1, RL_pt (I := mixm I K t) ⟨fun i j hc => by rw [mix_I (cc_le hc)]; exact c i j hc, fun a k h1 h2 hk => by rw [mix_K h1 h2]; exact e a k h1 h2 hk⟩ (rG_mix h.1.1) h.2.1⟩
/-- an image stays -/
theorem IR_up {J K : Nat → Nat → Int32} {t v : Nat} {m : Nat → Nat} (h : IR I K t v m) (c : ∀ a, t ≤ a → a ≤ t + 30 → J a = I a) (v1 : MR J K v) : IR J K t v m :=
  ⟨h.1, RL_pt (I := mixm I K t) ⟨fun i j hc => by rw [mix_I (cc_le hc), mix_I (cc_le hc), c (t + i) (by omega) (by have := cc_le hc; omega)], fun a k h1 h2 hk => by rw [mix_K h1 h2, mix_K h1 h2]⟩ (rG_mix h.1.1) h.2.1, v1⟩
end
