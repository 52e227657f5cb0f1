section
/-- numbers by their digits of three bits -/
def dg (a : Nat → Nat) (n : Nat) : Nat := su (fun t => a t * 8 ^ t) n
theorem dg_s (a : Nat → Nat) (n : Nat) : dg a (n + 1) = 2 ^ (3 * n) * a n + dg a n := by
  rw [dg, su_s, Nat.pow_mul, Nat.mul_comm (a n), Nat.add_comm]; rfl
theorem dg_lt {a : Nat → Nat} (h : ∀ t, a t < 8) : ∀ n, dg a n < 2 ^ (3 * n)
  | 0 => by show 0 < 1; omega
  | n + 1 => by
    have ih := dg_lt h n
    have h8 : 2 ^ (3 * (n + 1)) = 2 ^ (3 * n) * 8 := by rw [Nat.mul_add, Nat.pow_add]
    have h7 : 2 ^ (3 * n) * a n ≤ 2 ^ (3 * n) * 7 := Nat.mul_le_mul_left _ (by have := h n; omega)
    rw [dg_s, h8]; omega
theorem dg_bit {a : Nat → Nat} (h : ∀ t, a t < 8) : ∀ n j, (dg a n).testBit j = (decide (j < 3 * n) && (a (j / 3)).testBit (j % 3))
  | 0, j => by rw [show dg a 0 = 0 from rfl, Nat.zero_testBit, df (by omega), Bool.false_and]
  | n + 1, j => by
    rw [dg_s, Nat.testBit_two_pow_mul_add _ (dg_lt h n)]
    by_cases hj : j < 3 * n
    · rw [if_pos hj, dg_bit h n j, dt hj, dt (by omega)]
    · rw [if_neg hj]
      by_cases h2 : j < 3 * (n + 1)
      · rw [dt h2, Bool.true_and, show j / 3 = n by omega, show j % 3 = j - 3 * n by omega]
      · rw [df h2, Bool.false_and]
        have h8 : a n < 2 ^ (j - 3 * n) := Nat.lt_of_lt_of_le (h n) (show 2 ^ 3 ≤ 2 ^ (j - 3 * n) from Nat.pow_le_pow_right (by omega) (by omega))
        exact Nat.testBit_lt_two_pow h8
theorem and8 {x y : Nat} (hx : x < 8) : x &&& y < 8 := Nat.lt_of_le_of_lt Nat.and_le_left hx
theorem or8 {x y : Nat} (hx : x < 8) (hy : y < 8) : x ||| y < 8 := Nat.or_lt_two_pow (n := 3) hx hy
theorem dg_and {a b : Nat → Nat} (ha : ∀ t, a t < 8) (hb : ∀ t, b t < 8) (n : Nat) : dg a n &&& dg b n = dg (fun t => a t &&& b t) n := by
  refine Nat.eq_of_testBit_eq (fun j => ?_)
  rw [Nat.testBit_and, dg_bit ha, dg_bit hb, dg_bit (fun t => and8 (ha t)), Nat.testBit_and]
  cases decide (j < 3 * n) <;> simp
theorem dg_or {a b : Nat → Nat} (ha : ∀ t, a t < 8) (hb : ∀ t, b t < 8) (n : Nat) : dg a n ||| dg b n = dg (fun t => a t ||| b t) n := by
  refine Nat.eq_of_testBit_eq (fun j => ?_)
  rw [Nat.testBit_or, dg_bit ha, dg_bit hb, dg_bit (fun t => or8 (ha t) (hb t)), Nat.testBit_or]
  cases decide (j < 3 * n) <;> simp
theorem dg_inj {a b : Nat → Nat} (ha : ∀ t, a t < 8) (hb : ∀ t, b t < 8) : ∀ n, (dg a n = dg b n ↔ ∀ t, t < n → a t = b t)
  | 0 => ⟨fun _ t ht => absurd ht (Nat.not_lt_zero t), fun _ => rfl⟩
  | n + 1 => by
    have ih := dg_inj ha hb n
    have la := dg_lt ha n
    have lb := dg_lt hb n
    rw [dg_s, dg_s]
    constructor
    · intro h
      have h1 : dg a n = dg b n := by
        have := congrArg (· % 2 ^ (3 * n)) h
        simpa [Nat.mul_add_mod, Nat.mod_eq_of_lt la, Nat.mod_eq_of_lt lb] using this
      have h2 : a n = b n := by
        rw [h1] at h
        exact Nat.eq_of_mul_eq_mul_left (Nat.two_pow_pos _) (Nat.add_right_cancel h)
      intro t ht
      by_cases htn : t = n
      · rw [htn]; exact h2
      · exact ih.mp h1 t (by omega)
    · intro h
      rw [h n (by omega), ih.mpr (fun t ht => h t (by omega))]
/-- what stands above the digits doesn't count -/
theorem dg_hi {a b : Nat → Nat} (ha : ∀ t, a t < 8) (hb : ∀ t, b t < 8) (c : Nat) : (dg a 12 + c * 1099511627776) &&& dg b 12 = dg (fun t => a t &&& b t) 12 := by
  have l40 : dg a 12 < 2 ^ 40 := Nat.lt_of_lt_of_le (dg_lt ha 12) (by decide)
  have e40 : dg a 12 + c * 1099511627776 = 2 ^ 40 * c + dg a 12 := by
    rw [Nat.add_comm, Nat.mul_comm c, show (2 : Nat) ^ 40 = 1099511627776 from rfl]
  rw [← dg_and ha hb, e40]
  refine Nat.eq_of_testBit_eq (fun j => ?_)
  rw [Nat.testBit_and, Nat.testBit_and, Nat.testBit_two_pow_mul_add _ l40]
  by_cases hj : j < 40
  · rw [if_pos hj]
  · rw [dg_bit hb, df (by omega), Bool.false_and, Bool.and_false, Bool.and_false]
theorem un_and (a b : Nat) : Int64.ofNat a &&& Int64.ofNat b = Int64.ofNat (a &&& b) := by
  apply Int64.toBitVec_inj.mp
  show BitVec.ofNat 64 a &&& BitVec.ofNat 64 b = BitVec.ofNat 64 (a &&& b)
  rw [BitVec.ofNat_and]
theorem un_or (a b : Nat) : Int64.ofNat a ||| Int64.ofNat b = Int64.ofNat (a ||| b) := by
  apply Int64.toBitVec_inj.mp
  show BitVec.ofNat 64 a ||| BitVec.ofNat 64 b = BitVec.ofNat 64 (a ||| b)
  rw [BitVec.ofNat_or]
theorem dg_one {b v : Nat} (hb : b < 12) : dg (fun t => if t = b then v else 0) 12 = v * 8 ^ b := by
  have := su_one b v (fun t => 8 ^ t) 12 hb
  rw [← this]
  exact su_congr _ (fun t _ => by
    show (if t = b then v else 0) * 8 ^ t = (if b = t then v else 0) * 8 ^ t
    by_cases h : t = b
    · rw [if_pos h, if_pos h.symm]
    · rw [if_neg h, if_neg (fun c => h c.symm)])
/-- what a log says of the digits, line by line: told of, numbers, clash -/
def tk (G : LG) : Nat → (Nat → Nat) × (Nat → Nat) × Bool
  | 0 => (fun _ => 0, fun _ => 0, false)
  | k + 1 => (fun t => if t = G.2.1 k then 7 else (tk G k).1 t, fun t => if t = G.2.1 k then (tk G k).2.1 t ||| G.2.2 k else (tk G k).2.1 t, (tk G k).2.2 || (!decide ((tk G k).1 (G.2.1 k) = 0) && !decide ((tk G k).2.1 (G.2.1 k) = G.2.2 k)))
theorem tk_rg {G : LG} (g : lgG G) : ∀ k, k ≤ G.1 → (∀ t, (tk G k).1 t = 0 ∨ (tk G k).1 t = 7) ∧ (∀ t, (tk G k).2.1 t < 8) ∧ ∀ t, (tk G k).1 t = 0 → (tk G k).2.1 t = 0
  | 0, _ => ⟨fun _ => Or.inl rfl, fun _ => (by decide : 0 < 8), fun _ _ => rfl⟩
  | k + 1, hk => by
    obtain ⟨h1, h2, h3⟩ := tk_rg g k (by omega)
    obtain ⟨_, v6⟩ := g.2 k (by omega)
    refine ⟨fun t => ?_, fun t => ?_, fun t => ?_⟩
    · show (if t = G.2.1 k then 7 else (tk G k).1 t) = 0 ∨ (if t = G.2.1 k then 7 else (tk G k).1 t) = 7
      split
      · exact Or.inr rfl
      · exact h1 t
    · show (if t = G.2.1 k then (tk G k).2.1 t ||| G.2.2 k else (tk G k).2.1 t) < 8
      split
      · exact or8 (h2 t) (by omega)
      · exact h2 t
    · show (if t = G.2.1 k then 7 else (tk G k).1 t) = 0 → (if t = G.2.1 k then (tk G k).2.1 t ||| G.2.2 k else (tk G k).2.1 t) = 0
      split
      · intro h; cases h
      · exact h3 t
theorem and7 : ∀ x : Fin 8, x.val &&& 7 = x.val := by decide
theorem tk_agrees {G : LG} {S : Nat → Nat} (g : lgG G) (hS : ∀ t, S t < 8) : ∀ k, k ≤ G.1 → (((tk G k).2.2 = false ∧ ∀ t, t < 12 → S t &&& (tk G k).1 t = (tk G k).2.1 t) ↔ ∀ j, j < k → S (G.2.1 j) = G.2.2 j)
  | 0, _ => ⟨fun _ j hj => absurd hj (Nat.not_lt_zero j), fun _ => ⟨rfl, fun t _ => Nat.and_zero _⟩⟩
  | k + 1, hk => by
    have ih := tk_agrees g hS k (by omega)
    obtain ⟨h1, h2, h3⟩ := tk_rg g k (by omega)
    obtain ⟨b12, v6⟩ := g.2 k (by omega)
    have a7 : ∀ t, S t &&& 7 = S t := fun t => and7 ⟨S t, hS t⟩
    have hr : (∀ j, j < k + 1 → S (G.2.1 j) = G.2.2 j) ↔ (∀ j, j < k → S (G.2.1 j) = G.2.2 j) ∧ S (G.2.1 k) = G.2.2 k := by
      constructor
      · intro h; exact ⟨fun j hj => h j (by omega), h k (by omega)⟩
      · intro h j hj
        by_cases hjk : j = k
        · subst hjk; exact h.2
        · exact h.1 j (by omega)
    rw [hr, ← ih]
    show ((((tk G k).2.2 || (!decide ((tk G k).1 (G.2.1 k) = 0) && !decide ((tk G k).2.1 (G.2.1 k) = G.2.2 k))) = false) ∧ ∀ t, t < 12 → S t &&& (if t = G.2.1 k then 7 else (tk G k).1 t) = (if t = G.2.1 k then (tk G k).2.1 t ||| G.2.2 k else (tk G k).2.1 t)) ↔ _
    rcases h1 (G.2.1 k) with hz | h7
    · have hn := h3 _ hz
      rw [dt hz, Bool.not_true, Bool.false_and, Bool.or_false]
      constructor
      · intro ⟨c, h⟩
        refine ⟨⟨c, fun t ht => ?_⟩, ?_⟩
        · by_cases e : t = G.2.1 k
          · rw [e, hz, hn, Nat.and_zero]
          · have := h t ht; rwa [if_neg e, if_neg e] at this
        · have := h _ b12; rwa [if_pos rfl, if_pos rfl, hn, Nat.zero_or, a7] at this
      · intro ⟨⟨c, h⟩, hv⟩
        refine ⟨c, fun t ht => ?_⟩
        by_cases e : t = G.2.1 k
        · rw [if_pos e, if_pos e, e, hn, Nat.zero_or, a7]; exact hv
        · rw [if_neg e, if_neg e]; exact h t ht
    · rw [df (by omega), Bool.not_false, Bool.true_and]
      by_cases hv : (tk G k).2.1 (G.2.1 k) = G.2.2 k
      · rw [dt hv, Bool.not_true, Bool.or_false]
        have hdig : ∀ t, (S t &&& (if t = G.2.1 k then 7 else (tk G k).1 t) = (if t = G.2.1 k then (tk G k).2.1 t ||| G.2.2 k else (tk G k).2.1 t)) ↔ S t &&& (tk G k).1 t = (tk G k).2.1 t := fun t => by
          by_cases e : t = G.2.1 k
          · rw [if_pos e, if_pos e, e, hv, h7, Nat.or_self]
          · rw [if_neg e, if_neg e]
        constructor
        · intro ⟨c, h⟩
          have h' : ∀ t, t < 12 → S t &&& (tk G k).1 t = (tk G k).2.1 t := fun t ht => (hdig t).mp (h t ht)
          have := h' _ b12
          rw [h7, a7, hv] at this
          exact ⟨⟨c, h'⟩, this⟩
        · intro ⟨⟨c, h⟩, _⟩
          exact ⟨c, fun t ht => (hdig t).mpr (h t ht)⟩
      · rw [df hv, Bool.not_false, Bool.or_true]
        constructor
        · intro ⟨c, _⟩; cases c
        · intro ⟨⟨c, h⟩, hS2⟩
          have := h _ b12
          rw [h7, a7, hS2] at this
          exact absurd this.symm hv
theorem hrd_iff (G : LG) (s : Nat → Nat) : ∀ r k, (hrd G s k r = true ↔ ∀ j, k ≤ j → j < k + r → s (G.2.1 j) = G.2.2 j)
  | 0, k => ⟨fun _ j h1 h2 => by omega, fun _ => rfl⟩
  | r + 1, k => by
    rw [hrd, Bool.and_eq_true, decide_eq_true_iff, hrd_iff G s r (k + 1)]
    constructor
    · intro h j h1 h2
      by_cases hjk : j = k
      · subst hjk; exact h.1
      · exact h.2 j (by omega) (by omega)
    · intro h
      exact ⟨h k (by omega) (by omega), fun j h1 h2 => h j (by omega) (by omega)⟩
theorem hrd_tk {G : LG} {S : Nat → Nat} (g : lgG G) (hS : ∀ t, S t < 8) : hrd G S 0 G.1 = (!(tk G G.1).2.2 && decide (dg (fun t => S t &&& (tk G G.1).1 t) 12 = dg (tk G G.1).2.1 12)) := by
  obtain ⟨h1, h2, h3⟩ := tk_rg g G.1 (Nat.le_refl _)
  rw [Bool.eq_iff_iff, hrd_iff, Bool.and_eq_true, Bool.not_eq_true', decide_eq_true_iff, dg_inj (fun t => and8 (hS t)) h2, tk_agrees g hS G.1 (Nat.le_refl _)]
  constructor
  · intro h j hj; exact h j (Nat.zero_le _) (by omega)
  · intro h j _ hj; exact h j (by omega)
end
