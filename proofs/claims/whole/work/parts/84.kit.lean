section
theorem df {p : Prop} [Decidable p] (h : ¬ p) : decide p = false := decide_eq_false h
theorem dt {p : Prop} [Decidable p] (h : p) : decide p = true := decide_eq_true h
theorem n_mul (a b : Nat) : Int32.ofNat a * Int32.ofNat b = Int32.ofNat (a * b) := (Int32.ofNat_mul a b).symm
theorem n_sub {a b : Nat} (h : b ≤ a) : Int32.ofNat a - Int32.ofNat b = Int32.ofNat (a - b) := by
  have h1 : Int32.ofNat a = Int32.ofNat (a - b) + Int32.ofNat b := by rw [n_add, Nat.sub_add_cancel h]
  rw [h1, Int32.add_sub_cancel]
theorem n_div {a b : Nat} (ha : a < 2147483648) (hb0 : 0 < b) (hb : b < 2147483648) : Int32.ofNat a / Int32.ofNat b = Int32.ofNat (a / b) := by
  have hle : a / b ≤ a := Nat.div_le_self a b
  have h1 : ((a : Int).tdiv b) = ((a / b : Nat) : Int) := by rw [Int.tdiv_eq_ediv_of_nonneg (Int.natCast_nonneg a)]; exact (Int.natCast_ediv a b).symm
  rw [t_eq, Int32.toInt_div, n_ti ha, n_ti hb, n_ti (by omega), h1]
  clear h1
  generalize a / b = q at hle ⊢
  exact bm (by omega) (by omega)
theorem n_rem {a b : Nat} (ha : a < 2147483648) (hb0 : 0 < b) (hb : b < 2147483648) : Int32.ofNat a - Int32.ofNat a / Int32.ofNat b * Int32.ofNat b = Int32.ofNat (a % b) := by
  have h1 := Nat.div_add_mod a b
  rw [Nat.mul_comm] at h1
  rw [n_div ha hb0 hb, n_mul, n_sub (by omega)]
  congr 1; omega
theorem up_ne {α : Type} {f : Nat → Nat → α} {a j b k : Nat} {x : α} (h : ¬ (b = a ∧ k = j)) : pm_up f a j x b k = f b k := if_neg h
theorem up_eq {α : Type} {f : Nat → Nat → α} {a j : Nat} {x : α} : pm_up f a j x a j = x := if_pos ⟨rfl, rfl⟩
theorem up_rw {α : Type} {f : Nat → Nat → α} {a j b : Nat} {x : α} (h : ¬ b = a) : pm_up f a j x b = f b := by funext k; exact if_neg (fun c => h c.1)
theorem ups_ne {α : Type} {f : Nat → Nat → α} {a b k : Nat} {g : Nat → α} (h : ¬ b = a) : pm_ups f a g b k = f b k := if_neg h
theorem ups_rw {α : Type} {f : Nat → Nat → α} {a b : Nat} {g : Nat → α} (h : ¬ b = a) : pm_ups f a g b = f b := by funext k; exact if_neg h
theorem ups_eq {α : Type} {f : Nat → Nat → α} {a : Nat} {g : Nat → α} : pm_ups f a g a = g := by funext k; exact if_pos rfl
theorem fo_shift {σ : Type} (f : Nat → σ → σ) (s : σ) : ∀ n, fo f (n + 1) s = fo (fun k => f (k + 1)) n (f 0 s)
  | 0 => rfl
  | n + 1 => by rw [fo, fo_shift f s n]; rfl
/-- numbers below 2^12, 2^6 by their bits -/
theorem sm_n {x : Int32} {n : Nat} (hn : n ≤ 12) (h : ∀ k, k < 32 → tb x k = true → k < n) : 0 ≤ x.toInt ∧ x.toInt < 2 ^ n := by
  have h1 : x.toBitVec.toNat < 2 ^ n := by
    apply Nat.lt_pow_two_of_testBit
    intro i hi
    have e : x.toBitVec.toNat.testBit i = x.toBitVec.getLsbD i := rfl
    rw [e]
    by_cases h32 : i < 32
    · cases hb : x.toBitVec.getLsbD i with
      | false => rfl
      | true => have := h i h32 hb; omega
    · exact BitVec.getLsbD_of_ge _ _ (by omega)
  have hp : 2 ^ n ≤ 2 ^ 12 := Nat.pow_le_pow_right (by decide) hn
  have h2 : x.toInt = x.toBitVec.toNat := BitVec.toInt_eq_toNat_of_lt (by omega)
  have h3 : ((2 ^ n : Nat) : Int) = (2 : Int) ^ n := by simp
  omega
/-- small: fit for bitCount -/
def sma (x : Int32) : Prop := 0 ≤ x.toInt ∧ x.toInt < 4096
theorem sma_b {x : Int32} {n : Nat} (hn : n ≤ 12) (h : ∀ k, k < 32 → tb x k = true → k < n) : sma x :=
  sm_n (n := 12) (Nat.le_refl _) (fun k hk hb => Nat.lt_of_lt_of_le (h k hk hb) hn)
theorem tb_sma {x : Int32} (h : sma x) {k : Nat} (hk : 12 ≤ k) : tb x k = false := by
  obtain ⟨h1, h2⟩ := h
  have h3 : x.toInt = if 2 * x.toBitVec.toNat < 2 ^ 32 then (x.toBitVec.toNat : Int) else x.toBitVec.toNat - (2 ^ 32 : Nat) := BitVec.toInt_eq_toNat_cond _
  have hb := x.toBitVec.isLt
  have h4 : x.toBitVec.toNat < 2 ^ 12 := by split at h3 <;> omega
  show x.toBitVec.toNat.testBit k = false
  exact Nat.testBit_lt_two_pow (Nat.lt_of_lt_of_le h4 (Nat.pow_le_pow_right (by decide) hk))
theorem tb_zero {x : Int32} (h : ∀ k, k < 32 → tb x k = false) : x = 0 := tb_ext (fun k hk => by rw [h k hk, tb_0])
/-- the bits of a beat's draws -/
theorem dr_bits {w f br : Int32} {dw : Int32 → Int32} {rw : Nat → Int32} {n : Nat} (hn : n ≤ 6) (hp : ∀ i, i < n → ∃ p, p < n ∧ rw i = Int32.ofNat p) : ∀ i, i ≤ n → ∀ k, k < 32 →
    (tb (fo (dr1 w f br dw rw) i (br, 0, 0, 0)).2.1 k = true → k < n) ∧ (tb (fo (dr1 w f br dw rw) i (br, 0, 0, 0)).2.2.1 k = true → k < n) ∧ (tb (fo (dr1 w f br dw rw) i (br, 0, 0, 0)).2.2.2 k = true → k < n) := by
  intro i
  induction i with
  | zero => intro _ k hk; simp only [fo, tb_0]; exact ⟨fun h => (by cases h), fun h => (by cases h), fun h => (by cases h)⟩
  | succ i ih =>
    intro hi k hk
    obtain ⟨p, hpn, ep⟩ := hp i (by omega)
    obtain ⟨q1, q2, q3⟩ := ih (by omega) k hk
    rw [fo]
    generalize fo (dr1 w f br dw rw) i (br, 0, 0, 0) = S at q1 q2 q3
    obtain ⟨s1, s2, s3, s4⟩ := S
    simp only at q1 q2 q3
    have hx : ∀ x : Int32, (tb x k = true → k < n) → tb (x ||| (1 <<< (Int32.ofNat p &&& 31))) k = true → k < n := fun x hx h => by
      rw [tb_or, tb_shl (by omega) hk, Bool.or_eq_true, decide_eq_true_iff] at h
      rcases h with h | h
      · exact hx h
      · omega
    simp only [dr1, ep]
    split
    · exact ⟨q1, q2, q3⟩
    · split
      · exact ⟨hx s2 q1, q2, q3⟩
      · refine ⟨q1, hx s3 q2, ?_⟩
        split
        · exact hx s4 q3
        · rw [Int32.or_zero]; exact q3
/-- behind each beat the sets have bits below the pipes alone -/
def psB (n : Nat) (s : PS) : Prop := ∀ k, k < 32 → (tb s.2.2.1 k = true → k < n) ∧ (tb s.2.2.2.1 k = true → k < n) ∧ (tb s.2.2.2.2.1 k = true → k < n) ∧ (tb s.2.2.2.2.2.1 k = true → k < n)
theorem ps_bits {B : PB} {w : Nat → Int32} {tr : Nat → Int32 → Bool} (hn : B.2.2.2.2.1 ≤ 6) (hp : ∀ i, i < B.2.2.2.2.1 → ∃ p, p < B.2.2.2.2.1 ∧ B.2.2.2.2.2.2 i = Int32.ofNat p) : ∀ t, psB B.2.2.2.2.1 (pst B w tr t)
  | 0 => fun k hk => by simp only [pst, tb_0]; exact ⟨fun h => (by cases h), fun h => (by cases h), fun h => (by cases h), fun h => (by cases h)⟩
  | t + 1 => fun k hk => by
    have ih := ps_bits (w := w) (tr := tr) hn hp t k hk
    rw [pst]
    generalize pst B w tr t = s at ih
    have hd := dr_bits (w := w t) (f := s.2.2.1) (br := nxa B (tr t s.1) s - nxl B (tr t s.1) s) (dw := B.2.2.2.2.2.1) hn hp B.2.2.2.2.1 (Nat.le_refl _) k hk
    have hd : (tb (nxd B (w t) (tr t s.1) s).2.1 k = true → k < B.2.2.2.2.1) ∧ (tb (nxd B (w t) (tr t s.1) s).2.2.1 k = true → k < B.2.2.2.2.1) ∧ (tb (nxd B (w t) (tr t s.1) s).2.2.2 k = true → k < B.2.2.2.2.1) := hd
    simp only [nx]
    refine ⟨fun h => ?_, hd.1, hd.2.1, hd.2.2⟩
    rw [tb_or, tb_and, Bool.or_eq_true, Bool.and_eq_true] at h
    rcases h with h | h
    · exact ih.1 h
    · exact hd.2.1 h.1
end
