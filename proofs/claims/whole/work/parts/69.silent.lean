section
/-- a row: the pipes below n, each once -/
def prm (rw : Nat → Int32) (n : Nat) : Prop := (∀ i, i < n → ∃ p, p < n ∧ rw i = Int32.ofNat p) ∧ (∀ p, p < n → ∃ i, i < n ∧ rw i = Int32.ofNat p) ∧ ∀ i j, i < n → j < n → rw i = rw j → i = j
theorem dr_inv {w f br : Int32} {dw : Int32 → Int32} {rw : Nat → Int32} {n : Nat} (hn : n ≤ 6) (hp : prm rw n) : ∀ i, i ≤ n → ∀ k, k < 32 →
    (tb (fo (dr1 w f br dw rw) i (br, 0, 0, 0)).2.1 k = true → ∃ j, j < i ∧ rw j = Int32.ofNat k) ∧
    (tb (fo (dr1 w f br dw rw) i (br, 0, 0, 0)).2.1 k = true → tb w k = true ∧ tb f k = false) ∧
    (tb (fo (dr1 w f br dw rw) i (br, 0, 0, 0)).2.2.1 k = true ↔ ((tb w k = true ∧ tb f k = false) ∧ (∃ j, j < i ∧ rw j = Int32.ofNat k) ∧ tb (fo (dr1 w f br dw rw) i (br, 0, 0, 0)).2.1 k = false)) := by
  intro i
  induction i with
  | zero =>
    intro _ k hk
    simp only [fo, tb_0]
    refine ⟨fun h => (by cases h), fun h => (by cases h), ⟨fun h => (by cases h), fun ⟨_, ⟨j, hj, _⟩, _⟩ => absurd hj (Nat.not_lt_zero j)⟩⟩
  | succ i ih =>
    intro hi k hk
    obtain ⟨p, hpn, ep⟩ := hp.1 i (by omega)
    obtain ⟨q1, q2, q3⟩ := ih (by omega) k hk
    have vis : (∃ j, j < i + 1 ∧ rw j = Int32.ofNat k) ↔ (∃ j, j < i ∧ rw j = Int32.ofNat k) ∨ p = k := by
      constructor
      · rintro ⟨j, hj, ej⟩
        by_cases h : j = i
        · subst h; right; rw [ep] at ej; exact (n_eq (by omega) (by omega)).mp ej
        · left; exact ⟨j, by omega, ej⟩
      · rintro (⟨j, hj, ej⟩ | h)
        · exact ⟨j, by omega, ej⟩
        · exact ⟨i, by omega, h ▸ ep⟩
    have nvis : ¬ ∃ j, j < i ∧ rw j = Int32.ofNat p := fun ⟨j, hj, ej⟩ => by
      have := hp.2.2 j i (by omega) (by omega) (ej.trans ep.symm); omega
    generalize hS : fo (dr1 w f br dw rw) i (br, 0, 0, 0) = S at q1 q2 q3
    obtain ⟨s1, s2, s3, s4⟩ := S
    rw [fo, hS, vis]
    simp only [dr1, ep, hs_tb w (show p < 32 by omega), hs_tb f (show p < 32 by omega)]
    simp only at q1 q2 q3
    by_cases hkp : p = k
    · subst hkp
      have n1 : tb s2 p = false := by
        cases h : tb s2 p with
        | false => rfl
        | true => exact absurd (q1 h) nvis
      have n2 : tb s3 p = false := by
        cases h : tb s3 p with
        | false => rfl
        | true => exact absurd (q3.mp h).2.1 nvis
      cases hw : tb w p <;> cases hf : tb f p <;> simp [n1, n2, hw, hf]
      split <;> simp [tb_or, tb_shl (show p < 32 by omega) (show p < 32 by omega), n1, n2]
    · have e : ∀ x : Int32, tb (x ||| (1 <<< (Int32.ofNat p &&& 31))) k = tb x k := fun x => by
        rw [tb_or, tb_shl (by omega) hk, decide_eq_false hkp, Bool.or_false]
      simp only [hkp, or_false]
      split
      · exact ⟨q1, q2, q3⟩
      · split
        · simp only [e]; exact ⟨q1, q2, q3⟩
        · simp only [e]; exact ⟨q1, q2, q3⟩
theorem dr_silent {w f br : Int32} {dw : Int32 → Int32} {rw : Nat → Int32} {n : Nat} (hn : n ≤ 6) (hp : prm rw n) (hw : ∀ k, k < 32 → tb w k = true → k < n) :
    (w &&& (f ^^^ (-1))) &&& ((dr w f br dw rw n).2.1 ^^^ (-1)) = (dr w f br dw rw n).2.2.1 := by
  apply tb_ext
  intro k hk
  obtain ⟨q1, q2, q3⟩ := dr_inv (w := w) (f := f) (br := br) (dw := dw) hn hp n (Nat.le_refl n) k hk
  have q3 : tb (dr w f br dw rw n).2.2.1 k = true ↔ ((tb w k = true ∧ tb f k = false) ∧ (∃ j, j < n ∧ rw j = Int32.ofNat k) ∧ tb (dr w f br dw rw n).2.1 k = false) := q3
  rw [tb_and, tb_and, tb_not _ hk, tb_not _ hk]
  cases h1 : tb w k with
  | false =>
    cases h : tb (dr w f br dw rw n).2.2.1 k with
    | false => rfl
    | true => have := (q3.mp h).1.1; rw [h1] at this; cases this
  | true =>
    have hv : ∃ j, j < n ∧ rw j = Int32.ofNat k := hp.2.1 k (hw k hk h1)
    cases h2 : tb f k <;> cases h3 : tb (dr w f br dw rw n).2.1 k <;> cases h : tb (dr w f br dw rw n).2.2.1 k <;> simp_all
/-- where none draws, nothing changes -/
theorem dr1_skip {w f br : Int32} {dw : Int32 → Int32} {rw : Nat → Int32} {i p : Nat} (hp : p < 32) (ep : rw i = Int32.ofNat p) (h : tb (w &&& (f ^^^ (-1))) p = false) (s : Int32 × Int32 × Int32 × Int32) : dr1 w f br dw rw i s = s := by
  rw [tb_and, tb_not _ hp] at h
  simp only [dr1, ep, hs_tb _ hp]
  rw [if_pos]
  cases h1 : tb w p <;> cases h2 : tb f p <;> simp_all
end
