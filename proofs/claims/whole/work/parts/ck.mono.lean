section
theorem wel_iff {g : Nat → Int32} : ∀ n k, well g k n = true ↔ ∀ j, k ≤ j → j < k + n → g j = 0
  | 0, k => ⟨fun _ j h1 h2 => by omega, fun _ => rfl⟩
  | n + 1, k => by
    rw [well, Bool.and_eq_true, decide_eq_true_iff, wel_iff n (k + 1)]
    constructor
    · rintro ⟨h1, h2⟩ j h3 h4
      by_cases h : j = k
      · rw [h]; exact h1
      · exact h2 j (by omega) (by omega)
    · intro h; exact ⟨h k (by omega) (by omega), fun j h1 h2 => h j (by omega) (by omega)⟩
theorem or_bit_ne {x : Int32} {p : Nat} (hp : p < 32) : x ||| (1 <<< (Int32.ofNat p &&& 31)) ≠ 0 := fun c => by
  have h : tb (x ||| (1 <<< (Int32.ofNat p &&& 31))) p = true := by rw [tb_or, tb_shl hp hp, dt rfl, Bool.or_true]
  rw [c, tb_0] at h; cases h
/-- fewer that want, no less air: none silent, no less left -/
theorem dr_mono {w w' br br' : Int32} {dw : Int32 → Int32} {rw : Nat → Int32} {n : Nat} (hp : ∀ i, i < n → ∃ p, p < 32 ∧ rw i = Int32.ofNat p) (hw : ∀ k, k < 32 → tb w k = true → tb w' k = true) (h0 : 0 ≤ br'.toInt) (hb : br'.toInt ≤ br.toInt) (hd : ∀ i, i < n → rg (dw (rw i)) 0 9) : ∀ i, i ≤ n → (fo (dr1 w' 0 br' dw rw) i (br', 0, 0, 0)).2.2.1 = 0 → (fo (dr1 w 0 br dw rw) i (br, 0, 0, 0)).2.2.1 = 0 ∧ (fo (dr1 w' 0 br' dw rw) i (br', 0, 0, 0)).1.toInt ≤ (fo (dr1 w 0 br dw rw) i (br, 0, 0, 0)).1.toInt
  | 0, _, _ => ⟨rfl, hb⟩
  | i + 1, hi, hz => by
    have ih := dr_mono hp hw h0 hb hd i (by omega)
    obtain ⟨d1, d2⟩ := hd i (by omega)
    obtain ⟨p, hp32, ep⟩ := hp i (by omega)
    obtain ⟨r1, r2⟩ := dr_air (w := w) (f := 0) (rw := rw) (show 0 ≤ br.toInt by omega) hd i (by omega)
    obtain ⟨r3, r4⟩ := dr_air (w := w') (f := 0) (rw := rw) h0 hd i (by omega)
    have t1 := t_rg br
    have t2 := t_rg br'
    rw [fo] at hz ⊢
    rw [fo]
    generalize fo (dr1 w' 0 br' dw rw) i (br', 0, 0, 0) = S' at ih hz r3 r4 ⊢
    generalize fo (dr1 w 0 br dw rw) i (br, 0, 0, 0) = S at ih r1 r2 ⊢
    rw [dr1] at hz ⊢
    rw [dr1]
    rw [ep, hs_tb _ hp32, hs_tb _ hp32, tb_0, Bool.or_false] at hz ⊢
    rw [hs_tb _ hp32, Bool.or_false]
    rw [ep] at d1 d2
    cases h' : tb w' p with
    | false =>
      have h : tb w p = false := by
        cases h : tb w p with
        | false => rfl
        | true => rw [hw p hp32 h] at h'; cases h'
      rw [h'] at hz
      rw [h]
      simp only [Bool.not_false, if_true] at hz ⊢
      exact ih hz
    | true =>
      rw [h'] at hz
      simp only [Bool.not_true, Bool.false_eq_true, if_false] at hz ⊢
      by_cases hc : dw (Int32.ofNat p) ≤ S'.1
      · rw [if_pos hc] at hz ⊢
        obtain ⟨i1, i2⟩ := ih hz
        have hc' := t_le.mp hc
        have e' : (S'.1 - dw (Int32.ofNat p)).toInt = S'.1.toInt - (dw (Int32.ofNat p)).toInt := t_sub (by omega) (by omega)
        cases h : tb w p with
        | false =>
          simp only [Bool.not_false, if_true]
          exact ⟨i1, by omega⟩
        | true =>
          simp only [Bool.not_true, Bool.false_eq_true, if_false]
          rw [if_pos (t_le.mpr (by omega))]
          have e : (S.1 - dw (Int32.ofNat p)).toInt = S.1.toInt - (dw (Int32.ofNat p)).toInt := t_sub (by omega) (by omega)
          exact ⟨i1, by show (S'.1 - _).toInt ≤ (S.1 - _).toInt; omega⟩
      · rw [if_neg hc] at hz
        exact absurd hz (or_bit_ne hp32)
theorem pst_mono {B : PB} {w w' : Nat → Int32} {set : Int32} (g : bG B) (hp : ∀ i, i < B.2.2.2.2.1 → ∃ p, p < 32 ∧ B.2.2.2.2.2.2 i = Int32.ofNat p) (hw : ∀ t, t < 12 → ∀ k, k < 32 → tb (w t) k = true → tb (w' t) k = true) : ∀ t, t ≤ 12 → (∀ u, u < t → (pst B w' (trd set (-1)) (u + 1)).2.2.2.2.1 = 0) →
    (pst B w (trd set (-1)) t).2.2.1 = 0 ∧ (pst B w' (trd set (-1)) t).2.2.1 = 0 ∧ (pst B w (trd set (-1)) t).2.1 = (pst B w' (trd set (-1)) t).2.1 ∧ (pst B w' (trd set (-1)) t).1.toInt ≤ (pst B w (trd set (-1)) t).1.toInt ∧ (pst B w (trd set (-1)) t).2.2.2.2.1 = 0
  | 0, _, _ => ⟨rfl, rfl, rfl, Int.le_refl _, rfl⟩
  | t + 1, ht, hz => by
    obtain ⟨h1, h2, h3, h4, h5⟩ := pst_mono g hp hw t (by omega) (fun u hu => hz u (by omega))
    have hz' := hz t (by omega)
    obtain ⟨n1, n2⟩ := air_nn (w := w) (tr := trd set (-1)) g t
    obtain ⟨n3, n4⟩ := air_nn (w := w') (tr := trd set (-1)) g t
    obtain ⟨⟨a1, a2⟩, ⟨b1, b2⟩, ⟨c1, c2⟩, hd⟩ := g
    rw [pst] at hz' ⊢
    rw [pst]
    simp only [trd_m1] at hz' ⊢
    generalize pst B w' (trd set (-1)) t = s' at h2 h3 h4 hz' n3 n4 ⊢
    generalize pst B w (trd set (-1)) t = s at h1 h3 h4 h5 n1 n2 ⊢
    generalize hs set (Int32.ofNat t) = tr at hz' ⊢
    have ec : nxc tr s' = nxc tr s := by rw [nxc, nxc, h3]
    have ef : nxf B tr s = nxf B tr s' := by rw [nxf, nxf, ec, h3]
    have ha : (nxa B tr s').toInt ≤ (nxa B tr s).toInt ∧ 0 ≤ (nxa B tr s').toInt ∧ (nxa B tr s).toInt ≤ 99 := by
      rw [nxa, nxa, ec]
      cases nxc tr s with
      | false => exact ⟨h4, n3, n2⟩
      | true =>
        have e : (s.1 + B.2.2.1).toInt = s.1.toInt + B.2.2.1.toInt := t_add (by omega) (by omega)
        have e' : (s'.1 + B.2.2.1).toInt = s'.1.toInt + B.2.2.1.toInt := t_add (by omega) (by omega)
        rw [cond_true, cond_true, mn_ti, mn_ti, e, e']
        split <;> split <;> omega
    have hl : (nxa B tr s' - nxl B tr s').toInt ≤ (nxa B tr s - nxl B tr s).toInt ∧ 0 ≤ (nxa B tr s' - nxl B tr s').toInt := by
      have l1 : (nxl B tr s).toInt = if B.2.1.toInt < (nxa B tr s).toInt then B.2.1.toInt else (nxa B tr s).toInt := by rw [nxl, mn_ti]
      have l2 : (nxl B tr s').toInt = if B.2.1.toInt < (nxa B tr s').toInt then B.2.1.toInt else (nxa B tr s').toInt := by rw [nxl, mn_ti]
      have e1 : (nxa B tr s - nxl B tr s).toInt = (nxa B tr s).toInt - (nxl B tr s).toInt := t_sub (by split at l1 <;> omega) (by split at l1 <;> omega)
      have e2 : (nxa B tr s' - nxl B tr s').toInt = (nxa B tr s').toInt - (nxl B tr s').toInt := t_sub (by split at l2 <;> omega) (by split at l2 <;> omega)
      rw [e1, e2]
      split at l1 <;> split at l2 <;> omega
    have hz2 : (dr (w' t) 0 (nxa B tr s' - nxl B tr s') B.2.2.2.2.2.1 B.2.2.2.2.2.2 B.2.2.2.2.1).2.2.1 = 0 := by
      have : (dr (w' t) s'.2.2.1 (nxa B tr s' - nxl B tr s') B.2.2.2.2.2.1 B.2.2.2.2.2.2 B.2.2.2.2.1).2.2.1 = 0 := hz'
      rw [h2] at this; exact this
    obtain ⟨m1, m2⟩ := dr_mono hp (hw t (by omega)) hl.2 hl.1 hd _ (Nat.le_refl _) hz2
    have k1 : (nxd B (w t) tr s).2.2.1 = 0 ∧ (nxd B (w' t) tr s').1.toInt ≤ (nxd B (w t) tr s).1.toInt := by
      rw [nxd, nxd, h1, h2]; exact ⟨m1, m2⟩
    refine ⟨?_, ?_, ef, k1.2, k1.1⟩
    · show s.2.2.1 ||| ((nxd B (w t) tr s).2.2.1 &&& s.2.2.2.2.1) = 0
      rw [h1, k1.1, Int32.zero_and]; rfl
    · show s'.2.2.1 ||| ((nxd B (w' t) tr s').2.2.1 &&& s'.2.2.2.2.1) = 0
      have : (nxd B (w' t) tr s').2.2.1 = 0 := hz'
      rw [h2, this, Int32.zero_and]; rfl
theorem well_mono {B : PB} {w w' : Nat → Int32} {set : Int32} (g : bG B) (hp : ∀ i, i < B.2.2.2.2.1 → ∃ p, p < 32 ∧ B.2.2.2.2.2.2 i = Int32.ofNat p) (hw : ∀ t, t < 12 → ∀ k, k < 32 → tb (w t) k = true → tb (w' t) k = true) (h : well (fun t => (pst B w' (trd set (-1)) (t + 1)).2.2.2.2.1) 0 12 = true) : well (fun t => (pst B w (trd set (-1)) (t + 1)).2.2.2.2.1) 0 12 = true := by
  rw [wel_iff] at h ⊢
  intro j _ hj
  exact (pst_mono g hp hw (j + 1) (by omega) (fun u hu => h u (by omega) (by omega))).2.2.2.2
theorem dr_none {br f : Int32} {dw : Int32 → Int32} {rw : Nat → Int32} {n : Nat} (hp : ∀ i, i < n → ∃ p, p < 32 ∧ rw i = Int32.ofNat p) : ∀ i, i ≤ n → fo (dr1 0 f br dw rw) i (br, 0, 0, 0) = (br, 0, 0, 0)
  | 0, _ => rfl
  | i + 1, hi => by
    obtain ⟨p, hp32, ep⟩ := hp i (by omega)
    rw [fo, dr_none hp i (by omega), dr1, ep, hs_tb _ hp32, tb_0, Bool.not_false, Bool.true_or, if_pos rfl]
theorem well_none {B : PB} {w : Nat → Int32} {tr : Nat → Int32 → Bool} (hp : ∀ i, i < B.2.2.2.2.1 → ∃ p, p < 32 ∧ B.2.2.2.2.2.2 i = Int32.ofNat p) (hw : ∀ t, w t = 0) : well (fun t => (pst B w tr (t + 1)).2.2.2.2.1) 0 12 = true := by
  rw [wel_iff]
  intro j _ _
  show (nxd B (w j) (tr j (pst B w tr j).1) (pst B w tr j)).2.2.1 = 0
  rw [nxd, hw, dr, dr_none hp _ (Nat.le_refl _)]
end
