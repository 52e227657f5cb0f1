section
variable {X : Nat × (Nat → Int32)} {d : Nat} {al : List Nat} {D : Nat → Bool} {I : Nat → Nat → Int32} {L : Nat → Nat → Int64}
/-- where a stretch ends -/
def spn (P : Nat → Bool) : Nat → Nat → Nat
  | 0, p => p
  | r + 1, p => cond (P p) (spn P r (p + 1)) p
theorem spn_ge (P : Nat → Bool) : ∀ r p, p ≤ spn P r p
  | 0, p => Nat.le_refl p
  | r + 1, p => by
    rw [spn]
    cases P p
    · exact Nat.le_refl p
    · exact Nat.le_trans (Nat.le_succ p) (spn_ge P r (p + 1))
theorem spn_le (P : Nat → Bool) : ∀ r p, spn P r p ≤ p + r
  | 0, p => Nat.le_refl p
  | r + 1, p => by
    rw [spn]
    cases P p
    · show p ≤ p + (r + 1); omega
    · have := spn_le P r (p + 1); show spn P r (p + 1) ≤ p + (r + 1); omega
theorem spn_in {P : Nat → Bool} : ∀ r p k, p ≤ k → k < spn P r p → P k = true
  | 0, p, k, h1, h2 => by rw [spn] at h2; omega
  | r + 1, p, k, h1, h2 => by
    rw [spn] at h2
    cases hp : P p with
    | false => rw [hp, cond_false] at h2; omega
    | true =>
      rw [hp, cond_true] at h2
      by_cases e : k = p
      · rw [e]; exact hp
      · exact spn_in r (p + 1) k (by omega) h2
theorem spn_st {P : Nat → Bool} : ∀ r p, spn P r p < p + r → P (spn P r p) = false
  | 0, p, h => by rw [spn] at h; omega
  | r + 1, p, h => by
    rw [spn] at h ⊢
    cases hp : P p with
    | false => rw [cond_false]; exact hp
    | true =>
      rw [hp, cond_true] at h
      rw [cond_true]
      exact spn_st r (p + 1) (by omega)
def bl (T : Nat → Int32) (k : Nat) : Bool := decide (T k = 10) || decide (T k = 32)
def ltr (T : Nat → Int32) (k : Nat) : Bool := !decide (T k < 97) && !decide (122 < T k)
def dgi (T : Nat → Int32) (k : Nat) : Bool := !decide (T k < 48) && !decide (57 < T k)
def sk (T : Nat → Int32) (n p : Nat) : Nat := spn (bl T) (n - p) p
def te (T : Nat → Int32) (n p : Nat) : Nat := cond (ltr T p) (spn (ltr T) (n - (p + 1)) (p + 1)) (cond (dgi T p) (spn (dgi T) (n - (p + 1)) (p + 1)) (p + 1))
theorem sk_rg {T : Nat → Int32} {n p : Nat} (h : p ≤ n) : p ≤ sk T n p ∧ sk T n p ≤ n := by
  have := spn_ge (bl T) (n - p) p
  have := spn_le (bl T) (n - p) p
  unfold sk; omega
theorem te_rg {T : Nat → Int32} {n p : Nat} (h : p < n) : p < te T n p ∧ te T n p ≤ n := by
  have h1 := spn_ge (ltr T) (n - (p + 1)) (p + 1)
  have h2 := spn_le (ltr T) (n - (p + 1)) (p + 1)
  have h3 := spn_ge (dgi T) (n - (p + 1)) (p + 1)
  have h4 := spn_le (dgi T) (n - (p + 1)) (p + 1)
  unfold te
  cases ltr T p
  · cases dgi T p
    · show p < p + 1 ∧ p + 1 ≤ n; omega
    · show p < spn _ _ _ ∧ spn _ _ _ ≤ n; omega
  · show p < spn _ _ _ ∧ spn _ _ _ ≤ n; omega
theorem byt_rg {x : Int32} (h : byt x) : -128 ≤ x.toInt ∧ x.toInt < 128 := by
  have e : x.toInt = x.toInt8.toInt := by
    have : (x.toInt8.toInt32).toInt = x.toInt := congrArg Int32.toInt h
    rw [← this, Int8.toInt_toInt32]
  have h1 := Int8.le_toInt x.toInt8
  have h2 := Int8.toInt_lt x.toInt8
  omega
theorem and255 {x : Int32} (h : byt x) : (x &&& 255).toInt = if x.toInt < 0 then x.toInt + 256 else x.toInt := by
  have hr := byt_rg h
  have hx : x.toInt = if 2 * x.toBitVec.toNat < 2 ^ 32 then (x.toBitVec.toNat : Int) else x.toBitVec.toNat - (2 ^ 32 : Nat) := BitVec.toInt_eq_toNat_cond _
  have hb := x.toBitVec.isLt
  have h1 : (x &&& 255).toBitVec.toNat = x.toBitVec.toNat % 256 := by
    show (x.toBitVec &&& 255#32).toNat = _
    rw [BitVec.toNat_and, show (255#32).toNat = 2 ^ 8 - 1 from rfl, Nat.and_two_pow_sub_one_eq_mod]
  have h2 : (x &&& 255).toInt = (x &&& 255).toBitVec.toNat := BitVec.toInt_eq_toNat_of_lt (by rw [h1]; omega)
  rw [h2, h1]
  split at hx <;> split <;> omega
/-- what the class's reader has at hand -/
def tpC (I : Nat → Nat → Int32) (T : Nat → Int32) (n : Nat) : Prop := I 34 7 = Int32.ofNat n ∧ n ≤ 600 ∧ ∀ k, k < 600 → I 3 k = T k
theorem k_skip {T : Nat → Int32} {n p : Nat} (h : tpC I T n) (hp : p ≤ n) : Cl X (d + 1) 65 [vr 34, vi (Int32.ofNat p)] (pm_mm al (pm_tb 7 D) I L) = some (some (vi (Int32.ofNat (sk T n p))), pm_mm al (pm_tb 7 D) I L) := by
  obtain ⟨e7, hn, eT⟩ := h
  rw [Cl_s]
  show Rn X d co_Re_skipBlanks (0, [some (vr 34), some (vi (Int32.ofNat p)), none], [], pm_mm al (pm_tb 7 D) I L) = _
  rw [sg_Re_skipBlanks_0, sk]
  suffices key : ∀ r p o1, p + r = n → Rn X d co_Re_skipBlanks (2, [some (vr 34), o1, some (vi (Int32.ofNat p))], [], pm_mm al (pm_tb 7 D) I L) = some (some (vi (Int32.ofNat (spn (bl T) r p))), pm_mm al (pm_tb 7 D) I L) from key (n - p) p _ (by omega)
  intro r
  induction r with
  | zero =>
    intro p o1 hr
    rw [sg_Re_skipBlanks_2, e7, n_dle (by omega) (by omega), dt (by omega), cond_true, sg_Re_skipBlanks_38, spn]
  | succ r ih =>
    intro p o1 hr
    rw [sg_Re_skipBlanks_2, e7, n_dle (by omega) (by omega), df (by omega), cond_false, n_in (by omega), dt (by omega), cond_true, cond_true, n_tn (by omega), eT p (by omega), sg_Re_skipBlanks_32, n_s, ih (p + 1) _ (by omega), sg_Re_skipBlanks_38, spn, bl]
    cases decide (T p = 10) <;> cases decide (T p = 32) <;> simp only [cond_true, cond_false, Bool.true_or, Bool.false_or]
theorem k_isLetter {T : Nat → Int32} {n p : Nat} (h : tpC I T n) (hp : p < n) : Cl X (d + 1) 66 [vr 34, vi (Int32.ofNat p)] (pm_mm al (pm_tb 7 D) I L) = some (some (vi (b01 (ltr T p))), pm_mm al (pm_tb 7 D) I L) := by
  obtain ⟨e7, hn, eT⟩ := h
  rw [Cl_s]
  show Rn X d co_Re_isLetter (0, [some (vr 34), some (vi (Int32.ofNat p))], [], pm_mm al (pm_tb 7 D) I L) = _
  rw [sg_Re_isLetter_0, n_in (by omega), dt (by omega), cond_true, cond_true, n_tn (by omega), eT p (by omega), sg_Re_isLetter_26, sg_Re_isLetter_27, sg_Re_isLetter_27, show pm_01 1 = true from rfl, show pm_01 0 = true from rfl, cond_true, cond_true, ltr]
  cases decide (T p < 97) <;> cases decide (122 < T p) <;> simp only [cond_true, cond_false, Bool.not_true, Bool.not_false, Bool.and_true, Bool.and_false, Bool.false_and, Bool.true_and, b01]
theorem k_isDigit {T : Nat → Int32} {n p : Nat} (h : tpC I T n) (hp : p < n) : Cl X (d + 1) 67 [vr 34, vi (Int32.ofNat p)] (pm_mm al (pm_tb 7 D) I L) = some (some (vi (b01 (dgi T p))), pm_mm al (pm_tb 7 D) I L) := by
  obtain ⟨e7, hn, eT⟩ := h
  rw [Cl_s]
  show Rn X d co_Re_isDigit (0, [some (vr 34), some (vi (Int32.ofNat p))], [], pm_mm al (pm_tb 7 D) I L) = _
  rw [sg_Re_isDigit_0, n_in (by omega), dt (by omega), cond_true, cond_true, n_tn (by omega), eT p (by omega), sg_Re_isDigit_26, sg_Re_isDigit_27, sg_Re_isDigit_27, show pm_01 1 = true from rfl, show pm_01 0 = true from rfl, cond_true, cond_true, dgi]
  cases decide (T p < 48) <;> cases decide (57 < T p) <;> simp only [cond_true, cond_false, Bool.not_true, Bool.not_false, Bool.and_true, Bool.and_false, Bool.false_and, Bool.true_and, b01]
theorem k_tokenEnd {T : Nat → Int32} {n p : Nat} (h : tpC I T n) (hp : p < n) : Cl X (d + 2) 68 [vr 34, vi (Int32.ofNat p)] (pm_mm al (pm_tb 7 D) I L) = some (some (vi (Int32.ofNat (te T n p))), pm_mm al (pm_tb 7 D) I L) := by
  have h0 := h
  obtain ⟨e7, hn, eT⟩ := h
  rw [Cl_s]
  show Rn X (d + 1) co_Re_tokenEnd (0, [some (vr 34), some (vi (Int32.ofNat p)), none], [], pm_mm al (pm_tb 7 D) I L) = _
  have kl : ∀ r p o1, p + r = n → Rn X (d + 1) co_Re_tokenEnd (12, [some (vr 34), o1, some (vi (Int32.ofNat p))], [], pm_mm al (pm_tb 7 D) I L) = some (some (vi (Int32.ofNat (spn (ltr T) r p))), pm_mm al (pm_tb 7 D) I L) := fun r => by
    induction r with
    | zero =>
      intro p o1 hr
      rw [sg_Re_tokenEnd_12, e7, n_dle (by omega) (by omega), dt (by omega), cond_true, sg_Re_tokenEnd_64, spn]
    | succ r ih =>
      intro p o1 hr
      rw [sg_Re_tokenEnd_12, e7, n_dle (by omega) (by omega), df (by omega), cond_false, k_isLetter h0 (by omega)]
      simp only [Option.bind_some, pm_ai]
      rw [sg_Re_tokenEnd_25, b01_ne, n_s, ih (p + 1) _ (by omega), sg_Re_tokenEnd_64, spn]
      cases ltr T p <;> simp only [cond_true, cond_false, Bool.not_true, Bool.not_false]
  have kd : ∀ r p o1, p + r = n → Rn X (d + 1) co_Re_tokenEnd (42, [some (vr 34), o1, some (vi (Int32.ofNat p))], [], pm_mm al (pm_tb 7 D) I L) = some (some (vi (Int32.ofNat (spn (dgi T) r p))), pm_mm al (pm_tb 7 D) I L) := fun r => by
    induction r with
    | zero =>
      intro p o1 hr
      rw [sg_Re_tokenEnd_42, e7, n_dle (by omega) (by omega), dt (by omega), cond_true, sg_Re_tokenEnd_64, spn]
    | succ r ih =>
      intro p o1 hr
      rw [sg_Re_tokenEnd_42, e7, n_dle (by omega) (by omega), df (by omega), cond_false, k_isDigit h0 (by omega)]
      simp only [Option.bind_some, pm_ai]
      rw [sg_Re_tokenEnd_55, b01_ne, n_s, ih (p + 1) _ (by omega), sg_Re_tokenEnd_64, spn]
      cases dgi T p <;> simp only [cond_true, cond_false, Bool.not_true, Bool.not_false]
  rw [sg_Re_tokenEnd_0, k_isLetter h0 hp]
  simp only [Option.bind_some, pm_ai]
  rw [sg_Re_tokenEnd_9, b01_ne, k_isDigit h0 hp]
  simp only [Option.bind_some, pm_ai]
  rw [sg_Re_tokenEnd_39, b01_ne, n_s, kl (n - (p + 1)) (p + 1) _ (by omega), kd (n - (p + 1)) (p + 1) _ (by omega), sg_Re_tokenEnd_64, te]
  cases ltr T p <;> cases dgi T p <;> simp only [cond_true, cond_false, Bool.not_true, Bool.not_false]
end
