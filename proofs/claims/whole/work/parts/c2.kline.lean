section
variable {X : Nat × (Nat → Int32)} {d : Nat} {al : List Nat} {D : Nat → Bool} {I : Nat → Nat → Int32} {L : Nat → Nat → Int64}
theorem dgi_rg {T : Nat → Int32} {k : Nat} (h : dgi T k = true) : T k = Int32.ofNat (T k).toNatClampNeg ∧ 48 ≤ (T k).toNatClampNeg ∧ (T k).toNatClampNeg ≤ 57 := by
  have e48 : (48 : Int32).toInt = 48 := rfl
  have e57 : (57 : Int32).toInt = 57 := rfl
  have e0 : (0 : Int32).toInt = 0 := rfl
  rw [dgi, Bool.and_eq_true, Bool.not_eq_true', Bool.not_eq_true', decide_eq_false_iff_not, decide_eq_false_iff_not, t_lt, t_lt] at h
  refine ⟨n_of (t_le.mpr (by omega)), ?_, ?_⟩ <;> (rw [t_tn]; omega)
theorem dgi_ltr {T : Nat → Int32} {k : Nat} (h : dgi T k = true) : ltr T k = false := by
  obtain ⟨h1, h2, h3⟩ := dgi_rg h
  rw [ltr, dt (by rw [h1]; exact (n_lt (b := 97) (by omega) (by omega)).mpr (by omega))]; rfl
theorem te_dig {T : Nat → Int32} {n b : Nat} (h : dgi T b = true) : ∀ k, b ≤ k → k < te T n b → dgi T k = true := fun k h1 h2 => by
  rw [te, dgi_ltr h, h, cond_false, cond_true] at h2
  by_cases e : k = b
  · rw [e]; exact h
  · exact spn_in _ _ k (by omega) h2
/-- a number's value -/
def nvl (T : Nat → Int32) (b : Nat) : Nat → Nat
  | 0 => 0
  | m + 1 => nvl T b m * 10 + (T (b + m)).toNatClampNeg - 48
theorem nvl_s {T : Nat → Int32} {b m : Nat} (h : dgi T (b + m) = true) (hm : nvl T b m < 100) : Int32.ofNat (nvl T b m) * 10 + T (b + m) - 48 = Int32.ofNat (nvl T b (m + 1)) := by
  obtain ⟨h1, h2, h3⟩ := dgi_rg h
  have e : Int32.ofNat (nvl T b m) * 10 = Int32.ofNat (nvl T b m * 10) := n_mul _ 10
  rw [e, h1, n_add, nvl]
  exact n_sub (b := 48) (by omega)
theorem nvl_le {T : Nat → Int32} {b n : Nat} (h : dgi T b = true) : ∀ m, m ≤ 2 → b + m ≤ te T n b → nvl T b m < 10 ^ m
  | 0, _, _ => by show 0 < 1; omega
  | m + 1, h1, h2 => by
    have ih := nvl_le (n := n) h m (by omega) (by omega)
    obtain ⟨_, g2, g3⟩ := dgi_rg (te_dig (n := n) h (b + m) (by omega) (by omega))
    have hp : 10 ^ (m + 1) = 10 ^ m * 10 := Nat.pow_succ ..
    rw [nvl, hp]; omega
/-- a fault and its place -/
def fC (f : Nat × Nat) (I : Nat → Nat → Int32) : Prop := f.1 < 100 ∧ f.2 ≤ 600 ∧ I 34 4 = Int32.ofNat f.1 ∧ (¬ f.1 = 0 → I 34 5 = Int32.ofNat f.2)
def mkf (f : Nat × Nat) (c b : Nat) : Nat × Nat := cond (decide (f.1 = 0)) (c, b) f
def mkr (f : Nat × Nat) (ok : Bool) (c b : Nat) : Nat × Nat := cond ok f (mkf f c b)
theorem fC_up {J : Nat → Nat → Int32} {f : Nat × Nat} (h : fC f I) (e : ∀ j, j = 4 ∨ j = 5 → J 34 j = I 34 j) : fC f J := ⟨h.1, h.2.1, (e 4 (by omega)).trans h.2.2.1, fun c => (e 5 (by omega)).trans (h.2.2.2 c)⟩
theorem k_mark {f : Nat × Nat} {c b : Nat} (h : fC f I) (hc : 1 ≤ c) (hc2 : c < 100) (hb : b ≤ 600) : ∃ J, Cl X (d + 1) 64 [vr 34, vi (Int32.ofNat c), vi (Int32.ofNat b)] (pm_mm al (pm_tb 7 D) I L) = some (none, pm_mm al (pm_tb 7 D) J L) ∧ (∀ a j, ¬ (a = 34 ∧ (j = 4 ∨ j = 5)) → J a j = I a j) ∧ fC (mkf f c b) J := by
  rw [Cl_s]
  show ∃ J, Rn X d co_Re_mark (0, [some (vr 34), some (vi (Int32.ofNat c)), some (vi (Int32.ofNat b))], [], pm_mm al (pm_tb 7 D) I L) = _ ∧ _
  obtain ⟨h1, h2, h3, h4⟩ := h
  rw [sg_Re_mark_0, h3, show decide (Int32.ofNat f.1 = 0) = decide (f.1 = 0) from n_deq (b := 0) (by omega) (by omega), sg_Re_mark_17, sg_Re_mark_17, mkf]
  by_cases hf : f.1 = 0
  · rw [dt hf, cond_true, cond_true]
    exact ⟨_, rfl, fun a j hn => by rw [up_ne (by omega), up_ne (by omega)], hc2, hb, by rw [up_ne (by omega), up_eq], fun _ => up_eq⟩
  · rw [df hf, cond_false, cond_false]
    exact ⟨I, rfl, fun _ _ _ => rfl, h1, h2, h3, h4⟩
theorem k_breakOff {b : Nat} : Cl X (d + 1) 63 [vr 34, vi (Int32.ofNat b)] (pm_mm al (pm_tb 7 D) I L) = some (none, pm_mm al (pm_tb 7 D) (pm_up (pm_up I 34 4 1) 34 5 (Int32.ofNat b)) L) := by
  rw [Cl_s]
  show Rn X d co_Re_breakOff (0, [some (vr 34), some (vi (Int32.ofNat b))], [], pm_mm al (pm_tb 7 D) I L) = _
  rw [sg_Re_breakOff_0]
def rng (w i v : Nat) : Bool := !decide (Int32.ofNat v < pm_sv 904 (w * 4 + i)) && decide (Int32.ofNat v ≤ pm_sv 905 (w * 4 + i))
/-- a token that is a number -/
def isn (T : Nat → Int32) (n b : Nat) : Bool := dgi T b && decide (te T n b - b ≤ 2)
def nvb (T : Nat → Int32) (n b : Nat) : Nat := nvl T b (te T n b - b)
theorem nvb_lt {T : Nat → Int32} {n b : Nat} (hb : b < n) (h : isn T n b = true) : nvb T n b < 100 := by
  rw [isn, Bool.and_eq_true, decide_eq_true_iff] at h
  have h1 := nvl_le (T := T) (n := n) h.1 (te T n b - b) h.2 (by have := te_rg (T := T) hb; omega)
  have h2 : 10 ^ (te T n b - b) ≤ 10 ^ 2 := Nat.pow_le_pow_right (by omega) h.2
  rw [nvb]; omega
theorem k_takeNumber {T : Nat → Int32} {n b w i : Nat} {f : Nat × Nat} (h : tpC I T n) (hb : b < n) (hw : w < 7) (hi : i < 4) (e8 : I 34 8 = Int32.ofNat w) (e9 : I 34 9 = Int32.ofNat i) (hf : fC f I) :
    (isn T n b = false → Cl X (d + 2) 74 [vr 34, vi (Int32.ofNat b), vi (Int32.ofNat (te T n b))] (pm_mm al (pm_tb 7 D) I L) = some (none, pm_mm al (pm_tb 7 D) (pm_up (pm_up I 34 4 1) 34 5 (Int32.ofNat b)) L))
    ∧ (isn T n b = true → ∃ J, Cl X (d + 2) 74 [vr 34, vi (Int32.ofNat b), vi (Int32.ofNat (te T n b))] (pm_mm al (pm_tb 7 D) I L) = some (none, pm_mm al (pm_tb 7 D) J L) ∧ (∀ a j, ¬ (a = 34 ∧ (j = 4 ∨ j = 5 ∨ j = 9)) → ¬ (a = 48 ∧ j = i) → J a j = I a j) ∧ fC (mkr f (rng w i (nvb T n b)) 2 b) J ∧ J 34 9 = Int32.ofNat (i + 1) ∧ J 48 i = Int32.ofNat (nvb T n b)) := by
  have h0 := h
  obtain ⟨e7, hn, eT⟩ := h
  have htr := te_rg (T := T) hb
  rw [Cl_s]
  show (_ → Rn X (d + 1) co_Re_takeNumber (0, [some (vr 34), some (vi (Int32.ofNat b)), some (vi (Int32.ofNat (te T n b))), none, none], [], pm_mm al (pm_tb 7 D) I L) = _) ∧ (_ → ∃ J, Rn X (d + 1) co_Re_takeNumber (0, [some (vr 34), some (vi (Int32.ofNat b)), some (vi (Int32.ofNat (te T n b))), none, none], [], pm_mm al (pm_tb 7 D) I L) = _ ∧ _)
  rw [sg_Re_takeNumber_0, k_isDigit h0 hb]
  simp only [Option.bind_some, pm_ai]
  rw [sg_Re_takeNumber_5, b01_ne, n_sub (by omega), show decide (Int32.ofNat (te T n b - b) ≤ 2) = decide (te T n b - b ≤ 2) from n_dle (b := 2) (by omega) (by omega), sg_Re_takeNumber_15, k_breakOff]
  simp only [Option.bind_some, pm_av]
  rw [sg_Re_takeNumber_20, isn]
  cases hd : dgi T b with
  | false => exact ⟨fun _ => by rw [Bool.not_false, cond_true], fun c => by rw [Bool.false_and] at c; cases c⟩
  | true =>
    rw [Bool.not_true, cond_false, Bool.true_and]
    cases h2 : decide (te T n b - b ≤ 2) with
    | false => exact ⟨fun _ => by rw [cond_false], fun c => by cases c⟩
    | true =>
      refine ⟨fun c => (by cases c), fun _ => ?_⟩
      have h2' := of_decide_eq_true h2
      rw [cond_true]
      have hl : ∀ r m, m + r = te T n b - b → Rn X (d + 1) co_Re_takeNumber (26, [some (vr 34), some (vi (Int32.ofNat b)), some (vi (Int32.ofNat (te T n b))), some (vi (Int32.ofNat (nvl T b m))), some (vi (Int32.ofNat (b + m)))], [], pm_mm al (pm_tb 7 D) I L) = Rn X (d + 1) co_Re_takeNumber (26, [some (vr 34), some (vi (Int32.ofNat b)), some (vi (Int32.ofNat (te T n b))), some (vi (Int32.ofNat (nvb T n b))), some (vi (Int32.ofNat (te T n b)))], [], pm_mm al (pm_tb 7 D) I L) := fun r => by
        induction r with
        | zero => intro m hm; rw [nvb, show te T n b - b = m by omega, show b + m = te T n b by omega]
        | succ r ih =>
          intro m hm
          have hlt := nvl_le (T := T) (n := n) hd m (by omega) (by omega)
          have h100 : 10 ^ m ≤ 10 ^ 2 := Nat.pow_le_pow_right (by omega) (by omega)
          rw [sg_Re_takeNumber_26, n_dle (by omega) (by omega), df (by omega), cond_false, n_in (by omega), dt (by omega), cond_true, n_tn (by omega), eT (b + m) (by omega), nvl_s (te_dig (n := n) hd (b + m) (by omega) (by omega)) (by omega), n_s]
          exact ih (m + 1) (by omega)
      have hl0 := hl (te T n b - b) 0 (by omega)
      have hl0 : Rn X (d + 1) co_Re_takeNumber (26, [some (vr 34), some (vi (Int32.ofNat b)), some (vi (Int32.ofNat (te T n b))), some (vi 0), some (vi (Int32.ofNat b))], [], pm_mm al (pm_tb 7 D) I L) = _ := hl0
      have hnv : nvb T n b < 100 := nvb_lt hb (by rw [isn, hd, h2]; rfl)
      have h4 : Int32.ofNat w * 4 = Int32.ofNat (w * 4) := n_mul w 4
      have fi : ∀ (J : Nat → Nat → Int32) (o4 : Option pm_V) (o1 o2 : Option pm_V), J 34 9 = Int32.ofNat i → Rn X (d + 1) co_Re_takeNumber (93, [some (vr 34), o1, o2, some (vi (Int32.ofNat (nvb T n b))), o4], [], pm_mm al (pm_tb 7 D) J L) = some (none, pm_mm al (pm_tb 7 D) (pm_up (pm_up J 48 i (Int32.ofNat (nvb T n b))) 34 9 (Int32.ofNat (i + 1))) L) := fun J o4 o1 o2 e => by
        rw [sg_Re_takeNumber_93, e, n_in (by omega), dt hi, cond_true, n_tn (by omega), n_s]
      obtain ⟨K, m1, m2, m3⟩ := k_mark (X := X) (d := d) (al := al) (D := D) (L := L) (c := 2) (b := b) hf (by omega) (by omega) (by omega)
      have m1 : Cl X (d + 1) 64 [vr 34, vi 2, vi (Int32.ofNat b)] (pm_mm al (pm_tb 7 D) I L) = some (none, pm_mm al (pm_tb 7 D) K L) := m1
      rw [hl0, sg_Re_takeNumber_26, n_dle (by omega) (by omega), dt (Nat.le_refl _), cond_true, e8, e9, h4, n_add (w * 4) i, n_in (by omega), dt (by omega), cond_true, cond_true, n_tn (by omega), sg_Re_takeNumber_87, m1]
      simp only [Option.bind_some, pm_av]
      rw [fi I _ _ _ e9, fi K _ _ _ ((m2 34 9 (by omega)).trans e9), mkr, rng]
      cases decide (Int32.ofNat (nvb T n b) < pm_sv 904 (w * 4 + i)) with
      | true =>
        refine ⟨_, by rw [cond_true], fun a j c1 c2 => ?_, ?_, ?_, ?_⟩
        · rw [up_ne (by omega), up_ne (by omega)]; exact m2 a j (by omega)
        · rw [Bool.not_true, Bool.false_and, cond_false]; exact fC_up m3 (fun j hj => by rw [up_ne (by omega), up_ne (by omega)])
        · rw [up_eq]
        · rw [up_ne (by omega), up_eq]
      | false =>
        rw [cond_false, Bool.not_false, Bool.true_and]
        cases decide (Int32.ofNat (nvb T n b) ≤ pm_sv 905 (w * 4 + i)) with
        | true =>
          refine ⟨_, by rw [cond_true], fun a j c1 c2 => ?_, ?_, ?_, ?_⟩
          · rw [up_ne (by omega), up_ne (by omega)]
          · rw [cond_true]; exact fC_up hf (fun j hj => by rw [up_ne (by omega), up_ne (by omega)])
          · rw [up_eq]
          · rw [up_ne (by omega), up_eq]
        | false =>
          refine ⟨_, by rw [cond_false], fun a j c1 c2 => ?_, ?_, ?_, ?_⟩
          · rw [up_ne (by omega), up_ne (by omega)]; exact m2 a j (by omega)
          · rw [cond_false]; exact fC_up m3 (fun j hj => by rw [up_ne (by omega), up_ne (by omega)])
          · rw [up_eq]
          · rw [up_ne (by omega), up_eq]
/-- how many lines of a word there may be; how many numbers it has -/
def lno (w : Nat) : Nat := match w with
  | 2 => 6
  | 3 => 8
  | 6 => 8
  | _ => 0
def nno (w : Nat) : Nat := match w with
  | 0 => 3
  | 1 => 1
  | 2 => 4
  | 3 => 3
  | 4 => 1
  | 5 => 1
  | _ => 2
theorem sv_lno {w : Nat} (hw : w < 7) : pm_sv 903 w = Int32.ofNat (lno w) ∧ lno w ≤ 8 ∧ pm_sv 902 w = Int32.ofNat (nno w) ∧ 1 ≤ nno w ∧ nno w ≤ 4 := by
  have hc : w = 0 ∨ w = 1 ∨ w = 2 ∨ w = 3 ∨ w = 4 ∨ w = 5 ∨ w = 6 := by omega
  rcases hc with c | c | c | c | c | c | c <;> subst c <;> exact ⟨rfl, by decide, rfl, by decide, by decide⟩
/-- lines behind a line's word, and its fault -/
def lnn (w ℓ : Nat) : Nat := cond (decide (lno w = 0)) ℓ (ℓ + 1)
def lnf (w ℓ : Nat) (f : Nat × Nat) (b : Nat) : Nat × Nat := mkr f (decide (lno w = 0) || decide (ℓ + 1 ≤ lno w)) 3 b
theorem k_openLine {b w ℓ : Nat} {f : Nat × Nat} (hw : w < 7) (hb : b ≤ 600) (hl : ℓ ≤ 600) (e10 : I 34 10 = Int32.ofNat ℓ) (hf : fC f I) : ∃ J, Cl X (d + 2) 73 [vr 34, vi (wi w), vi (Int32.ofNat b)] (pm_mm al (pm_tb 7 D) I L) = some (none, pm_mm al (pm_tb 7 D) J L) ∧ (∀ a j, ¬ (a = 34 ∧ (j = 4 ∨ j = 5 ∨ j = 8 ∨ j = 9 ∨ j = 10)) → J a j = I a j) ∧ fC (lnf w ℓ f b) J ∧ J 34 8 = Int32.ofNat w ∧ J 34 9 = Int32.ofNat 0 ∧ J 34 10 = Int32.ofNat (lnn w ℓ) := by
  rw [Cl_s, show wi w = Int32.ofNat w by rw [wi, df (by omega), cond_false]]
  show ∃ J, Rn X (d + 1) co_Re_openLine (0, [some (vr 34), some (vi (Int32.ofNat w)), some (vi (Int32.ofNat b))], [], pm_mm al (pm_tb 7 D) I L) = _ ∧ _
  obtain ⟨s1, s2, _⟩ := sv_lno hw
  have hm1 : decide (Int32.ofNat w = -1) = false := df (fun c => by rw [t_eq, n_ti (by omega), show (-1 : Int32).toInt = -1 from rfl] at c; omega)
  generalize hK : pm_up (pm_up (pm_up I 34 8 (Int32.ofNat w)) 34 9 0) 34 10 (Int32.ofNat (ℓ + 1)) = K
  have k1 : ∀ a j, ¬ (a = 34 ∧ (j = 8 ∨ j = 9 ∨ j = 10)) → K a j = I a j := fun a j h => by rw [← hK, up_ne (by omega), up_ne (by omega), up_ne (by omega)]
  have k8 : K 34 8 = Int32.ofNat w := by rw [← hK, up_ne (by omega), up_ne (by omega), up_eq]
  have k9 : K 34 9 = Int32.ofNat 0 := by rw [← hK, up_ne (by omega), up_eq]; rfl
  have k10 : K 34 10 = Int32.ofNat (ℓ + 1) := by rw [← hK, up_eq]
  obtain ⟨J, m1, m2, m3⟩ := k_mark (X := X) (d := d) (al := al) (D := D) (I := K) (L := L) (c := 3) (b := b) (fC_up hf (fun j hj => k1 34 j (by omega))) (by omega) (by omega) hb
  have m1 : Cl X (d + 1) 64 [vr 34, vi 3, vi (Int32.ofNat b)] (pm_mm al (pm_tb 7 D) K L) = some (none, pm_mm al (pm_tb 7 D) J L) := m1
  rw [sg_Re_openLine_0, hm1, cond_false, n_in (by omega), dt hw, cond_true, cond_true, n_tn (by omega), s1, show decide (Int32.ofNat (lno w) ≤ 0) = decide (lno w ≤ 0) from n_dle (b := 0) (by omega) (by omega), e10, n_s, n_dle (by omega) (by omega), hK, m1]
  simp only [Option.bind_some, pm_av]
  rw [sg_Re_openLine_63, sg_Re_openLine_63, sg_Re_openLine_63, lnf, lnn, mkr]
  by_cases h0 : lno w = 0
  · rw [dt (show lno w ≤ 0 by omega), dt h0, cond_true, Bool.true_or, cond_true, cond_true]
    refine ⟨_, rfl, fun a j h => by rw [up_ne (by omega), up_ne (by omega)], fC_up hf (fun j hj => by rw [up_ne (by omega), up_ne (by omega)]), by rw [up_ne (by omega), up_eq], up_eq, by rw [up_ne (by omega), up_ne (by omega)]; exact e10⟩
  · rw [df (show ¬ lno w ≤ 0 by omega), df h0, cond_false, Bool.false_or, cond_false]
    by_cases h1 : ℓ + 1 ≤ lno w
    · rw [dt h1, cond_true, cond_true]
      exact ⟨K, rfl, fun a j h => k1 a j (by omega), fC_up hf (fun j hj => k1 34 j (by omega)), k8, k9, k10⟩
    · rw [df h1, cond_false, cond_false]
      exact ⟨J, rfl, fun a j h => by rw [m2 a j (by omega), k1 a j (by omega)], m3, (m2 _ _ (by omega)).trans k8, (m2 _ _ (by omega)).trans k9, (m2 _ _ (by omega)).trans k10⟩
theorem k_openNone {b : Nat} : Cl X (d + 2) 73 [vr 34, vi (wi 7), vi (Int32.ofNat b)] (pm_mm al (pm_tb 7 D) I L) = some (none, pm_mm al (pm_tb 7 D) (pm_up (pm_up I 34 4 1) 34 5 (Int32.ofNat b)) L) := by
  rw [Cl_s]
  show Rn X (d + 1) co_Re_openLine (0, [some (vr 34), some (vi (-1)), some (vi (Int32.ofNat b))], [], pm_mm al (pm_tb 7 D) I L) = _
  rw [sg_Re_openLine_0, show decide ((-1 : Int32) = -1) = true from rfl, cond_true, k_breakOff]
  simp only [Option.bind_some, pm_av]
  rw [sg_Re_openLine_10]
end
