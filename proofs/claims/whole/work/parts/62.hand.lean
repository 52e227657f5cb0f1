section
variable {X : Nat × (Nat → Int32)} {d : Nat} {al : List Nat} {D : Nat → Bool} {I : Nat → Nat → Int32} {L : Nat → Nat → Int64}
theorem bm {z : Int} (h1 : -2147483648 ≤ z) (h2 : z < 2147483648) : z.bmod 4294967296 = z := by
  rw [Int.bmod_def]; split <;> omega
theorem t_add {x y : Int32} (h1 : -2147483648 ≤ x.toInt + y.toInt) (h2 : x.toInt + y.toInt < 2147483648) : (x + y).toInt = x.toInt + y.toInt := (Int32.toInt_add x y).trans (bm h1 h2)
theorem t_sub {x y : Int32} (h1 : -2147483648 ≤ x.toInt - y.toInt) (h2 : x.toInt - y.toInt < 2147483648) : (x - y).toInt = x.toInt - y.toInt := (Int32.toInt_sub x y).trans (bm h1 h2)
theorem t_mul {x y : Int32} (h1 : -2147483648 ≤ x.toInt * y.toInt) (h2 : x.toInt * y.toInt < 2147483648) : (x * y).toInt = x.toInt * y.toInt := (Int32.toInt_mul x y).trans (bm h1 h2)
theorem t_lt {x y : Int32} : (x < y) ↔ x.toInt < y.toInt := Int32.lt_iff_toInt_lt
theorem t_le {x y : Int32} : (x ≤ y) ↔ x.toInt ≤ y.toInt := Int32.le_iff_toInt_le
theorem t_eq {x y : Int32} : (x = y) ↔ x.toInt = y.toInt := Int32.toInt_inj.symm
theorem t_rg (x : Int32) : -2147483648 ≤ x.toInt ∧ x.toInt < 2147483648 := ⟨Int32.le_toInt x, Int32.toInt_lt x⟩
theorem t_tn (x : Int32) : x.toNatClampNeg = x.toInt.toNat := rfl
theorem n_of {x : Int32} (h : 0 ≤ x) : x = Int32.ofNat x.toNatClampNeg := by
  rw [t_eq, n_ti (by have := t_rg x; rw [t_tn]; omega), t_tn]
  have h : (0 : Int32).toInt ≤ x.toInt := t_le.mp h
  have h0 : (0 : Int32).toInt = 0 := rfl
  omega
theorem in_iff {k : Int32} {m : Nat} : pm_in k m = true ↔ 0 ≤ k.toInt ∧ k.toInt < m := by
  have h0 : (0 : Int32).toInt = 0 := rfl
  rw [pm_in, Bool.and_eq_true, decide_eq_true_iff, decide_eq_true_iff, t_le, t_tn]; omega
theorem in_m {k : Int32} {m : Nat} (hm : m < 2147483648) : (if 0 ≤ k ∧ k ≤ Int32.ofNat m - 1 then (1 : Int32) else 0) = b01 (pm_in k m) := by
  have h0 : (0 : Int32).toInt = 0 := rfl
  have h1 : (1 : Int32).toInt = 1 := rfl
  have hm2 := n_ti hm
  have hs : (Int32.ofNat m - 1).toInt = m - 1 := by rw [t_sub (by omega) (by omega), hm2, h1]
  cases h : pm_in k m with
  | true => rw [in_iff] at h; rw [if_pos]; rfl; rw [t_le, t_le]; omega
  | false =>
    have h : ¬ pm_in k m = true := by rw [h]; decide
    rw [in_iff] at h; rw [if_neg]; rfl; rw [t_le, t_le]; omega
theorem c_is {s m : Nat} (k : Int32) (hs : s < 16) (hm : m < 2147483648) (e : I 86 s = Int32.ofNat m) : Cl X (d + 2) 172 [vr 81, vi (Int32.ofNat s), vi k] (pm_mm al D I L) = some (some (vi (b01 (pm_in k m))), pm_mm al D I L) := by
  rw [Cl_s]
  show Rn X (d + 1) co_Mo_is (0, [some (vr 81), some (vi (Int32.ofNat s)), some (vi k)], [], pm_mm al D I L) = _
  rw [sg_Mo_is_0, n_in (by omega), n_tn (by omega), decide_eq_true hs, cond_true, e, c_in, in_m hm]
  simp only [Option.bind_some, pm_ai, sg_Mo_is_13, p01, cond_true]
theorem c_isPipe {n : Nat} (k : Int32) (hn : n < 2147483648) (e : I 81 25 = Int32.ofNat n) : Cl X (d + 2) 197 [vr 81, vi k] (pm_mm al D I L) = some (some (vi (b01 (pm_in k n))), pm_mm al D I L) := by
  rw [Cl_s]
  show Rn X (d + 1) co_Mo_isPipe (0, [some (vr 81), some (vi k)], [], pm_mm al D I L) = _
  rw [sg_Mo_isPipe_0, e, c_in, in_m hn]
  simp only [Option.bind_some, pm_ai, sg_Mo_isPipe_11, p01, cond_true]
/-- asTold: the frame, and what then stands -/
def atS (a j : Nat) : Prop := (a = 81 ∧ 27 ≤ j ∧ j ≤ 29) ∨ a = 94
theorem c_asTold {b : Nat} (hb : b < 8) (e : I 81 23 = Int32.ofNat b) : ∃ J, Cl X (d + 2) 207 [vr 81] (pm_mm al D I L) = some (none, pm_mm al D J L) ∧ (∀ a j, ¬ atS a j → J a j = I a j)
    ∧ J 81 27 = I 87 (29 * b + 1) ∧ J 81 28 = I 87 (29 * b + 3) ∧ J 81 29 = I 87 (29 * b + 4) ∧ ∀ p, p < 6 → J 94 p = Int32.ofNat p := by
  rw [Cl_s]
  show ∃ J, Rn X (d + 1) co_Mo_asTold (0, [some (vr 81), none], [], pm_mm al D I L) = _ ∧ _
  have o1 := c_of (X := X) (d := d) (al := al) (D := D) (L := L) hb (k := 1) (by omega) e
  have o3 := c_of (X := X) (d := d) (al := al) (D := D) (L := L) (I := pm_up I 81 27 (I 87 (29 * b + 1))) hb (k := 3) (by omega) e
  have o4 := c_of (X := X) (d := d) (al := al) (D := D) (L := L) (I := pm_up (pm_up I 81 27 (I 87 (29 * b + 1))) 81 28 (I 87 (29 * b + 3))) hb (k := 4) (by omega) e
  have o1 : Cl X (d + 1) 195 [vr 81, vi 1] _ = _ := o1
  have o3 : Cl X (d + 1) 195 [vr 81, vi 3] _ = some (some (vi (I 87 (29 * b + 3))), _) := o3
  have o4 : Cl X (d + 1) 195 [vr 81, vi 4] _ = some (some (vi (I 87 (29 * b + 4))), _) := o4
  simp only [sg_Mo_asTold_0, o1, Option.bind_some, pm_ai, sg_Mo_asTold_6, o3, sg_Mo_asTold_15, o4, sg_Mo_asTold_24]
  generalize hK : pm_up (pm_up (pm_up I 81 27 (I 87 (29 * b + 1))) 81 28 (I 87 (29 * b + 3))) 81 29 (I 87 (29 * b + 4)) = K
  obtain ⟨J, e1, e2, e3⟩ := lp 6 (fun p J => Rn X (d + 1) co_Mo_asTold (29, [some (vr 81), some (vi (Int32.ofNat p))], [], pm_mm al D J L))
    (fun k J => (∀ a j, a ≠ 94 → J a j = K a j) ∧ ∀ p, p < k → J 94 p = Int32.ofNat p)
    (fun p J hp hq => ⟨pm_up J 94 p (Int32.ofNat p), by
      have h0 : decide ((6 : Int32) ≤ Int32.ofNat p) = false := (n_dle (a := 6) (by decide) (by omega)).trans (decide_eq_false (by omega))
      show Rn X (d + 1) co_Mo_asTold _ = _
      rw [sg_Mo_asTold_29, h0, cond_false, n_in (by omega), decide_eq_true hp, cond_true, n_tn (by omega), n_s], by
      intro a j ha
      rw [pm_up, if_neg (by omega)]; exact hq.1 a j ha, by
      intro u hu
      by_cases h : u = p
      · subst h; simp [pm_up]
      · rw [pm_up, if_neg (by omega)]; exact hq.2 u (by omega)⟩) 0 K (Nat.zero_le 6) ⟨fun _ _ _ => rfl, fun p hp => absurd hp (Nat.not_lt_zero p)⟩
  have kk : ∀ a j, ¬ atS a j → J a j = I a j := fun a j h => by
    unfold atS at h
    rw [e2 a j (by omega), ← hK, pm_up, if_neg (by omega), pm_up, if_neg (by omega), pm_up, if_neg (by omega)]
  refine ⟨J, ?_, kk, ?_, ?_, ?_, e3⟩
  · refine Eq.trans e1 ?_
    rw [sg_Mo_asTold_29]; rfl
  · rw [e2 81 27 (by omega), ← hK]; simp [pm_up]
  · rw [e2 81 28 (by omega), ← hK]; simp [pm_up]
  · rw [e2 81 29 (by omega), ← hK]; simp [pm_up]
end
section
variable {X : Nat × (Nat → Int32)} {d : Nat} {al : List Nat} {D : Nat → Bool} {I : Nat → Nat → Int32} {L : Nat → Nat → Int64}
theorem c_hand_f {m : Nat} {k : Int32} (hm : m ≤ 2) (e : I 86 0 = Int32.ofNat m) (h : pm_in k m = false) : Cl X (d + 3) 196 [vr 81, vi k] (pm_mm al D I L) = some (some (vi 0), pm_mm al D I L) := by
  rw [Cl_s]
  show Rn X (d + 2) co_Mo_hand (0, [some (vr 81), some (vi k)], [], pm_mm al D I L) = _
  have h1 : Cl X (d + 2) 172 [vr 81, vi 0, vi k] (pm_mm al D I L) = _ := c_is (s := 0) k (by omega) (by omega) e
  simp only [sg_Mo_hand_0, h1, Option.bind_some, pm_ai, sg_Mo_hand_6, b01_ne, h, Bool.not_false, cond_true]
def hdS (a j : Nat) : Prop := (a = 81 ∧ (j = 23 ∨ j = 25 ∨ (27 ≤ j ∧ j ≤ 29))) ∨ a = 94
/-- band b is at hand, as told -/
def hdP (I J : Nat → Nat → Int32) (b : Nat) : Prop := J 81 23 = Int32.ofNat b ∧ J 81 25 = I 87 (29 * b) ∧ J 81 27 = I 87 (29 * b + 1) ∧ J 81 28 = I 87 (29 * b + 3) ∧ J 81 29 = I 87 (29 * b + 4) ∧ ∀ p, p < 6 → J 94 p = Int32.ofNat p
theorem c_hand_t {m b : Nat} (hm : m ≤ 2) (e : I 86 0 = Int32.ofNat m) (hb : b < m) : ∃ J, Cl X (d + 3) 196 [vr 81, vi (Int32.ofNat b)] (pm_mm al D I L) = some (some (vi 1), pm_mm al D J L) ∧ (∀ a j, ¬ hdS a j → J a j = I a j) ∧ hdP I J b := by
  rw [Cl_s]
  show ∃ J, Rn X (d + 2) co_Mo_hand (0, [some (vr 81), some (vi (Int32.ofNat b))], [], pm_mm al D I L) = _ ∧ _
  have h1 : Cl X (d + 2) 172 [vr 81, vi 0, vi (Int32.ofNat b)] (pm_mm al D I L) = _ := c_is (s := 0) _ (by omega) (by omega) e
  have h2 : pm_in (Int32.ofNat b) m = true := (n_in (by omega)).trans (decide_eq_true hb)
  have h3 : Cl X (d + 2) 195 [vr 81, vi 0] (pm_mm al D (pm_up I 81 23 (Int32.ofNat b)) L) = some (some (vi (I 87 (29 * b + 0))), _) := c_of (k := 0) (by omega) (by omega) (by simp [pm_up])
  obtain ⟨J, e1, e2, e3, e4, e5, e6⟩ := c_asTold (X := X) (d := d) (al := al) (D := D) (L := L) (I := pm_up (pm_up I 81 23 (Int32.ofNat b)) 81 25 (I 87 (29 * b + 0))) (b := b) (by omega) (by simp [pm_up])
  simp only [sg_Mo_hand_0, h1, Option.bind_some, pm_ai, sg_Mo_hand_6, b01_ne, h2, Bool.not_true, cond_false, h3, sg_Mo_hand_22, e1, pm_av, sg_Mo_hand_29]
  refine ⟨J, rfl, fun a j h => ?_, ?_, ?_, ?_, ?_, ?_, e6⟩
  · unfold hdS at h
    rw [e2 a j (by unfold atS; omega), pm_up, if_neg (by omega), pm_up, if_neg (by omega)]
  · rw [e2 81 23 (by unfold atS; omega)]; simp [pm_up]
  · rw [e2 81 25 (by unfold atS; omega)]; simp [pm_up]
  · rw [e3]; simp [pm_up]
  · rw [e4]; simp [pm_up]
  · rw [e5]; simp [pm_up]
theorem c_hasScore {m : Nat} (k : Int32) (hm : m ≤ 2) (e : I 86 1 = Int32.ofNat m) : Cl X (d + 3) 200 [vr 81, vi k] (pm_mm al D I L) = some (some (vi (b01 (pm_in k m))), pm_mm al D (pm_up I 81 24 k) L) := by
  rw [Cl_s]
  show Rn X (d + 2) co_Mo_hasScore (0, [some (vr 81), some (vi k)], [], pm_mm al D I L) = _
  have h1 : Cl X (d + 2) 172 [vr 81, vi 1, vi k] (pm_mm al D (pm_up I 81 24 k) L) = _ := c_is (s := 1) (m := m) k (by omega) (by omega) (by rw [pm_up, if_neg (by omega)]; exact e)
  simp only [sg_Mo_hasScore_0, h1, Option.bind_some, pm_ai, sg_Mo_hasScore_11, p01, cond_true]
theorem c_notes {s : Nat} (hs : s < 8) (e : I 81 24 = Int32.ofNat s) : Cl X (d + 1) 198 [vr 81] (pm_mm al D I L) = some (some (vi (I 88 (25 * s))), pm_mm al D I L) := by
  rw [Cl_s]
  show Rn X d co_Mo_notes (0, [some (vr 81)], [], pm_mm al D I L) = _
  have h : (25 : Int32) * I 81 24 = Int32.ofNat (25 * s) := by rw [e, Int32.ofNat_mul]; rfl
  rw [sg_Mo_notes_0, h, n_in (by omega), n_tn (by omega), decide_eq_true (by omega), cond_true]
theorem c_noteOf {s k w : Nat} (hs : s < 8) (hk : k < 8) (hw : w < 3) (e : I 81 24 = Int32.ofNat s) : Cl X (d + 1) 199 [vr 81, vi (Int32.ofNat k), vi (Int32.ofNat w)] (pm_mm al D I L) = some (some (vi (I 88 (25 * s + 1 + 3 * k + w))), pm_mm al D I L) := by
  rw [Cl_s]
  show Rn X d co_Mo_noteOf (0, [some (vr 81), some (vi (Int32.ofNat k)), some (vi (Int32.ofNat w))], [], pm_mm al D I L) = _
  have h : ((25 : Int32) * I 81 24 + 1 + 3 * Int32.ofNat k) + Int32.ofNat w = Int32.ofNat (25 * s + 1 + 3 * k + w) := by
    rw [e, Int32.ofNat_add, Int32.ofNat_add, Int32.ofNat_add, Int32.ofNat_mul, Int32.ofNat_mul]; rfl
  rw [sg_Mo_noteOf_0, h, n_in (by omega), n_tn (by omega), decide_eq_true (by omega), cond_true]
theorem c_noNotes : Cl X (d + 1) 201 [vr 81] (pm_mm al D I L) = some (none, pm_mm al D (pm_ups I 93 (fun t => if t < 12 then 0 else I 93 t)) L) := by
  rw [Cl_s]
  show Rn X d co_Mo_noNotes (0, [some (vr 81), none], [], pm_mm al D I L) = _
  rw [sg_Mo_noNotes_0]
  have h : ∀ n k, k + n = 12 → Rn X d co_Mo_noNotes (2, [some (vr 81), some (vi (Int32.ofNat k))], [], pm_mm al D (pm_ups I 93 (fun t => if t < k then 0 else I 93 t)) L) = some (none, pm_mm al D (pm_ups I 93 (fun t => if t < 12 then 0 else I 93 t)) L) := by
    intro n
    induction n with
    | zero => intro k hk; have : k = 12 := by omega
              subst this; rw [sg_Mo_noNotes_2]; rfl
    | succ n ih =>
      intro k hk
      have h0 : decide ((12 : Int32) ≤ Int32.ofNat k) = false := (n_dle (a := 12) (by decide) (by omega)).trans (decide_eq_false (by omega))
      rw [sg_Mo_noNotes_2, h0, cond_false, n_in (by omega), decide_eq_true (by omega), cond_true, n_tn (by omega), n_s, ← ih (k + 1) (by omega)]
      congr 6
      funext a j
      simp only [pm_up, pm_ups]
      by_cases ha : a = 93
      · by_cases hj : j = k
        · simp [ha, hj]
        · have : (j < k + 1) ↔ j < k := by omega
          simp [ha, hj, this]
      · simp [ha]
  refine Eq.trans ?_ (h 12 0 rfl)
  congr 6
  funext a j
  simp only [pm_ups]
  by_cases ha : a = 93 <;> simp [ha]
/-- a note laid -/
def lyf (g : Nat → Int32) (p B n : Nat) (t : Nat) : Int32 := if B ≤ t ∧ t < B + n ∧ t < 12 then g t ||| (1 <<< (Int32.ofNat p &&& 31)) else g t
theorem c_layNote {s k p bt ln lt : Nat} (hs : s < 8) (hk : k < 8) (e : I 81 24 = Int32.ofNat s) (e0 : I 88 (25 * s + 1 + 3 * k + 0) = Int32.ofNat p) (e1 : I 88 (25 * s + 1 + 3 * k + 1) = Int32.ofNat bt) (e2 : I 88 (25 * s + 1 + 3 * k + 2) = Int32.ofNat ln)
    (hb : bt < 12) (hl : ln ≤ 6) (ht : lt < 12) : Cl X (d + 2) 202 [vr 81, vi (Int32.ofNat k), vi (Int32.ofNat lt)] (pm_mm al D I L) = some (none, pm_mm al D (pm_ups I 93 (lyf (I 93) p (bt + lt) ln)) L) := by
  rw [Cl_s]
  show Rn X (d + 1) co_Mo_layNote (0, [some (vr 81), some (vi (Int32.ofNat k)), some (vi (Int32.ofNat lt)), none, none], [], pm_mm al D I L) = _
  rw [sg_Mo_layNote_0]
  have h : ∀ n i o, i + n = ln → Rn X (d + 1) co_Mo_layNote (2, [some (vr 81), some (vi (Int32.ofNat k)), some (vi (Int32.ofNat lt)), some (vi (Int32.ofNat i)), o], [], pm_mm al D (pm_ups I 93 (lyf (I 93) p (bt + lt) i)) L) = some (none, pm_mm al D (pm_ups I 93 (lyf (I 93) p (bt + lt) ln)) L) := by
    intro n
    induction n with
    | zero =>
      intro i o hi
      have : i = ln := by omega
      subst this
      have n2 : Cl X (d + 1) 199 [vr 81, vi (Int32.ofNat k), vi 2] (pm_mm al D (pm_ups I 93 (lyf (I 93) p (bt + lt) i)) L) = some (some (vi (I 88 (25 * s + 1 + 3 * k + 2))), _) := c_noteOf (w := 2) hs hk (by omega) (by exact e)
      rw [sg_Mo_layNote_2, n2]
      simp only [Option.bind_some, pm_ai, sg_Mo_layNote_9, e2, Int32.le_refl, decide_true, cond_true]
    | succ n ih =>
      intro i o hi
      have n2 : ∀ J : Nat → Nat → Int32, (∀ a j, a ≠ 93 → J a j = I a j) → Cl X (d + 1) 199 [vr 81, vi (Int32.ofNat k), vi 2] (pm_mm al D J L) = some (some (vi (Int32.ofNat ln)), pm_mm al D J L) := fun J hJ => by
        rw [← e2, ← hJ 88 _ (by decide)]; exact c_noteOf (w := 2) hs hk (by omega) ((hJ 81 24 (by decide)).trans e)
      have n1 : ∀ J : Nat → Nat → Int32, (∀ a j, a ≠ 93 → J a j = I a j) → Cl X (d + 1) 199 [vr 81, vi (Int32.ofNat k), vi 1] (pm_mm al D J L) = some (some (vi (Int32.ofNat bt)), pm_mm al D J L) := fun J hJ => by
        rw [← e1, ← hJ 88 _ (by decide)]; exact c_noteOf (w := 1) hs hk (by omega) ((hJ 81 24 (by decide)).trans e)
      have n0 : ∀ J : Nat → Nat → Int32, (∀ a j, a ≠ 93 → J a j = I a j) → Cl X (d + 1) 199 [vr 81, vi (Int32.ofNat k), vi 0] (pm_mm al D J L) = some (some (vi (Int32.ofNat p)), pm_mm al D J L) := fun J hJ => by
        rw [← e0, ← hJ 88 _ (by decide)]; exact c_noteOf (w := 0) hs hk (by omega) ((hJ 81 24 (by decide)).trans e)
      generalize hJ : pm_ups I 93 (lyf (I 93) p (bt + lt) i) = J
      have kJ : ∀ a j, a ≠ 93 → J a j = I a j := fun a j h => by rw [← hJ]; simp [pm_ups, h]
      have h9 : decide (Int32.ofNat ln ≤ Int32.ofNat i) = false := (n_dle (by omega) (by omega)).trans (decide_eq_false (by omega))
      have ha : Int32.ofNat bt + Int32.ofNat lt + Int32.ofNat i = Int32.ofNat (bt + lt + i) := by rw [n_add, n_add]
      have h12 : decide ((12 : Int32) ≤ Int32.ofNat (bt + lt + i)) = decide (12 ≤ bt + lt + i) := n_dle (a := 12) (by decide) (by omega)
      rw [sg_Mo_layNote_2, n2 J kJ]
      simp only [Option.bind_some, pm_ai, sg_Mo_layNote_9, h9, cond_false, n1 J kJ, sg_Mo_layNote_18, ha, h12]
      by_cases hc : 12 ≤ bt + lt + i
      · rw [decide_eq_true hc, cond_true, sg_Mo_layNote_49, n_s, ← ih (i + 1) (some (vi (Int32.ofNat (bt + lt + i)))) (by omega), ← hJ]
        have hmem : lyf (I 93) p (bt + lt) i = lyf (I 93) p (bt + lt) (i + 1) := by
          funext j
          have : (bt + lt ≤ j ∧ j < bt + lt + i ∧ j < 12) ↔ (bt + lt ≤ j ∧ j < bt + lt + (i + 1) ∧ j < 12) := by omega
          simp only [lyf, this]
        rw [hmem]
      · rw [decide_eq_false hc, cond_false, n_in (by omega), decide_eq_true (by omega), cond_true, n0 J kJ]
        have hin : pm_in (Int32.ofNat (bt + lt + i)) 12 = true := (n_in (by omega)).trans (decide_eq_true (by omega))
        simp only [Option.bind_some, pm_ai, n_tn (show bt + lt + i < 2147483648 by omega), sg_Mo_layNote_46, hin, cond_true, sg_Mo_layNote_49, n_s]
        rw [← ih (i + 1) (some (vi (Int32.ofNat (bt + lt + i)))) (by omega), ← hJ]
        congr 6
        funext a j
        simp only [pm_up, pm_ups, lyf]
        by_cases h93 : a = 93
        · by_cases hj : j = bt + lt + i
          · have h1 : ¬ (bt + lt ≤ j ∧ j < bt + lt + i ∧ j < 12) := by omega
            have h2 : bt + lt ≤ j ∧ j < bt + lt + (i + 1) ∧ j < 12 := by omega
            subst hj
            simp only [h93, true_and, if_true, if_neg h1, if_pos h2]
          · have : (bt + lt ≤ j ∧ j < bt + lt + i ∧ j < 12) ↔ (bt + lt ≤ j ∧ j < bt + lt + (i + 1) ∧ j < 12) := by omega
            simp only [h93, hj, and_false, if_true, if_false, this]
        · simp [h93]
  refine Eq.trans ?_ (h ln 0 none (by omega))
  congr 6
  funext a j
  simp only [pm_ups, lyf]
  by_cases ha : a = 93
  · have : ¬ (bt + lt ≤ j ∧ j < bt + lt + 0 ∧ j < 12) := by omega
    simp only [ha, if_true, if_neg this]
  · simp [ha]
end
