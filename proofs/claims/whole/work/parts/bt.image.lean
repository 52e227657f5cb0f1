section
variable {X : Nat × (Nat → Int32)} {d : Nat} {al : List Nat} {D : Nat → Bool} {I : Nat → Nat → Int32} {L : Nat → Nat → Int64}
/-- plays of what was told depend on what was told alone -/
theorem wn_pt {J : Nat → Nat → Int32} {m : Nat → Nat} {s : Nat} (h : ∀ a k, 82 ≤ a → a ≤ 90 → k < wd a → J a k = I a k) (g : rG I m) (hs : s < m 1) (t : Nat) : wn (scO J s) t = wn (scO I s) t := by
  have e88 : ∀ j, j < 50 → J 88 j = I 88 j := fun j hj => h 88 j (by omega) (by omega) hj
  have m1 := (g.1 1 (by omega)).1
  have s8 : (scO I s).1 ≤ 8 := (g.2.2.1 s hs).1.1
  have e : (scO J s).1 = (scO I s).1 := congrArg Int32.toNatClampNeg (e88 (25 * s) (by omega))
  rw [wn, wn, e]
  refine fo_congr _ _ (fun k a hk => ?_)
  have e1 : (scO J s).2.1 k = (scO I s).2.1 k := congrArg Int32.toNatClampNeg (e88 (25 * s + 1 + 3 * k + 0) (by omega))
  have e2 : (scO J s).2.2.1 k = (scO I s).2.2.1 k := congrArg Int32.toNatClampNeg (e88 (25 * s + 1 + 3 * k + 1) (by omega))
  have e3 : (scO J s).2.2.2 k = (scO I s).2.2.2 k := congrArg Int32.toNatClampNeg (e88 (25 * s + 1 + 3 * k + 2) (by omega))
  rw [wn1, wn1, e1, e2, e3]
theorem pst_pt {J : Nat → Nat → Int32} {m : Nat → Nat} {b s : Nat} (h : ∀ a k, 82 ≤ a → a ≤ 90 → k < wd a → J a k = I a k) (g : rG I m) (hb : b < m 0) (hs : s < m 1) (tr : Nat → Int32 → Bool) (t : Nat) : pst (bdO J b) (wn (scO J s)) tr t = pst (bdO I b) (wn (scO I s)) tr t := by
  have e87 : ∀ j, j < 58 → J 87 j = I 87 j := fun j hj => h 87 j (by omega) (by omega) hj
  have m0 := (g.1 0 (by omega)).1
  have b6 := (g.2.1 b hb).1
  refine pst_mask (B := bdO J b) (C := bdO I b) (w := wn (scO J s)) (v := wn (scO I s)) (e87 (29 * b + 1) (by omega)) (e87 (29 * b + 2) (by omega)) (e87 (29 * b + 3) (by omega)) (e87 (29 * b + 4) (by omega)) (congrArg Int32.toNatClampNeg (e87 (29 * b) (by omega))) (fun i hi => ⟨rfl, ?_⟩) t (fun u _ i _ => by rw [wn_pt h g hs]) (fun _ _ _ => rfl)
  have hi : i < (I 87 (29 * b)).toNatClampNeg := hi
  show dwR J b (Int32.ofNat i) = dwR I b (Int32.ofNat i)
  rw [dwR, dwR, n_tn (by omega), e87 _ (by omega)]
theorem cW_pt {J : Nat → Nat → Int32} {M : Nat → Nat → Int64} {D' : Nat → Bool} {m : Nat → Nat} (h : ∀ a k, 82 ≤ a → a ≤ 90 → k < wd a → J a k = I a k) (g : rG I m) (hc : ∀ a, 220 ≤ a → a < 232 → J a = I a ∧ M a = L a) (hD : ∀ i, i < 4 → D' (3 + i) = D (3 + i)) (w : cW D I L m) : cW D' J M m := fun b s hb hs h1 h2 => by
  have m0 := (g.1 0 (by omega)).1; have m1 := (g.1 1 (by omega)).1
  have hd := hD (2 * b + s) (by omega)
  rw [show 3 + (2 * b + s) = 3 + 2 * b + s by omega] at hd
  rw [hd] at h1
  rw [(hc _ (by omega) (by omega)).1] at h2
  obtain ⟨w1, w2, w3⟩ := w b s hb hs h1 h2
  refine wyP_ext (B := bdO I b) (w := wn (scO I s)) (fun n t _ => (pst_pt h g hb hs _ t).symm) ⟨fun j hj => ?_, ?_, fun x hx => ?_⟩
  · rw [(hc (222 + 3 * (2 * b + s)) (by omega) (by omega)).1]; exact w1 j hj
  · rw [(hc (220 + 3 * (2 * b + s)) (by omega) (by omega)).2]; exact w2
  · rw [(hc (221 + 3 * (2 * b + s)) (by omega) (by omega)).2]; exact w3 x hx
/-- the images: which there are, and what they hold -/
def IM (D : Nat → Bool) (I : Nat → Nat → Int32) : Prop := ∀ k, k < 3 → I 113 k = b01 (D k) ∧ (D k = true → ∃ K m, IR I K (120 + 31 * k) (k + 1) m)
/-- what holds between two calls -/
def INV (D : Nat → Bool) (I : Nat → Nat → Int32) (L : Nat → Nat → Int64) : Prop := (∃ m, TG I m ∧ RL I m ∧ cW D I L m) ∧ cZ I ∧ (∀ j, j < 2400 → byt (I 82 j)) ∧ IM D I
theorem IM_up {J : Nat → Nat → Int32} {D' : Nat → Bool} (h : IM D I) (h1 : ∀ a, (82 ≤ a ∧ a ≤ 90) ∨ a = 113 ∨ (120 ≤ a ∧ a < 213) → J a = I a) (hD : ∀ k, k < 3 → D' k = D k) : IM D' J := fun k hk => by
  obtain ⟨i1, i2⟩ := h k hk
  rw [hD k hk, h1 113 (by omega)]
  refine ⟨i1, fun hd => ?_⟩
  obtain ⟨K, m, i3⟩ := i2 hd
  exact ⟨K, m, IR_up i3 (fun a a1 a2 => h1 a (by omega)) (fun a a1 a2 j hj => by rw [h1 a (by omega)]; exact i3.2.2 a a1 a2 j hj)⟩
/-- the class forgets its ways -/
theorem fw0 {o1 : Option pm_V} : Rn X d co_Ch_forgetWays (0, [some (vr 1), o1], [], pm_mm al D I L) = Rn X d co_Ch_forgetWays (2, [some (vr 1), some (vi 0)], [], pm_mm al D I L) := (Sg_eq X d co_Ch_forgetWays (fun p => Nat.beq p 2) 2 _).trans rfl
theorem fw30 {x : Int32} : Rn X d co_Ch_forgetWays (30, [some (vr 1), some (vi x)], [], pm_mm al D I L) = Rn X d co_Ch_forgetWays (2, [some (vr 1), some (vi (x + 1))], [], pm_mm al D I L) := (Sg_eq X d co_Ch_forgetWays (fun p => Nat.beq p 2) 2 _).trans rfl
theorem k_forget : ∃ J, Cl X (d + 1) 113 [vr 1] (pm_mm al D I L) = some (none, pm_mm al D J L) ∧ (∀ a j, ¬ (220 ≤ a ∧ a ≤ 229 ∧ j = 3) → J a j = I a j) ∧ ∀ i, i < 4 → D (3 + i) = true → J (220 + 3 * i) 3 = 0 := by
  rw [Cl_s]
  show ∃ J, Rn X d co_Ch_forgetWays (0, [some (vr 1), none], [], pm_mm al D I L) = _ ∧ _
  obtain ⟨J, j1, j2, j3⟩ := lp 4 (fun i J => Rn X d co_Ch_forgetWays (2, [some (vr 1), some (vi (Int32.ofNat i))], [], pm_mm al D J L)) (fun n J => (∀ a j, ¬ (220 ≤ a ∧ a ≤ 229 ∧ j = 3) → J a j = I a j) ∧ ∀ i, i < n → D (3 + i) = true → J (220 + 3 * i) 3 = 0) (fun i J hi hq => by
    cases hd : D (3 + i) with
    | true =>
      refine ⟨pm_up J (220 + 3 * i) 3 0, ?_, fun a j h => by rw [up_ne (by omega)]; exact hq.1 a j h, fun i' hi' hd' => ?_⟩
      · show Rn X d co_Ch_forgetWays _ = Rn X d co_Ch_forgetWays _
        have e := tbD hd
        rw [← e, sgb_Ch_forgetWays_t_2 hi, fw30, n_s]
      · by_cases c : i' = i
        · subst c; exact up_eq
        · rw [up_ne (by omega)]; exact hq.2 i' (by omega) hd'
    | false =>
      refine ⟨J, ?_, hq.1, fun i' hi' hd' => ?_⟩
      · show Rn X d co_Ch_forgetWays _ = Rn X d co_Ch_forgetWays _
        have e := fbD hd
        rw [← e, sgb_Ch_forgetWays_f_2 hi, fw30, n_s]
      · by_cases c : i' = i
        · subst c; rw [hd] at hd'; cases hd'
        · exact hq.2 i' (by omega) hd') 0 I (Nat.zero_le _) ⟨fun _ _ _ => rfl, fun i hi => absurd hi (Nat.not_lt_zero i)⟩
  refine ⟨J, ?_, j2, j3⟩
  rw [fw0]
  refine Eq.trans j1 ?_
  exact sg_Ch_forgetWays_4_2 ..
theorem cW_forget {J : Nat → Nat → Int32} {m : Nat → Nat} (h : ∀ i, i < 4 → D (3 + i) = true → J (220 + 3 * i) 3 = 0) (m0 : m 0 ≤ 2) (m1 : m 1 ≤ 2) : cW D J L m := fun b s hb hs h1 h2 => by
  have := h (2 * b + s) (by omega) (by rw [show 3 + (2 * b + s) = 3 + 2 * b + s by omega]; exact h1)
  rw [show 220 + 3 * (2 * b + s) = 220 + 6 * b + 3 * s by omega] at this
  exact absurd this h2
/-- image: the class -/
theorem im_0 (x : Int32) : Rn X d co_Ch_image (0, [some (vr 1), some (vi x)], [], pm_mm al D I L) = cond (decide (x < 0)) (Rn X d co_Ch_image (9, [some (vr 1), some (vi x)], [], pm_mm al D I L)) (cond (decide (x < 3)) (Rn X d co_Ch_image (11, [some (vr 1), some (vi x)], [], pm_mm al D I L)) (Rn X d co_Ch_image (9, [some (vr 1), some (vi x)], [], pm_mm al D I L))) := (Sg_eq X d co_Ch_image (fun p => Nat.beq p 9 || Nat.beq p 11) 6 _).trans rfl
theorem im_9 {o0 o1 : Option pm_V} : Rn X d co_Ch_image (9, [o0, o1], [], pm_mm al D I L) = some (some (vi 0), pm_mm al D I L) := (Sg_eq X d co_Ch_image (fun _ => false) 2 _).trans rfl
theorem ag_0 (x : Int32) : Rn X d co_Ch_again (0, [some (vr 1), some (vi x)], [], pm_mm al D I L) = cond (decide (x < 0)) (Rn X d co_Ch_again (18, [some (vr 1), some (vi x)], [], pm_mm al D I L)) (cond (decide (3 ≤ x)) (Rn X d co_Ch_again (18, [some (vr 1), some (vi x)], [], pm_mm al D I L)) (Rn X d co_Ch_again (9, [some (vr 1), some (vi x)], [], pm_mm al D I L))) := (Sg_eq X d co_Ch_again (fun p => Nat.beq p 9 || Nat.beq p 18) 6 _).trans rfl
theorem ag_18 {o0 o1 : Option pm_V} : Rn X d co_Ch_again (18, [o0, o1], [], pm_mm al D I L) = some (some (vi 0), pm_mm al D I L) := (Sg_eq X d co_Ch_again (fun _ => false) 2 _).trans rfl
theorem q_image_n {x : Int32} (hx : pm_in x 3 = false) : Cl X (d + 1) 111 [vr 1, vi x] (pm_mm al D I L) = some (some (vi 0), pm_mm al D I L) := by
  rw [Cl_s]
  show Rn X d co_Ch_image (0, [some (vr 1), some (vi x)], [], pm_mm al D I L) = _
  have h3 : pm_in x 3 = (!decide (x < 0) && decide (x < 3)) := in_two (n := 3) (by omega)
  rw [im_0, im_9]
  rw [hx] at h3
  cases h1 : decide (x < 0) <;> cases h2 : decide (x < 3) <;> rw [h1, h2] at h3 <;> first | rfl | cases h3
theorem q_again_n {x : Int32} (hx : pm_in x 3 = false) : Cl X (d + 1) 112 [vr 1, vi x] (pm_mm al D I L) = some (some (vi 0), pm_mm al D I L) := by
  rw [Cl_s]
  show Rn X d co_Ch_again (0, [some (vr 1), some (vi x)], [], pm_mm al D I L) = _
  have h3 : pm_in x 3 = (!decide (x < 0) && decide (x < 3)) := in_two (n := 3) (by omega)
  have h4 : decide ((3 : Int32) ≤ x) = !decide (x < 3) := by
    by_cases c : x < 3
    · rw [dt c, df (Int32.not_le.mpr c)]; rfl
    · rw [df c, dt (Int32.not_lt.mp c)]; rfl
  rw [ag_0, ag_18, h4]
  rw [hx] at h3
  cases h1 : decide (x < 0) <;> cases h2 : decide (x < 3) <;> rw [h1, h2] at h3 <;> first | rfl | cases h3
def niL (k : Nat) (al : List Nat) : List Nat := match k with
  | 0 => niL_0 al
  | 1 => niL_1 al
  | _ => niL_2 al
def niI (k : Nat) (I : Nat → Nat → Int32) : Nat → Nat → Int32 := match k with
  | 0 => niI_0 I
  | 1 => niI_1 I
  | _ => niI_2 I
theorem nio {k a : Nat} (hk : k < 3) (h : ¬ (120 + 31 * k ≤ a ∧ a ≤ 150 + 31 * k)) : niI k I a = I a := by
  have h1 : k = 0 ∨ k = 1 ∨ k = 2 := by omega
  rcases h1 with e | e | e <;> subst e
  · exact nio_0 h
  · exact nio_1 h
  · exact nio_2 h
theorem nw_image {k : Nat} (hk : k < 3) : Rn X (d + 3) co_Ch_image (0, [some (vr 1), some (vi (Int32.ofNat k))], [], pm_mm al (pm_fb k D) I L) = Rn X (d + 3) co_Ch_image (33, [some (vr 1), some (vi (Int32.ofNat k))], [], pm_mm (niL k al) (pm_tb k D) (niI k I) L) := by
  have h1 : k = 0 ∨ k = 1 ∨ k = 2 := by omega
  rcases h1 with e | e | e <;> subst e
  · exact nw_image_0 al D I L
  · exact nw_image_1 al D I L
  · exact nw_image_2 al D I L
theorem q_image_k {k : Nat} (hk : k < 3) : ∃ J, Cl X (d + 4) 111 [vr 1, vi (Int32.ofNat k)] (pm_mm al D I L) = some (some (vi 1), pm_mm (cond (D k) al (niL k al)) (pm_tb k D) J L) ∧ (∀ i j, cc i j → J (120 + 31 * k + i) j = I (2 + i) j) ∧ ∀ a, ¬ (120 + 31 * k ≤ a ∧ a ≤ 150 + 31 * k) → J a = I a := by
  rw [Cl_s]
  show ∃ J, Rn X (d + 3) co_Ch_image (0, [some (vr 1), some (vi (Int32.ofNat k))], [], pm_mm al D I L) = _ ∧ _
  cases hd : D k with
  | true =>
    obtain ⟨J, e1, e2, e3⟩ := k_tcopy_o (X := X) (d := d + 1) (al := al) (D := D) (I := I) (L := L) hk
    refine ⟨J, ?_, e2, fun a h => e3 a (by omega)⟩
    rw [cond_true]
    have h : Rn X (d + 3) co_Ch_image (0, [some (vr 1), some (vi (Int32.ofNat k))], [], pm_mm al (pm_tb k D) I L) = some (some (vi 1), pm_mm al (pm_tb k D) J L) := by
      rw [sgb_Ch_image_t_0 hk, show decide (Int32.ofNat k < 0) = false from (n_dlt (b := 0) (by omega) (by omega)).trans (df (by omega)), cond_false, sgb_Ch_image_t_33 hk, e1]
      simp only [Option.bind_some, pm_av]
      rw [sgb_Ch_image_t_46 hk]
    have e := tbD hd
    rw [e] at h ⊢
    exact h
  | false =>
    obtain ⟨J, e1, e2, e3⟩ := k_tcopy_o (X := X) (d := d + 1) (al := niL k al) (D := D) (I := niI k I) (L := L) hk
    refine ⟨J, ?_, fun i j h => ?_, fun a h => ?_⟩
    · have e := fbD hd
      have h : Rn X (d + 3) co_Ch_image (0, [some (vr 1), some (vi (Int32.ofNat k))], [], pm_mm al (pm_fb k D) I L) = some (some (vi 1), pm_mm (niL k al) (pm_tb k D) J L) := by
        rw [nw_image hk, sgb_Ch_image_t_33 hk, e1]
        simp only [Option.bind_some, pm_av]
        rw [sgb_Ch_image_t_46 hk]
      rw [e] at h
      rw [cond_false]
      exact h
    · rw [e2 i j h, nio hk (by have := cc_le h; omega)]
    · rw [e3 a (by omega), nio hk h]
theorem r_image_n {x : Int32} (hx : pm_in x 3 = false) : Cl X (d + 2) 282 [vr 81, vi x] (pm_mm al D I L) = some (some (vi 0), pm_mm al D (pm_up I 81 0 0) L) := by
  rw [Cl_s]
  show Rn X (d + 1) co_Mo_image (0, [some (vr 81), some (vi x)], [], pm_mm al D I L) = _
  have h : (if 0 ≤ x ∧ x ≤ 2 then (1 : Int32) else 0) = b01 (pm_in x 3) := in_m (m := 3) (by omega)
  rw [sg_Mo_image_0, c_in, h, hx]
  simp only [Option.bind_some, pm_ai]
  rw [sg_Mo_image_11, b01_ne]; rfl
theorem r_image_k {k : Nat} (hk : k < 3) (hb : ∀ j, j < 2400 → byt (I 82 j)) : ∃ J, Cl X (d + 3) 282 [vr 81, vi (Int32.ofNat k)] (pm_mm al D I L) = some (some (vi 1), pm_mm al D (pm_up J 113 k 1) L) ∧ VC (pm_up I 81 0 0) J 0 (k + 1) := by
  rw [Cl_s]
  show ∃ J, Rn X (d + 2) co_Mo_image (0, [some (vr 81), some (vi (Int32.ofNat k))], [], pm_mm al D I L) = _ ∧ _
  have h : (if 0 ≤ Int32.ofNat k ∧ Int32.ofNat k ≤ 2 then (1 : Int32) else 0) = b01 (pm_in (Int32.ofNat k) 3) := in_m (m := 3) (by omega)
  obtain ⟨J, e1, e2⟩ := c_copyAll (X := X) (d := d) (al := al) (D := D) (L := L) (I := pm_up I 81 0 0) (v := 0) (w := k + 1) (by omega) (by omega) (by omega) (fun j hj => by rw [up_ne (by omega)]; exact hb j hj)
  have e1 : Cl X (d + 2) 171 [vr 81, vi 0, vi (Int32.ofNat (k + 1))] (pm_mm al D (pm_up I 81 0 0) L) = some (none, pm_mm al D J L) := e1
  refine ⟨J, ?_, e2⟩
  rw [sg_Mo_image_0, c_in, h, n_in (by omega), dt hk]
  simp only [Option.bind_some, pm_ai]
  rw [sg_Mo_image_11, b01_ne, Bool.not_true, cond_false, n_s, e1]
  simp only [Option.bind_some, pm_av]
  rw [sg_Mo_image_24, n_in (by omega), dt hk, n_tn (by omega)]; rfl
theorem r_again_n {x : Int32} (hx : pm_in x 3 = false) : Cl X (d + 2) 283 [vr 81, vi x] (pm_mm al D I L) = some (some (vi 0), pm_mm al D (pm_up I 81 0 0) L) := by
  rw [Cl_s]
  show Rn X (d + 1) co_Mo_again (0, [some (vr 81), some (vi x)], [], pm_mm al D I L) = _
  have h : (if 0 ≤ x ∧ x ≤ 2 then (1 : Int32) else 0) = b01 (pm_in x 3) := in_m (m := 3) (by omega)
  rw [sg_Mo_again_0, c_in, h, hx]
  simp only [Option.bind_some, pm_ai]
  rw [sg_Mo_again_11, b01_ne, sg_Mo_again_23]; rfl
theorem r_again_0 {k : Nat} (hk : k < 3) (e : I 113 k = 0) : Cl X (d + 2) 283 [vr 81, vi (Int32.ofNat k)] (pm_mm al D I L) = some (some (vi 0), pm_mm al D (pm_up I 81 0 0) L) := by
  rw [Cl_s]
  show Rn X (d + 1) co_Mo_again (0, [some (vr 81), some (vi (Int32.ofNat k))], [], pm_mm al D I L) = _
  have h : (if 0 ≤ Int32.ofNat k ∧ Int32.ofNat k ≤ 2 then (1 : Int32) else 0) = b01 (pm_in (Int32.ofNat k) 3) := in_m (m := 3) (by omega)
  rw [sg_Mo_again_0, c_in, h, n_in (by omega), dt hk]
  simp only [Option.bind_some, pm_ai]
  rw [sg_Mo_again_11, b01_ne, Bool.not_true, cond_false, n_in (by omega), dt hk, cond_true, n_tn (by omega), up_ne (by omega), e, sg_Mo_again_23]; rfl
theorem r_again_k {k : Nat} (hk : k < 3) (e : I 113 k = 1) (hb : ∀ j, j < 2400 → byt (I 82 j)) : ∃ J, Cl X (d + 3) 283 [vr 81, vi (Int32.ofNat k)] (pm_mm al D I L) = some (some (vi 1), pm_mm al D J L) ∧ VC (pm_up I 81 0 0) J (k + 1) 0 := by
  rw [Cl_s]
  show ∃ J, Rn X (d + 2) co_Mo_again (0, [some (vr 81), some (vi (Int32.ofNat k))], [], pm_mm al D I L) = _ ∧ _
  have h : (if 0 ≤ Int32.ofNat k ∧ Int32.ofNat k ≤ 2 then (1 : Int32) else 0) = b01 (pm_in (Int32.ofNat k) 3) := in_m (m := 3) (by omega)
  obtain ⟨J, e1, e2⟩ := c_copyAll (X := X) (d := d) (al := al) (D := D) (L := L) (I := pm_up I 81 0 0) (v := k + 1) (w := 0) (by omega) (by omega) (by omega) (fun j hj => by rw [up_ne (by omega)]; exact hb j hj)
  have e1 : Cl X (d + 2) 171 [vr 81, vi (Int32.ofNat (k + 1)), vi 0] (pm_mm al D (pm_up I 81 0 0) L) = some (none, pm_mm al D J L) := e1
  refine ⟨J, ?_, e2⟩
  rw [sg_Mo_again_0, c_in, h, n_in (by omega), dt hk]
  simp only [Option.bind_some, pm_ai]
  rw [sg_Mo_again_11, b01_ne, Bool.not_true, cond_false, n_in (by omega), dt hk, cond_true, n_tn (by omega), up_ne (by omega), e, show decide ((1 : Int32) = 0) = false from rfl, cond_false, n_s, e1]
  simp only [Option.bind_some, pm_av]
  rw [sg_Mo_again_33]
theorem q_again_0 {k : Nat} (hk : k < 3) (hd : D k = false) : Cl X (d + 1) 112 [vr 1, vi (Int32.ofNat k)] (pm_mm al D I L) = some (some (vi 0), pm_mm al D I L) := by
  rw [Cl_s]
  show Rn X d co_Ch_again (0, [some (vr 1), some (vi (Int32.ofNat k))], [], pm_mm al D I L) = _
  have h : Rn X d co_Ch_again (0, [some (vr 1), some (vi (Int32.ofNat k))], [], pm_mm al (pm_fb k D) I L) = some (some (vi 0), pm_mm al (pm_fb k D) I L) := by
    rw [sgb_Ch_again_f_0 hk, sgb_Ch_again_f_18 hk]
    cases decide (Int32.ofNat k < 0) <;> rfl
  rw [fbD hd] at h
  exact h
theorem q_again_k {k : Nat} (hk : k < 3) (hd : D k = true) : ∃ J, Cl X (d + 3) 112 [vr 1, vi (Int32.ofNat k)] (pm_mm al D I L) = some (some (vi 1), pm_mm al D J L) ∧ (∀ i j, cc i j → J (2 + i) j = I (120 + 31 * k + i) j) ∧ (∀ a j, ¬ (2 ≤ a ∧ a ≤ 32) → ¬ (220 ≤ a ∧ a ≤ 229) → J a j = I a j) ∧ ∀ i, i < 4 → D (3 + i) = true → J (220 + 3 * i) 3 = 0 := by
  rw [Cl_s]
  show ∃ J, Rn X (d + 2) co_Ch_again (0, [some (vr 1), some (vi (Int32.ofNat k))], [], pm_mm al D I L) = _ ∧ _
  obtain ⟨J, e1, e2, e3⟩ := k_tcopy_i (X := X) (d := d) (al := al) (D := D) (I := I) (L := L) hk
  obtain ⟨K, f1, f2, f3⟩ := k_forget (X := X) (d := d + 1) (al := al) (D := pm_tb k D) (I := J) (L := L)
  have h : Rn X (d + 2) co_Ch_again (0, [some (vr 1), some (vi (Int32.ofNat k))], [], pm_mm al (pm_tb k D) I L) = some (some (vi 1), pm_mm al (pm_tb k D) K L) := by
    rw [sgb_Ch_again_t_0 hk, show decide (Int32.ofNat k < 0) = false from (n_dlt (b := 0) (by omega) (by omega)).trans (df (by omega)), cond_false, e1]
    simp only [Option.bind_some, pm_av]
    rw [sgb_Ch_again_t_33 hk, f1]
    simp only [Option.bind_some, pm_av]
    rw [sgb_Ch_again_t_37 hk]
  have e := tbD hd
  rw [e] at h f3
  refine ⟨K, h, fun i j hc => ?_, fun a j h1 h2 => ?_, f3⟩
  · rw [f2 _ _ (by have := cc_le hc; omega)]; exact e2 i j hc
  · rw [f2 _ _ (by omega), e3 a (by omega)]
end
