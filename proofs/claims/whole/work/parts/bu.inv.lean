section
variable {X : Nat × (Nat → Int32)} {d : Nat} {al : List Nat} {D : Nat → Bool} {I : Nat → Nat → Int32} {L : Nat → Nat → Int64}
/-- how the cells grow: by ways, by images, by the reader's tape -/
def gA (al : List Nat) (D : Nat → Bool) (al' : List Nat) (D' : Nat → Bool) : Prop := ∀ P : List Nat → (Nat → Bool) → Prop, (∀ al D i, i < 4 → P al D → P (cond (D (3 + i)) al (al ++ [220 + 3 * i] ++ [221 + 3 * i] ++ [222 + 3 * i])) (pm_tb (3 + i) D)) → (∀ al D k, k < 3 → P al D → P (cond (D k) al (niL k al)) (pm_tb k D)) → (∀ al D, P al D → P al (pm_tb 7 D)) → P al D → P al' D'
theorem gA_refl : gA al D al D := fun _ _ _ _ h => h
theorem gA_w {al' : List Nat} {D' : Nat → Bool} (h : wyA al D al' D') : gA al D al' D' := fun P h1 _ _ h0 => h P h1 h0
theorem wyA_im {al' : List Nat} {D' : Nat → Bool} (h : wyA al D al' D') : ∀ k, k < 3 → D' k = D k := h (fun _ E => ∀ k, k < 3 → E k = D k) (fun _ E i hi hE k hk => by
  show cond (Nat.beq k (3 + i)) true (E k) = D k
  rw [beq_f (by omega)]; exact hE k hk) (fun _ _ => rfl)
theorem INV_r {K : Nat → Nat → Int32} {M : Nat → Nat → Int64} (h : INV D I L) (f : rF I K) (hm : ∀ a, 220 ≤ a → a < 232 → M a = L a) : INV D K M := by
  obtain ⟨⟨m, g, r, w⟩, z, y, im⟩ := h
  have hr : ∀ a k, 82 ≤ a → a ≤ 90 → k < wd a → K a k = I a k := fun a k h1 h2 _ => by rw [f a (by omega) (by omega)]
  have tl : tlE I K := fun a ha => f a (by omega) (by omega)
  refine ⟨⟨m, TG_pt hr g, RL_tl tl g.1 r, cW_pt hr g.1 (fun a h1 h2 => ⟨f a (by omega) (by omega), hm a h1 h2⟩) (fun _ _ => rfl) w⟩, ⟨?_, ?_, fun j hj => ?_⟩, fun j hj => by rw [f 82 (by omega) (by omega)]; exact y j hj, IM_up im (fun a ha => f a (by omega) (by omega)) (fun _ _ => rfl)⟩
  · rw [f 57 (by omega) (by omega)]; exact z.1
  · rw [f 59 (by omega) (by omega)]; exact z.2.1
  · rw [f 64 (by omega) (by omega)]; exact z.2.2 j hj
theorem INV_q {m : Nat → Nat} {J : Nat → Nat → Int32} {M : Nat → Nat → Int64} {al' : List Nat} {D' : Nat → Bool} (g : TG I m) (r : RL I m) (z : cZ I) (y : ∀ j, j < 2400 → byt (I 82 j)) (im : IM D I) (f : cF I J) (w : cW D' J M m) (a : wyA al D al' D') : INV D' J M := by
  have tl := cF_tl f
  refine ⟨⟨m, TG_pt (fun a k h1 h2 _ => by rw [tl a (by omega)]) g, RL_tl tl g.1 r, w⟩, cZ_up z f, fun j hj => by rw [tl 82 (by omega)]; exact y j hj, IM_up im (fun a ha => f.1 a (by omega) (by omega)) (wyA_im a)⟩
/-- a call of both: they answer alike, and what holds between calls holds again -/
def OK3 {α : Type} (wr : α → pm_V) (X : Nat × (Nat → Int32)) (d : Nat) (al : List Nat) (D : Nat → Bool) (I : Nat → Nat → Int32) (L : Nat → Nat → Int64) (mc mr : Nat) (as : List pm_V) : Prop := ∃ v al' D' I1 L1 I2 L2, Cl X d mc (vr 1 :: as) (pm_mm al D I L) = some (some (wr v), pm_mm al' D' I1 L1) ∧ Cl X d mr (vr 81 :: as) (pm_mm al' D' I1 L1) = some (some (wr v), pm_mm al' D' I2 L2) ∧ INV D' I2 L2 ∧ gA al D al' D'
def OK2 (X : Nat × (Nat → Int32)) (d : Nat) (al : List Nat) (D : Nat → Bool) (I : Nat → Nat → Int32) (L : Nat → Nat → Int64) (mc mr : Nat) (as : List pm_V) : Prop := OK3 vi X d al D I L mc mr as
/-- what stays where only the tape, its length, the fault and its place, and what calls use are changed -/
def fr (b j : Nat) : Prop := (4 ≤ b ∧ b ≤ 33) ∨ (86 ≤ b ∧ b ≤ 90) ∨ (83 ≤ b ∧ b ≤ 85 ∧ 1 ≤ j) ∨ (113 ≤ b) ∨ b = 64 ∨ (b = 57 ∧ j = 0) ∨ (b = 59 ∧ j = 0)
theorem INV_tape {I2 : Nat → Nat → Int32} {M : Nat → Nat → Int64} {D' : Nat → Bool} {n : Nat} (h : INV D I L) (hD : ∀ k, k < 7 → D' k = D k) (hM : ∀ a, 220 ≤ a → a < 232 → M a = L a) (hn : n ≤ 600) (e83 : I2 83 0 = Int32.ofNat n) (e2 : I2 2 1 = Int32.ofNat n) (h3 : ∀ k, k < 600 → I2 3 k = I2 82 k) (y2 : ∀ j, j < 2400 → byt (I2 82 j)) (h82 : ∀ k, 600 ≤ k → I2 82 k = I 82 k) (hf : I2 2 2 = I2 84 0) (hp : I2 2 3 = I2 85 0) (o : ∀ b j, fr b j → I2 b j = I b j) : INV D' I2 M := by
  obtain ⟨⟨m, ⟨g, _⟩, r, w⟩, z, y, im⟩ := h
  have or : ∀ b, (4 ≤ b ∧ b ≤ 33) ∨ (86 ≤ b ∧ b ≤ 90) ∨ (113 ≤ b) ∨ b = 64 → I2 b = I b := fun b h => by funext j; exact o b j (by unfold fr; omega)
  have e86 := or 86 (by omega); have e87 := or 87 (by omega); have e88 := or 88 (by omega); have e89 := or 89 (by omega); have e90 := or 90 (by omega)
  have e4 := or 4 (by omega); have e7 := or 7 (by omega)
  have m0 := (g.1 0 (by omega)).1; have m1 := (g.1 1 (by omega)).1; have m3 := (g.1 3 (by omega)).1
  have g' : rG I2 m := by simpa only [rG, gB, gS, gL, scO, e86, e87, e88, e89, e90] using g
  have r' : RL I2 m := by
    obtain ⟨r1, r2, r3, r4, r5, r6, r7, r8, r9⟩ := r
    have hc : ∀ a, 9 ≤ a → a ≤ 33 → I2 a = I a := fun a h1 h2 => or a (by omega)
    refine ⟨fun i hi => by rw [e4, e86]; exact r1 i hi, fun b hb => ?_, fun s hs => ?_, fun u hu => by rw [e7, e89]; exact r4 u hu, fun l hl => ?_, h3, e2.trans e83.symm, hf, hp⟩
    · rw [bR, e87, hc (9 + 5 * b) (by omega) (by omega), hc (9 + 5 * b + 1) (by omega) (by omega), hc (9 + 5 * b + 2) (by omega) (by omega), hc (9 + 5 * b + 3) (by omega) (by omega), hc (9 + 5 * b + 4) (by omega) (by omega)]
      exact r2 b hb
    · rw [sR, e88, hc (19 + 4 * s) (by omega) (by omega), hc (19 + 4 * s + 1) (by omega) (by omega), hc (19 + 4 * s + 2) (by omega) (by omega), hc (19 + 4 * s + 3) (by omega) (by omega)]
      exact r3 s hs
    · rw [lR, e90, hc (27 + 3 * l) (by omega) (by omega), hc (27 + 3 * l + 1) (by omega) (by omega), hc (27 + 3 * l + 2) (by omega) (by omega)]
      exact r5 l hl
  have w' : cW D' I2 M m := fun b s hb hs h1 h2 => by
    have eb : bdO I2 b = bdO I b := by
      have : dwR I2 b = dwR I b := by funext p; rw [dwR, dwR, e87]
      rw [bdO, bdO, e87, this]
    rw [hD _ (by omega)] at h1
    rw [or _ (by omega)] at h2
    obtain ⟨w1, w2, w3⟩ := w b s hb hs h1 h2
    rw [eb, scO_up e88]
    exact ⟨fun j hj => by rw [or _ (by omega)]; exact w1 j hj, by rw [hM _ (by omega) (by omega)]; exact w2, fun x hx => by rw [hM _ (by omega) (by omega)]; exact w3 x hx⟩
  refine ⟨⟨m, ⟨g', n, hn, e83⟩, r', w'⟩, ⟨?_, ?_, fun j hj => ?_⟩, y2, fun k hk => ?_⟩
  · rw [o 57 0 (by unfold fr; omega)]; exact z.1
  · rw [o 59 0 (by unfold fr; omega)]; exact z.2.1
  · rw [or 64 (by omega)]; exact z.2.2 j hj
  · obtain ⟨i1, i2⟩ := im k hk
    rw [or 113 (by omega), hD k (by omega)]
    refine ⟨i1, fun hd => ?_⟩
    obtain ⟨K, m', i3⟩ := i2 hd
    refine ⟨K, m', IR_up i3 (fun a a1 a2 => or a (by omega)) (fun a a1 a2 j hj => ?_)⟩
    rw [← i3.2.2 a a1 a2 j hj]
    by_cases c82 : a = 82
    · subst c82; exact h82 _ (by show 600 ≤ 600 * (k + 1) + j; omega)
    · by_cases c83 : a = 83 ∨ a = 84 ∨ a = 85
      · rcases c83 with e | e | e <;> subst e
        · exact o _ _ (by show fr 83 (1 * (k + 1) + j); unfold fr; omega)
        · exact o _ _ (by show fr 84 (1 * (k + 1) + j); unfold fr; omega)
        · exact o _ _ (by show fr 85 (1 * (k + 1) + j); unfold fr; omega)
      · exact o _ _ (by unfold fr; omega)
theorem ok_feed (x1 x2 x3 x4 x5 : Int32) (h : INV D I L) : OK2 X (d + 2) al D I L 106 173 [vi x1, vi x2, vi x3, vi x4, vi x5] := by
  have h0 := h
  obtain ⟨⟨m, ⟨g, n, hn, en⟩, r, w⟩, z, y, im⟩ := h
  have e2 : I 2 1 = Int32.ofNat n := r.2.2.2.2.2.2.1.trans en
  have q1 := q_feed (X := X) (d := d) (al := al) (D := D) (I := I) (L := L) x1 x2 x3 x4 x5 hn e2
  by_cases h20 : n + 20 ≤ 600
  · simp only [dt h20, cond_true] at q1
    generalize hI1 : fd5 3 2 1 n x1 x2 x3 x4 x5 I = I1 at q1
    have o1 : ∀ b j, ¬ b = 3 → ¬ (b = 2 ∧ j = 1) → I1 b j = I b j := fun b j h1 h2 => by rw [← hI1]; exact fd5_o h1 h2
    have r1 := r_feed (X := X) (d := d) (al := al) (D := D) (I := I1) (L := L) x1 x2 x3 x4 x5 hn ((o1 83 0 (by omega) (by omega)).trans en)
    simp only [dt h20, cond_true] at r1
    generalize hI2 : fd5 82 83 0 n x1 x2 x3 x4 x5 (pm_up I1 81 0 0) = I2 at r1
    have o2 : ∀ b j, ¬ b = 82 → ¬ (b = 83 ∧ j = 0) → ¬ b = 81 → I2 b j = I1 b j := fun b j h1 h2 h3 => by rw [← hI2, fd5_o h1 h2, up_ne (by omega)]
    have o : ∀ b j, ¬ b = 3 → ¬ (b = 2 ∧ j = 1) → ¬ b = 82 → ¬ (b = 83 ∧ j = 0) → ¬ b = 81 → I2 b j = I b j := fun b j h1 h2 h3 h4 h5 => (o2 b j h3 h4 h5).trans (o1 b j h1 h2)
    have n83 : I2 83 0 = Int32.ofNat (n + 20) := by rw [← hI2]; exact fd5_c
    have n2 : I2 2 1 = Int32.ofNat (n + 20) := by rw [o2 2 1 (by omega) (by omega) (by omega), ← hI1]; exact fd5_c
    have h82 : ∀ k, I2 82 k = fd5 82 83 0 n x1 x2 x3 x4 x5 I 82 k := fun k => by rw [← hI2]; exact fd5_e (by decide) (by decide) (by rw [up_ne (by omega), o1 _ _ (by omega) (by omega)])
    refine ⟨_, al, D, I1, L, I2, L, q1, r1, INV_tape h0 (fun _ _ => rfl) (fun _ _ _ => rfl) h20 n83 n2 (fun k hk => ?_) (fun j hj => by rw [h82]; exact fd5_b (by decide) (y j hj)) (fun k hk => by rw [h82, fd5_h (by decide) (by omega)]) ?_ ?_ (fun b j hb => by unfold fr at hb; exact o b j (by omega) (by omega) (by omega) (by omega) (by omega)), gA_refl⟩
    · rw [h82, o2 3 k (by omega) (by omega) (by omega), ← hI1]
      exact fd5_e (by decide) (by decide) (r.2.2.2.2.2.1 k hk)
    · rw [o 2 2 (by omega) (by omega) (by omega) (by omega) (by omega), o 84 0 (by omega) (by omega) (by omega) (by omega) (by omega)]; exact r.2.2.2.2.2.2.2.1
    · rw [o 2 3 (by omega) (by omega) (by omega) (by omega) (by omega), o 85 0 (by omega) (by omega) (by omega) (by omega) (by omega)]; exact r.2.2.2.2.2.2.2.2
  · simp only [df h20, cond_false] at q1
    have r1 := r_feed (X := X) (d := d) (al := al) (D := D) (I := I) (L := L) x1 x2 x3 x4 x5 hn en
    simp only [df h20, cond_false] at r1
    exact ⟨_, al, D, I, L, _, L, q1, r1, INV_r h0 rF_code (fun _ _ _ => rfl), gA_refl⟩
theorem ok_end (x : Int32) (h : INV D I L) : OK2 X (d + 2) al D I L 107 175 [vi x] := by
  have h0 := h
  obtain ⟨⟨m, ⟨g, n, hn, en⟩, r, w⟩, z, y, im⟩ := h
  have q1 := q_end (X := X) (d := d + 1) (al := al) (D := D) (I := I) (L := L) x r
  cases hv : vEnd I x with
  | true =>
    rw [hv, cond_true, cond_true] at q1
    have hv1 : vEnd (pm_up I 2 1 x) x = true := by rw [vEnd, up_ne (by omega)]; exact hv
    have r1 := r_end (X := X) (d := d) (al := al) (D := D) (I := pm_up I 2 1 x) (L := L) x
    rw [hv1, cond_true, cond_true] at r1
    have hx : 0 ≤ x ∧ x ≤ I 83 0 := of_decide_eq_true hv
    have hx0 : x = Int32.ofNat x.toNatClampNeg := n_of hx.1
    have hxn : x.toNatClampNeg ≤ n := by
      have := hx.2
      rw [en, t_le, n_ti (by omega)] at this
      rw [t_tn]; omega
    generalize hI2 : pm_up (pm_up (pm_up I 2 1 x) 81 0 0) 83 0 x = I2 at r1
    have o : ∀ b j, ¬ (b = 2 ∧ j = 1) → ¬ (b = 83 ∧ j = 0) → ¬ b = 81 → I2 b j = I b j := fun b j h1 h2 h3 => by rw [← hI2, up_ne (by omega), up_ne (by omega), up_ne (by omega)]
    refine ⟨_, al, D, _, L, I2, L, q1, r1, INV_tape (n := x.toNatClampNeg) h0 (fun _ _ => rfl) (fun _ _ _ => rfl) (by omega) ?_ ?_ (fun k hk => ?_) (fun j hj => by rw [o 82 j (by omega) (by omega) (by omega)]; exact y j hj) (fun k hk => o _ _ (by omega) (by omega) (by omega)) ?_ ?_ (fun b j hb => by unfold fr at hb; exact o b j (by omega) (by omega) (by omega)), gA_refl⟩
    · rw [← hx0, ← hI2, up_eq]
    · rw [← hx0, ← hI2, up_ne (by omega), up_ne (by omega), up_eq]
    · rw [o 3 k (by omega) (by omega) (by omega), o 82 k (by omega) (by omega) (by omega)]; exact r.2.2.2.2.2.1 k hk
    · rw [o 2 2 (by omega) (by omega) (by omega), o 84 0 (by omega) (by omega) (by omega)]; exact r.2.2.2.2.2.2.2.1
    · rw [o 2 3 (by omega) (by omega) (by omega), o 85 0 (by omega) (by omega) (by omega)]; exact r.2.2.2.2.2.2.2.2
  | false =>
    rw [hv, cond_false, cond_false] at q1
    have r1 := r_end (X := X) (d := d) (al := al) (D := D) (I := I) (L := L) x
    rw [hv, cond_false, cond_false] at r1
    exact ⟨_, al, D, I, L, _, L, q1, r1, INV_r h0 rF_code (fun _ _ _ => rfl), gA_refl⟩
theorem tb_ne {k j : Nat} (h : ¬ j = k) : pm_tb k D j = D j := by show cond (Nat.beq j k) true (D j) = D j; rw [beq_f h]; rfl
theorem tb_eq {k : Nat} : pm_tb k D k = true := by show cond (Nat.beq k k) true (D k) = true; rw [Nat.beq_refl]; rfl
theorem wd1 (a : Nat) : 1 ≤ wd a := by unfold wd; repeat' split
                                       all_goals omega
theorem ok_image (x : Int32) (h : INV D I L) : OK2 X (d + 4) al D I L 111 282 [vi x] := by
  have h0 := h
  obtain ⟨⟨m, g, r, w⟩, z, y, im⟩ := h
  cases hx : pm_in x 3 with
  | false => exact ⟨_, al, D, I, L, _, L, q_image_n (d := d + 3) hx, r_image_n (d := d + 2) hx, INV_r h0 rF_code (fun _ _ _ => rfl), gA_refl⟩
  | true =>
    obtain ⟨k, hk, ek⟩ := in_nat hx
    subst ek
    obtain ⟨I1, c1, c2, c3⟩ := q_image_k (X := X) (d := d) (al := al) (D := D) (I := I) (L := L) hk
    obtain ⟨J, k1, k2⟩ := r_image_k (X := X) (d := d + 1) (al := cond (D k) al (niL k al)) (D := pm_tb k D) (I := I1) (L := L) hk (fun j hj => by rw [c3 82 (by omega)]; exact y j hj)
    generalize hI2 : pm_up J 113 k 1 = I2 at k1
    have o1 : ∀ a, ¬ a = 113 → I2 a = J a := fun a ha => by rw [← hI2]; exact up_rw ha
    have o2 : ∀ a, ¬ (82 ≤ a ∧ a ≤ 90) → ¬ a = 81 → J a = I1 a := fun a h1 h2 => by rw [k2.2 a h1]; exact up_rw h2
    have o3 : ∀ a, ¬ (82 ≤ a ∧ a ≤ 90) → ¬ a = 81 → ¬ a = 113 → ¬ (120 + 31 * k ≤ a ∧ a ≤ 150 + 31 * k) → I2 a = I a := fun a h1 h2 h3 h4 => by rw [o1 a h3, o2 a h1 h2, c3 a h4]
    have v0 : ∀ a, 82 ≤ a → a ≤ 90 → pm_up I1 81 0 0 a = I a := fun a h1 h2 => by rw [up_rw (by omega), c3 a (by omega)]
    have lo : ∀ a j, 82 ≤ a → a ≤ 90 → j < wd a → I2 a j = I a j := fun a j h1 h2 hj => by
      rw [o1 a (by omega), (k2.1 a h1 h2).2 j (by have := Nat.mul_le_mul_left (wd a) (show 1 ≤ k + 1 by omega); rw [Nat.mul_one] at this; omega), v0 a h1 h2]
    have tp : tP I I2 := ⟨fun i j hc => by have := cc_le hc; rw [o3 _ (by omega) (by omega) (by omega) (by omega)], lo⟩
    refine ⟨_, _, pm_tb k D, I1, L, I2, L, c1, k1, ⟨⟨m, TG_pt lo g, RL_pt tp g.1 r, cW_pt lo g.1 (fun a h1 h2 => ⟨o3 a (by omega) (by omega) (by omega) (by omega), rfl⟩) (fun i hi => tb_ne (by omega)) w⟩, ⟨?_, ?_, fun j hj => ?_⟩, fun j hj => ?_, fun k' hk' => ?_⟩, fun P _ h2 _ hP => h2 al D k hk hP⟩
    · rw [o3 57 (by omega) (by omega) (by omega) (by omega)]; exact z.1
    · rw [o3 59 (by omega) (by omega) (by omega) (by omega)]; exact z.2.1
    · rw [o3 64 (by omega) (by omega) (by omega) (by omega)]; exact z.2.2 j hj
    · rw [o1 82 (by omega)]
      have hc := k2.1 82 (by omega) (by omega)
      have hc1 : ∀ i, i < 600 → J 82 (600 * (k + 1) + i) = I 82 (600 * 0 + i) := fun i hi => by rw [← v0 82 (by omega) (by omega)]; exact hc.1 i hi
      have hc2 : ∀ i, ¬ (600 * (k + 1) ≤ i ∧ i < 600 * (k + 1) + 600) → J 82 i = I 82 i := fun i hi => by rw [← v0 82 (by omega) (by omega)]; exact hc.2 i hi
      by_cases c : 600 * (k + 1) ≤ j ∧ j < 600 * (k + 1) + 600
      · have := hc1 (j - 600 * (k + 1)) (by omega)
        rw [show 600 * (k + 1) + (j - 600 * (k + 1)) = j by omega] at this
        rw [this]; exact y _ (by omega)
      · rw [hc2 j c]; exact y j hj
    · have mr0 : MR (pm_up I1 81 0 0) I 0 := fun a h1 h2 j _ => by rw [Nat.mul_zero, Nat.zero_add, v0 a h1 h2]
      by_cases c : k' = k
      · subst c
        rw [← hI2, up_eq, tb_eq]
        refine ⟨rfl, fun _ => ⟨I, m, IR_image g r (fun i j hc => ?_) (fun a h1 h2 j hj => ?_)⟩⟩
        · have := cc_le hc
          rw [hI2, o1 _ (by omega), o2 _ (by omega) (by omega)]; exact c2 i j hc
        · rw [hI2, o1 a (by omega)]; exact MR_c k2 mr0 a h1 h2 j hj
      · obtain ⟨i1, i2⟩ := im k' hk'
        rw [tb_ne c]
        refine ⟨?_, fun hd => ?_⟩
        · rw [← hI2, up_ne (by omega), o2 113 (by omega) (by omega), c3 113 (by omega)]; exact i1
        · obtain ⟨K, m', i3⟩ := i2 hd
          refine ⟨K, m', IR_up i3 (fun a a1 a2 => o3 a (by omega) (by omega) (by omega) (by omega)) (fun a h1 h2 j hj => ?_)⟩
          rw [o1 a (by omega)]
          exact MR_o (u := k' + 1) k2 (by omega) (fun a h1 h2 j hj => by rw [v0 a h1 h2]; exact i3.2.2 a h1 h2 j hj) a h1 h2 j hj
theorem ok_again (x : Int32) (h : INV D I L) : OK2 X (d + 3) al D I L 112 283 [vi x] := by
  have h0 := h
  obtain ⟨⟨m, g, r, w⟩, z, y, im⟩ := h
  cases hx : pm_in x 3 with
  | false => exact ⟨_, al, D, I, L, _, L, q_again_n (d := d + 2) hx, r_again_n (d := d + 1) hx, INV_r h0 rF_code (fun _ _ _ => rfl), gA_refl⟩
  | true =>
    obtain ⟨k, hk, ek⟩ := in_nat hx
    subst ek
    obtain ⟨e113, i2⟩ := im k hk
    cases hd : D k with
    | false =>
      rw [hd] at e113
      exact ⟨_, al, D, I, L, _, L, q_again_0 (d := d + 2) hk hd, r_again_0 (d := d + 1) hk e113, INV_r h0 rF_code (fun _ _ _ => rfl), gA_refl⟩
    | true =>
      rw [hd] at e113
      obtain ⟨K, m', ir⟩ := i2 hd
      obtain ⟨I1, c1, c2, c3, c4⟩ := q_again_k (X := X) (d := d) (al := al) (D := D) (I := I) (L := L) hk hd
      have c3r : ∀ a, ¬ (2 ≤ a ∧ a ≤ 32) → ¬ (220 ≤ a ∧ a ≤ 229) → I1 a = I a := fun a h1 h2 => by funext j; exact c3 a j h1 h2
      obtain ⟨I2, k1, k2⟩ := r_again_k (X := X) (d := d) (al := al) (D := D) (I := I1) (L := L) hk (by rw [c3 _ _ (by omega) (by omega)]; exact e113) (fun j hj => by rw [c3r 82 (by omega) (by omega)]; exact y j hj)
      have v0 : ∀ a, 82 ≤ a → a ≤ 90 → pm_up I1 81 0 0 a = I a := fun a h1 h2 => by rw [up_rw (by omega), c3r a (by omega) (by omega)]
      have o2 : ∀ a, ¬ (82 ≤ a ∧ a ≤ 90) → ¬ a = 81 → I2 a = I1 a := fun a h1 h2 => by rw [k2.2 a h1]; exact up_rw h2
      have o3 : ∀ a, ¬ (82 ≤ a ∧ a ≤ 90) → ¬ a = 81 → ¬ (2 ≤ a ∧ a ≤ 32) → ¬ (220 ≤ a ∧ a ≤ 229) → I2 a = I a := fun a h1 h2 h3 h4 => by rw [o2 a h1 h2, c3r a h3 h4]
      have mrk : MR (pm_up I1 81 0 0) K (k + 1) := fun a h1 h2 j hj => by rw [v0 a h1 h2]; exact ir.2.2 a h1 h2 j hj
      have mr0 : MR I2 K 0 := MR_c k2 mrk
      obtain ⟨g', r'⟩ := IR_again (J := I2) ir (fun i j hc => by have := cc_le hc; rw [o2 _ (by omega) (by omega)]; exact c2 i j hc) mr0
      refine ⟨_, al, D, I1, L, I2, L, c1, k1, ⟨⟨m', g', r', cW_forget (fun i hi hdi => by rw [o2 _ (by omega) (by omega)]; exact c4 i hi hdi) (g'.1.1 0 (by omega)).1 (g'.1.1 1 (by omega)).1⟩, ⟨?_, ?_, fun j hj => ?_⟩, fun j hj => ?_, fun k' hk' => ?_⟩, gA_refl⟩
      · rw [o3 57 (by omega) (by omega) (by omega) (by omega)]; exact z.1
      · rw [o3 59 (by omega) (by omega) (by omega) (by omega)]; exact z.2.1
      · rw [o3 64 (by omega) (by omega) (by omega) (by omega)]; exact z.2.2 j hj
      · have hc := k2.1 82 (by omega) (by omega)
        have hc1 : ∀ i, i < 600 → I2 82 (600 * 0 + i) = I 82 (600 * (k + 1) + i) := fun i hi => by rw [← v0 82 (by omega) (by omega)]; exact hc.1 i hi
        have hc2 : ∀ i, ¬ (600 * 0 ≤ i ∧ i < 600 * 0 + 600) → I2 82 i = I 82 i := fun i hi => by rw [← v0 82 (by omega) (by omega)]; exact hc.2 i hi
        by_cases c : j < 600
        · have := hc1 j c
          rw [Nat.mul_zero, Nat.zero_add] at this
          rw [this]; exact y _ (by omega)
        · rw [hc2 j (by omega)]; exact y j hj
      · obtain ⟨i1, i2'⟩ := im k' hk'
        rw [o3 113 (by omega) (by omega) (by omega) (by omega)]
        refine ⟨i1, fun hd' => ?_⟩
        obtain ⟨K', m'', i3⟩ := i2' hd'
        refine ⟨K', m'', IR_up i3 (fun a a1 a2 => o3 a (by omega) (by omega) (by omega) (by omega)) (MR_o (u := k' + 1) k2 (by omega) (fun a h1 h2 j hj => by rw [v0 a h1 h2]; exact i3.2.2 a h1 h2 j hj))⟩
end
