section
variable {X : Nat × (Nat → Int32)} {d : Nat} {al : List Nat} {D : Nat → Bool} {I : Nat → Nat → Int32} {L : Nat → Nat → Int64}
theorem INV_bad {K I2 : Nat → Nat → Int32} {M : Nat → Nat → Int64} {D' : Nat → Bool} (h : INV D I L) (hD : ∀ k, k < 7 → D' k = D k) (hM : ∀ a, 220 ≤ a → a < 232 → M a = L a) (k1 : ∀ a j, ¬ a = 2 → ¬ (34 ≤ a ∧ a ≤ 48) → K a j = I a j) (k21 : K 2 1 = 0) (f : ∀ a j, ¬ a = 81 → ¬ a = 91 → ¬ a = 92 → ¬ ((a = 83 ∨ a = 84 ∨ a = 85) ∧ j = 0) → I2 a j = K a j) (e83 : I2 83 0 = 0) (e84 : I2 84 0 = K 2 2) (e85 : I2 85 0 = K 2 3) : INV D' I2 M := by
  have h0 := h
  obtain ⟨⟨m, g, r, w⟩, z, y, im⟩ := h
  have o : ∀ a j, ¬ a = 2 → ¬ (34 ≤ a ∧ a ≤ 48) → ¬ a = 81 → ¬ a = 91 → ¬ a = 92 → ¬ ((a = 83 ∨ a = 84 ∨ a = 85) ∧ j = 0) → I2 a j = I a j := fun a j h1 h2 h3 h4 h5 h6 => by rw [f a j h3 h4 h5 h6, k1 a j h1 h2]
  refine INV_tape (n := 0) h0 hD hM (by omega) (by rw [e83]; rfl) (by rw [f _ _ (by omega) (by omega) (by omega) (by omega), k21]; rfl) (fun k hk => ?_) (fun j hj => ?_) (fun k hk => o _ _ (by omega) (by omega) (by omega) (by omega) (by omega) (by omega)) ?_ ?_ (fun b j hb => by unfold fr at hb; exact o b j (by omega) (by omega) (by omega) (by omega) (by omega) (by omega))
  · rw [o 3 k (by omega) (by omega) (by omega) (by omega) (by omega) (by omega), o 82 k (by omega) (by omega) (by omega) (by omega) (by omega) (by omega)]; exact r.2.2.2.2.2.1 k hk
  · rw [o 82 j (by omega) (by omega) (by omega) (by omega) (by omega) (by omega)]; exact y j hj
  · rw [f _ _ (by omega) (by omega) (by omega) (by omega)]; exact e84.symm
  · rw [f _ _ (by omega) (by omega) (by omega) (by omega)]; exact e85.symm
/-- the tape is taken: the class; the reference -/
def tkC (I : Nat → Nat → Int32) : Nat → Nat → Int32 := pm_up (pm_up (pm_up I 2 1 0) 2 2 0) 2 3 (-1)
def tkM (I : Nat → Nat → Int32) : Nat → Nat → Int32 := pm_up (pm_up (pm_up (pm_up (pm_up I 81 0 0) 81 11 (I 83 0)) 83 0 0) 84 0 0) 85 0 (-1)
theorem tkC_o {a j : Nat} (h : ¬ a = 2) : tkC I a j = I a j := by rw [tkC, up_ne (by omega), up_ne (by omega), up_ne (by omega)]
theorem tkC_1 : tkC I 2 1 = 0 ∧ tkC I 2 2 = 0 ∧ tkC I 2 3 = -1 := ⟨by rw [tkC, up_ne (by omega), up_ne (by omega), up_eq], by rw [tkC, up_ne (by omega), up_eq], by rw [tkC, up_eq]⟩
theorem tkM_o {a j : Nat} (h : ¬ a = 81) (h2 : ¬ ((a = 83 ∨ a = 84 ∨ a = 85) ∧ j = 0)) : tkM I a j = I a j := by rw [tkM, up_ne (by omega), up_ne (by omega), up_ne (by omega), up_ne (by omega), up_ne (by omega)]
theorem tkM_1 : tkM I 83 0 = 0 ∧ tkM I 84 0 = 0 ∧ tkM I 85 0 = -1 ∧ tkM I 81 11 = I 83 0 := ⟨by rw [tkM, up_ne (by omega), up_ne (by omega), up_eq], by rw [tkM, up_ne (by omega), up_eq], by rw [tkM, up_eq], by rw [tkM, up_ne (by omega), up_ne (by omega), up_ne (by omega), up_eq]⟩
theorem INV_none (h : INV D I L) : INV D (tkM (tkC I)) L := INV_bad (K := tkC I) h (fun _ _ => rfl) (fun _ _ _ => rfl) (fun a j h1 _ => tkC_o h1) tkC_1.1 (fun a j h1 _ _ h4 => tkM_o h1 h4) tkM_1.1 (tkM_1.2.1.trans tkC_1.2.1.symm) (tkM_1.2.2.1.trans tkC_1.2.2.symm)
/-- a text is read -/
theorem txt_go {m : Nat → Nat} {n s k : Nat} {x2 : Int32} (h : INV D I L) (g : TG I m) (r : RL I m) (w : cW D I L m) (hn : n ≤ 600) (en : I 83 0 = Int32.ofNat n) (hs : s < 4) (hk : k < 2) (hx : (x2 = -1 ∧ m s = k) ∨ (¬ x2 = -1 ∧ x2 = Int32.ofNat k ∧ k < m s)) :
    ∃ v K I2 M, Rn X (d + 8) co_Ch_text (92, [some (vr 1), some (vi (Int32.ofNat s)), some (vi x2), some (vi (Int32.ofNat n)), some (vi (b01 (decide (x2 = -1)))), none], [], pm_mm al D (tkC I) L) = some (some (vi v), pm_mm al (pm_tb 7 D) K L) ∧ Rn X (d + 8) co_Mo_text (75, [some (vr 81), some (vi (Int32.ofNat s)), some (vi x2), none], [], pm_mm al (pm_tb 7 D) (tkM K) L) = some (some (vi v), pm_mm al (pm_tb 7 D) I2 M) ∧ INV (pm_tb 7 D) I2 M ∧ K 86 s = I 86 s := by
  have h0 := h
  obtain ⟨_, z, y, im⟩ := h
  have hD : ∀ i, i < 7 → pm_tb 7 D i = D i := fun i hi => tb_ne (by omega)
  obtain ⟨K0, k1, k2, k3⟩ := k_read (X := X) (d := d + 4) (al := al) (D := D) (I := tkC I) (L := L) (T := I 82) (n := n) (s := s) hn hs (fun j hj => by rw [tkC_o (by omega)]; exact r.2.2.2.2.2.1 j hj)
  have s0 : Rn X (d + 8) co_Ch_text (92, [some (vr 1), some (vi (Int32.ofNat s)), some (vi x2), some (vi (Int32.ofNat n)), some (vi (b01 (decide (x2 = -1)))), none], [], pm_mm al D (tkC I) L) = Rn X (d + 8) co_Ch_text (108, [some (vr 1), some (vi (Int32.ofNat s)), some (vi x2), some (vi (Int32.ofNat n)), some (vi (b01 (decide (x2 = -1)))), none], [], pm_mm al (pm_tb 7 D) K0 L) := by
    rw [sg_Ch_text_92, k1]
    simp only [Option.bind_some, pm_av]
  have k0 : ∀ a j, ¬ a = 2 → ¬ (34 ≤ a ∧ a ≤ 48) → K0 a j = I a j := fun a j h1 h2 => by rw [k2 a j h2, tkC_o h1]
  have k21 : K0 2 1 = 0 := by rw [k2 2 1 (by omega)]; exact tkC_1.1
  have tpm : ∀ K : Nat → Nat → Int32, (∀ a j, a = 82 ∨ (a = 83 ∧ j = 0) → K a j = I a j) → tpM (tkM K) (I 82) n := fun K hK => ⟨by rw [tkM_1.2.2.2, hK 83 0 (by omega)]; exact en, hn, fun j hj => ⟨by rw [tkM_o (by omega) (by omega), hK 82 j (by omega)], y j (by omega)⟩⟩
  have frM : ∀ M : Nat → Nat → Int64, frL L M → ∀ a, 220 ≤ a → a < 232 → M a = L a := fun M hM a h1 h2 => by funext j; exact hM a j (by omega)
  -- a fault: both tell it
  have bad : ∀ (F G : Int32) (J : Nat → Nat → Int32) (M : Nat → Nat → Int64), fr5 (tkM (pm_up (pm_up K0 2 2 F) 2 3 G)) J → J 84 0 = F → J 85 0 = G → frL L M → INV (pm_tb 7 D) J M := fun F G J M h1 h2 h3 h4 => by
    refine INV_bad (K := pm_up (pm_up K0 2 2 F) 2 3 G) h0 hD (frM M h4) (fun a j a1 a2 => by rw [up_ne (by omega), up_ne (by omega)]; exact k0 a j a1 a2) (by rw [up_ne (by omega), up_ne (by omega)]; exact k21) (fun a j a1 a2 a3 a4 => by rw [h1 a j a1 a2 a3 (by omega), tkM_o a1 a4]) (by rw [h1 _ _ (by omega) (by omega) (by omega) (by omega)]; exact tkM_1.1) (by rw [h2, up_ne (by omega), up_eq]) (by rw [h3, up_eq])
  have rd : ∀ K : Nat → Nat → Int32, (∀ a j, a = 82 ∨ (a = 83 ∧ j = 0) → K a j = I a j) → _ := fun K hK => c_readText (X := X) (d := d) (al := al) (D := pm_tb 7 D) (I := tkM K) (L := L) (T := I 82) (n := n) (s := s) hs (tpm K hK)
  cases hr : rdR s (I 82) n with
  | inl q =>
    rw [hr] at k3
    obtain ⟨e4, e5⟩ := k3
    have e4 : K0 34 4 = 1 := e4
    have e5 : K0 34 5 = Int32.ofNat q := e5
    have rr := rd (pm_up (pm_up K0 2 2 1) 2 3 (Int32.ofNat q)) (fun a j hh => by rw [up_ne (by omega), up_ne (by omega), k0 a j (by omega) (by omega)])
    rw [hr] at rr
    obtain ⟨J, M, c1, c2, c3, c4, c5⟩ := rr
    refine ⟨-1, pm_up (pm_up K0 2 2 1) 2 3 (Int32.ofNat q), J, M, ?_, ?_, bad _ _ J M c4 c2 c3 c5, by rw [up_ne (by omega), up_ne (by omega)]; exact k0 86 s (by omega) (by omega)⟩
    · rw [s0, sg_Ch_text_108, e4, e5, show decide ((1 : Int32) = 0) = false from rfl, cond_false]
    · rw [sg_Mo_text_75, c1]
      simp only [Option.bind_some, pm_ai]
      rw [sg_Mo_text_80, show decide ((0 : Int32) = 0) = true from rfl, cond_true]
  | inr x =>
    obtain ⟨ℓ, f, P⟩ := x
    rw [hr] at k3
    obtain ⟨fc, cp⟩ := k3
    have fc : fC (fbe s n ℓ f P) K0 := fc
    have cp : CP s ℓ P K0 := cp
    obtain ⟨q1, q2, q3, q4⟩ := fc
    by_cases hz : (fbe s n ℓ f P).1 = 0
    · -- it is told
      have hf0 : f.1 = 0 ∧ (s = 1 → lst P ℓ < 12) := by
        unfold fbe at hz
        cases hc : (decide (s = 1) && (decide (f.1 = 0) && bey P ℓ)) with
        | true => rw [hc, cond_true] at hz; cases hz
        | false =>
          rw [hc, cond_false] at hz
          refine ⟨hz, fun hs1 => ?_⟩
          rw [dt hs1, dt hz, Bool.true_and, Bool.true_and] at hc
          have := of_decide_eq_false hc
          omega
      obtain ⟨_, gp⟩ := txt_good (s := s) (n := n) (T := I 82) hs n (sk (I 82) n 0) 0 (0, 0) (P0 s) ℓ f P hr hf0.1
      have gp := gp (GP_0 hs)
      have hm := g.1.1 s hs
      have e4s : K0 4 s = Int32.ofNat (m s) := by rw [k0 4 s (by omega) (by omega)]; exact (r.1 s hs).trans hm.2
      have hkm : k ≤ m s := by rcases hx with hx | hx <;> omega
      obtain ⟨Q, u1, u2, u3, u4⟩ := k_keep (X := X) (d := d + 6) (al := al) (D := pm_tb 7 D) (I := K0) (L := L) (k := k) hs hk cp gp hm.1 e4s
      obtain ⟨Q2, v1, v2, v3⟩ := k_forget (X := X) (d := d + 7) (al := al) (D := pm_tb 7 D) (I := Q) (L := L)
      -- the class's end
      have kend : ∃ K, Rn X (d + 8) co_Ch_text (92, [some (vr 1), some (vi (Int32.ofNat s)), some (vi x2), some (vi (Int32.ofNat n)), some (vi (b01 (decide (x2 = -1)))), none], [], pm_mm al D (tkC I) L) = some (some (vi (Int32.ofNat k)), pm_mm al (pm_tb 7 D) K L) ∧ (∀ a j, ¬ (220 ≤ a ∧ a ≤ 229 ∧ j = 3) → K a j = Q a j) ∧ (2 ≤ s → K = Q) ∧ (s ≤ 1 → ∀ i, i < 4 → pm_tb 7 D (3 + i) = true → K (220 + 3 * i) 3 = 0) := by
        have st : Rn X (d + 8) co_Ch_text (92, [some (vr 1), some (vi (Int32.ofNat s)), some (vi x2), some (vi (Int32.ofNat n)), some (vi (b01 (decide (x2 = -1)))), none], [], pm_mm al D (tkC I) L) = Rn X (d + 8) co_Ch_text (182, [some (vr 1), some (vi (Int32.ofNat s)), some (vi x2), some (vi (Int32.ofNat n)), pm_nl (some (vi (b01 (decide (x2 = -1))))), some (vi (Int32.ofNat k))], [], pm_mm al (pm_tb 7 D) Q L) := by
          have h166 : Rn X (d + 8) co_Ch_text (166, [some (vr 1), some (vi (Int32.ofNat s)), some (vi x2), some (vi (Int32.ofNat n)), some (vi (b01 (decide (x2 = -1)))), none], [vi (Int32.ofNat k)], pm_mm al (pm_tb 7 D) K0 L) = Rn X (d + 8) co_Ch_text (182, [some (vr 1), some (vi (Int32.ofNat s)), some (vi x2), some (vi (Int32.ofNat n)), pm_nl (some (vi (b01 (decide (x2 = -1))))), some (vi (Int32.ofNat k))], [], pm_mm al (pm_tb 7 D) Q L) := by
            rw [sg_Ch_text_166, u1]
            simp only [Option.bind_some, pm_av]
          rw [s0, sg_Ch_text_108, q3, hz, show decide (Int32.ofNat 0 = 0) = true from rfl, cond_true, b01_ne, n_in (by omega), dt hs, cond_true, n_tn (by omega), e4s]
          rcases hx with ⟨e1, e2⟩ | ⟨e1, e2, e3⟩
          · rw [dt e1, Bool.not_true, cond_false, e2]
            rw [dt e1] at h166; exact h166
          · rw [df e1, Bool.not_false, cond_true]
            rw [df e1, ← e2] at h166
            rw [← e2]; exact h166
        by_cases hs1 : s = 0 ∨ s = 1
        · refine ⟨Q2, ?_, v2, fun c => by omega, fun _ => v3⟩
          have h191 : ∀ o1 o2 o3 o4, Rn X (d + 8) co_Ch_text (191, [some (vr 1), o1, o2, o3, o4, some (vi (Int32.ofNat k))], [], pm_mm al (pm_tb 7 D) Q L) = some (some (vi (Int32.ofNat k)), pm_mm al (pm_tb 7 D) Q2 L) := fun o1 o2 o3 o4 => by
            rw [sg_Ch_text_191, v1]
            simp only [Option.bind_some, pm_av]
            rw [sg_Ch_text_195]
          rw [st, sg_Ch_text_182, h191]
          rcases hs1 with c | c <;> subst c
          · rw [show decide (Int32.ofNat 0 = 0) = true from rfl, cond_true]
          · rw [show decide (Int32.ofNat 1 = 0) = false from rfl, cond_false, show decide (Int32.ofNat 1 = 1) = true from rfl, cond_true]
        · refine ⟨Q, ?_, fun _ _ _ => rfl, fun _ => rfl, fun c => absurd c (by omega)⟩
          rw [st, sg_Ch_text_182, show decide (Int32.ofNat s = 0) = false from (n_deq (b := 0) (by omega) (by omega)).trans (df (by omega)), cond_false, show decide (Int32.ofNat s = 1) = false from (n_deq (b := 1) (by omega) (by omega)).trans (df (by omega)), cond_false, sg_Ch_text_195]
      obtain ⟨K, w1, w2, w3, w4⟩ := kend
      have kq : ∀ a j, ¬ a = 2 → ¬ (34 ≤ a ∧ a ≤ 48) → ¬ itm s k a j → ¬ (a = 4 ∧ j = s) → ¬ (220 ≤ a ∧ a ≤ 229 ∧ j = 3) → K a j = I a j := fun a j h1 h2 h3 h4 h5 => by rw [w2 a j h5, u4 a j h3 h4, k0 a j h1 h2]
      have k82 : ∀ a j, a = 82 ∨ (a = 83 ∧ j = 0) → K a j = I a j := fun a j hh => kq a j (by omega) (by omega) (by unfold itm; omega) (by omega) (by omega)
      have rr := rd K k82
      rw [hr] at rr
      obtain ⟨J, M, c1, c2, c3, c4, c5, c6⟩ := rr
      have c1 : Cl X (d + 8) 190 [vr 81, vi (Int32.ofNat s)] (pm_mm al (pm_tb 7 D) (tkM K) L) = some (some (vi 1), pm_mm al (pm_tb 7 D) J M) := by rw [c1, dt hz]; rfl
      have c2 : J 84 0 = 0 := by rw [c2, hz]; rfl
      have c3 : J 85 0 = -1 := by rw [c3, dt hz, cond_true]
      have c4 : RP s ℓ P f J := c4
      have jK : ∀ a j, ¬ a = 81 → ¬ a = 91 → ¬ a = 92 → ¬ ((a = 83 ∨ a = 84 ∨ a = 85) ∧ j = 0) → J a j = K a j := fun a j a1 a2 a3 a4 => by rw [c5 a j a1 a2 a3 (by omega), tkM_o a1 a4]
      have jI : ∀ a j, ¬ a = 81 → ¬ a = 91 → ¬ a = 92 → ¬ ((a = 83 ∨ a = 84 ∨ a = 85) ∧ j = 0) → ¬ a = 2 → ¬ (34 ≤ a ∧ a ≤ 48) → ¬ itm s k a j → ¬ (a = 4 ∧ j = s) → ¬ (220 ≤ a ∧ a ≤ 229 ∧ j = 3) → J a j = I a j := fun a j a1 a2 a3 a4 a5 a6 a7 a8 a9 => by rw [jK a j a1 a2 a3 a4, kq a j a5 a6 a7 a8 a9]
      have j86 : ∀ i, J 86 i = I 86 i := fun i => jI 86 i (by omega) (by omega) (by omega) (by omega) (by omega) (by omega) (by unfold itm; omega) (by omega) (by omega)
      have j86s : J 86 s = Int32.ofNat (m s) := (j86 s).trans hm.2
      have nmR : NM s ℓ P (J 91) := by
        have hc : s = 0 ∨ s = 1 ∨ s = 2 ∨ s = 3 := by omega
        rcases hc with c | c | c | c <;> subst c
        · obtain ⟨p1, p2⟩ := c4
          rw [Nat.min_eq_left gp.1] at p1
          exact ⟨p1, p2⟩
        · obtain ⟨p1, p2, _⟩ := c4
          rw [Nat.min_eq_left gp.1] at p1
          exact ⟨p1, p2⟩
        · exact c4 hf0.1
        · obtain ⟨p1, p2⟩ := c4
          rw [Nat.min_eq_left gp.1] at p1
          exact ⟨p1, p2⟩
      obtain ⟨I2, y1, y2, y3⟩ := c_storeAll (X := X) (d := d + 6) (al := al) (D := pm_tb 7 D) (I := pm_up J 86 s (Int32.ofNat (mm' m s k s))) (L := M) hs hk
      have mms : mm' m s k s = max (m s) (k + 1) := by unfold mm'; rw [if_pos rfl]
      refine ⟨Int32.ofNat k, K, I2, M, w1, ?_, ?_, kq 86 s (by omega) (by omega) (by unfold itm; omega) (by omega) (by omega)⟩
      · have h118 : ∀ o2 u, J 86 s + u = Int32.ofNat (mm' m s k s) → Rn X (d + 8) co_Mo_text (118, [some (vr 81), some (vi (Int32.ofNat s)), o2, some (vi (Int32.ofNat k))], [vi u, vi (J 86 s), vi (Int32.ofNat s), vr 86], pm_mm al (pm_tb 7 D) J M) = some (some (vi (Int32.ofNat k)), pm_mm al (pm_tb 7 D) I2 M) := fun o2 u hu => by
          rw [sg_Mo_text_118, n_in (by omega), dt (show s < 16 by omega), cond_true, n_tn (by omega), hu, y1]
          simp only [Option.bind_some, pm_av]
          rw [sg_Mo_text_126]
        rw [sg_Mo_text_75, c1]
        simp only [Option.bind_some, pm_ai]
        rw [sg_Mo_text_80, show decide ((1 : Int32) = 0) = false from rfl, cond_false, n_in (by omega), dt (show s < 16 by omega), cond_true, n_tn (by omega)]
        rcases hx with ⟨e1, e2⟩ | ⟨e1, e2, e3⟩
        · rw [dt e1, cond_true, j86s, e2, sg_Mo_text_100, n_in (by omega), dt (show s < 16 by omega), cond_true, dt e1, cond_true, n_tn (by omega)]
          exact h118 _ 1 (by rw [j86s, n_s, mms, e2, Nat.max_eq_right (by omega)])
        · rw [df e1, cond_false, sg_Mo_text_100, n_in (by omega), dt (show s < 16 by omega), cond_true, df e1, cond_false, n_tn (by omega)]
          have := h118 (some (vi x2)) 0 (by rw [Int32.add_zero, j86s, mms, Nat.max_eq_left (by omega)])
          rw [← e2] at this ⊢
          exact this
      · have iJ : ∀ a j, ¬ (a = 86 ∧ j = s) → ¬ (a = 87 + s ∧ rwd s * k ≤ j ∧ j < rwd s * k + rwd s) → I2 a j = J a j := fun a j a1 a2 => by rw [y3 a j a2, up_ne a1]
        have iI : ∀ a j, ¬ a = 81 → ¬ a = 91 → ¬ a = 92 → ¬ ((a = 83 ∨ a = 84 ∨ a = 85) ∧ j = 0) → ¬ a = 2 → ¬ (34 ≤ a ∧ a ≤ 48) → ¬ itm s k a j → ¬ (a = 4 ∧ j = s) → ¬ (220 ≤ a ∧ a ≤ 229 ∧ j = 3) → ¬ (a = 86 ∧ j = s) → ¬ (a = 87 + s ∧ rwd s * k ≤ j ∧ j < rwd s * k + rwd s) → I2 a j = I a j := fun a j a1 a2 a3 a4 a5 a6 a7 a8 a9 b1 b2 => by rw [iJ a j b1 b2, jI a j a1 a2 a3 a4 a5 a6 a7 a8 a9]
        have iQ : ∀ a j, a ≤ 33 → I2 a j = Q a j := fun a j ha => by rw [iJ a j (by omega) (by omega), jK a j (by omega) (by omega) (by omega) (by omega), w2 a j (by omega)]
        have nc2 : NC s k ℓ P I2 := by
          have hc : s = 0 ∨ s = 1 ∨ s = 2 ∨ s = 3 := by omega
          rcases hc with c | c | c | c <;> subst c
          · obtain ⟨x0, ⟨x1, x2, x3, x4⟩, x5⟩ := u2
            exact ⟨(iQ _ _ (by omega)).trans x0, ⟨(iQ _ _ (by omega)).trans x1, (iQ _ _ (by omega)).trans x2, (iQ _ _ (by omega)).trans x3, (iQ _ _ (by omega)).trans x4⟩, fun p hp => ⟨(iQ _ _ (by omega)).trans (x5 p hp).1, (iQ _ _ (by omega)).trans (x5 p hp).2.1, (iQ _ _ (by omega)).trans (x5 p hp).2.2.1, (iQ _ _ (by omega)).trans (x5 p hp).2.2.2⟩⟩
          · obtain ⟨x0, x5⟩ := u2
            exact ⟨(iQ _ _ (by omega)).trans x0, fun p hp => ⟨(iQ _ _ (by omega)).trans (x5 p hp).1, (iQ _ _ (by omega)).trans (x5 p hp).2.1, (iQ _ _ (by omega)).trans (x5 p hp).2.2⟩⟩
          · exact (iQ _ _ (by omega)).trans u2
          · obtain ⟨x0, x5⟩ := u2
            exact ⟨(iQ _ _ (by omega)).trans x0, fun p hp => ⟨(iQ _ _ (by omega)).trans (x5 p hp).1, (iQ _ _ (by omega)).trans (x5 p hp).2⟩⟩
        have mmo : ∀ i, ¬ i = s → mm' m s k i = m i := fun i hi => by unfold mm'; rw [if_neg hi]
        have k2c : ∀ j, 1 ≤ j → j ≤ 3 → I2 2 j = tkC I 2 j := fun j _ _ => by rw [iQ 2 j (by omega), u4 2 j (by unfold itm; omega) (by omega), k2 2 j (by omega)]
        refine INV_text (R := J 91) g.1 r w z y im hD (frM M c6) hs hk hkm gp hf0.2 nc2 nmR (fun i hi => by
            rw [y2 i hi, up_ne (by omega)]) (fun i hi => ?_) (fun i hi => ?_) ?_ ?_ (by funext j; exact iI 3 j (by omega) (by omega) (by omega) (by omega) (by omega) (by omega) (by unfold itm; omega) (by omega) (by omega) (by omega) (by omega)) (by funext j; exact iI 82 j (by omega) (by omega) (by omega) (by omega) (by omega) (by omega) (by unfold itm; omega) (by omega) (by omega) (by omega) (by omega)) ?_ ?_ (fun a j ha hi => iI a j (by omega) (by omega) (by omega) (by omega) (by omega) (by omega) hi (by omega) (by omega) (by omega) (by omega)) (fun a j a1 a2 hn => iI a j (by omega) (by omega) (by omega) (by omega) (by omega) (by omega) (by unfold itm; omega) (by omega) (by omega) (by omega) hn) (fun a j ha => iI a j (by omega) (by omega) (by omega) (by omega) (by omega) (by omega) (by unfold itm; omega) (by omega) (by omega) (by omega) (by omega)) (fun h2 a a1 a2 => by
              funext j
              rw [iJ a j (by omega) (by omega), jK a j (by omega) (by omega) (by omega) (by omega), w3 h2, u4 a j (by unfold itm; omega) (by omega), k0 a j (by omega) (by omega)]) (fun h1 i hi hd => by rw [iJ _ _ (by omega) (by omega), jK _ _ (by omega) (by omega) (by omega) (by omega)]; exact w4 h1 i hi hd)
        · by_cases e : i = s
          · subst e
            rw [iQ 4 i (by omega), u3, mms]
          · rw [iI 4 i (by omega) (by omega) (by omega) (by omega) (by omega) (by omega) (by unfold itm; omega) (by omega) (by omega) (by omega) (by omega), mmo i e]
            exact (r.1 i hi).trans (g.1.1 i hi).2
        · by_cases e : i = s
          · subst e
            rw [y3 86 i (by omega), up_eq]
          · rw [iJ 86 i (by omega) (by omega), j86, mmo i e]; exact (g.1.1 i hi).2
        · rw [iJ _ _ (by omega) (by omega), c5 _ _ (by omega) (by omega) (by omega) (by omega), tkM_1.1]; rfl
        · rw [k2c 1 (by omega) (by omega), tkC_1.1]; rfl
        · rw [k2c 2 (by omega) (by omega), tkC_1.2.1, iJ _ _ (by omega) (by omega), c2]
        · rw [k2c 3 (by omega) (by omega), tkC_1.2.2, iJ _ _ (by omega) (by omega), c3]
    · have rr := rd (pm_up (pm_up K0 2 2 (Int32.ofNat (fbe s n ℓ f P).1)) 2 3 (Int32.ofNat (fbe s n ℓ f P).2)) (fun a j hh => by rw [up_ne (by omega), up_ne (by omega), k0 a j (by omega) (by omega)])
      rw [hr] at rr
      obtain ⟨J, M, c1, c2, c3, c4, c5, c6⟩ := rr
      rw [df hz] at c1
      rw [df hz, cond_false] at c3
      refine ⟨-1, pm_up (pm_up K0 2 2 (Int32.ofNat (fbe s n ℓ f P).1)) 2 3 (Int32.ofNat (fbe s n ℓ f P).2), J, M, ?_, ?_, bad _ _ J M c5 c2 c3 c6, by rw [up_ne (by omega), up_ne (by omega)]; exact k0 86 s (by omega) (by omega)⟩
      · rw [s0, sg_Ch_text_108, q3, q4 hz, show decide (Int32.ofNat (fbe s n ℓ f P).1 = 0) = decide ((fbe s n ℓ f P).1 = 0) from n_deq (b := 0) (by omega) (by omega), df hz, cond_false]
      · rw [sg_Mo_text_75, c1]
        simp only [Option.bind_some, pm_ai]
        rw [sg_Mo_text_80, show decide (b01 false = 0) = true from rfl, cond_true]
theorem ok_text (x1 x2 : Int32) (h : INV D I L) : OK2 X (d + 9) al D I L 108 193 [vi x1, vi x2] := by
  have h0 := h
  obtain ⟨⟨m, ⟨g, n, hn, en⟩, r, w⟩, z, y, im⟩ := h
  have e2 : I 2 1 = Int32.ofNat n := r.2.2.2.2.2.2.1.trans en
  have hcl : ∀ v, Rn X (d + 8) co_Ch_text (0, [some (vr 1), some (vi x1), some (vi x2), none, none, none], [], pm_mm al D I L) = v → Cl X (d + 9) 108 [vr 1, vi x1, vi x2] (pm_mm al D I L) = v := fun v hv => by rw [Cl_s]; exact hv
  have hrf : ∀ (K : Nat → Nat → Int32) (D2 : Nat → Bool) v, Rn X (d + 8) co_Mo_text (42, [some (vr 81), some (vi x1), some (vi x2), none], [vi (b01 (pm_in x1 4))], pm_mm al D2 (tkM K) L) = v → Cl X (d + 9) 193 [vr 81, vi x1, vi x2] (pm_mm al D2 K L) = v := fun K D2 v hv => by
    rw [Cl_s]
    show Rn X (d + 8) co_Mo_text (0, [some (vr 81), some (vi x1), some (vi x2), none], [], pm_mm al D2 K L) = _
    have hin : (if 0 ≤ x1 ∧ x1 ≤ 3 then (1 : Int32) else 0) = b01 (pm_in x1 4) := in_m (m := 4) (by omega)
    rw [sg_Mo_text_0, c_in, hin]
    simp only [Option.bind_some, pm_ai]
    exact hv
  have h4 : pm_in x1 4 = (!decide (x1 < 0) && decide (x1 < 4)) := in_two (n := 4) (by omega)
  -- no text is read
  have none_ : Rn X (d + 8) co_Ch_text (0, [some (vr 1), some (vi x1), some (vi x2), none, none, none], [], pm_mm al D I L) = some (some (vi (-2)), pm_mm al D (tkC I) L) → Rn X (d + 8) co_Mo_text (42, [some (vr 81), some (vi x1), some (vi x2), none], [vi (b01 (pm_in x1 4))], pm_mm al D (tkM (tkC I)) L) = some (some (vi (-2)), pm_mm al D (tkM (tkC I)) L) → OK2 X (d + 9) al D I L 108 193 [vi x1, vi x2] := fun c1 c2 => ⟨_, al, D, tkC I, L, tkM (tkC I), L, hcl _ c1, hrf _ _ _ c2, INV_none h0, gA_refl⟩
  cases hx1 : pm_in x1 4 with
  | false =>
    refine none_ ?_ ?_
    · rw [hx1] at h4
      rw [sg_Ch_text_0, sg_Ch_text_41]
      cases h1 : decide (x1 < 0) <;> cases h2 : decide (x1 < 4) <;> rw [h1, h2] at h4 <;> first | (simp only [cond_true, cond_false]; rfl) | cases h4
    · rw [hx1, sg_Mo_text_42, show decide (b01 false = 0) = true from rfl, cond_true, sg_Mo_text_72]
  | true =>
    obtain ⟨s, hs, es⟩ := in_nat hx1
    subst es
    have hm := g.1 s hs
    have c0 : decide (Int32.ofNat s < 0) = false := (n_dlt (b := 0) (by omega) (by omega)).trans (df (by omega))
    have c4 : decide (Int32.ofNat s < 4) = true := (n_dlt (b := 4) (by omega) (by omega)).trans (dt hs)
    have t4 : tkC I 4 s = Int32.ofNat (m s) := by rw [tkC_o (by omega)]; exact (r.1 s hs).trans hm.2
    have s54 : Rn X (d + 8) co_Ch_text (0, [some (vr 1), some (vi (Int32.ofNat s)), some (vi x2), none, none, none], [], pm_mm al D I L) = Rn X (d + 8) co_Ch_text (54, [some (vr 1), some (vi (Int32.ofNat s)), some (vi x2), some (vi (Int32.ofNat n)), none, none], [vi (b01 (decide (x2 = -1)))], pm_mm al D (tkC I) L) := by
      rw [sg_Ch_text_0, c0, cond_false, c4, cond_true, e2]
      cases decide (x2 = -1) <;> simp only [cond_true, cond_false] <;> rfl
    have s42 : ∀ (K : Nat → Nat → Int32) (D2 : Nat → Bool), K 86 s = Int32.ofNat (m s) → Rn X (d + 8) co_Mo_text (42, [some (vr 81), some (vi (Int32.ofNat s)), some (vi x2), none], [vi (b01 true)], pm_mm al D2 (tkM K) L) = cond (decide (x2 = -1)) (cond (decide (m s = 2)) (some (some (vi (-2)), pm_mm al D2 (tkM K) L)) (Rn X (d + 8) co_Mo_text (75, [some (vr 81), some (vi (Int32.ofNat s)), some (vi x2), none], [], pm_mm al D2 (tkM K) L))) (cond (pm_in x2 (m s)) (Rn X (d + 8) co_Mo_text (75, [some (vr 81), some (vi (Int32.ofNat s)), some (vi x2), none], [], pm_mm al D2 (tkM K) L)) (some (some (vi (-2)), pm_mm al D2 (tkM K) L))) := fun K D2 hK => by
      have hK' : tkM K 86 s = Int32.ofNat (m s) := by rw [tkM_o (by omega) (by omega)]; exact hK
      rw [sg_Mo_text_42, show decide (b01 true = 0) = false from rfl, cond_false, n_in (by omega), dt (show s < 16 by omega), cond_true, n_tn (by omega), hK', show decide (Int32.ofNat (m s) = 2) = decide (m s = 2) from n_deq (b := 2) (by omega) (by omega), c_is (d := d + 6) (m := m s) x2 (by omega) (by omega) hK', sg_Mo_text_72]
      simp only [Option.bind_some, pm_ai]
      rw [sg_Mo_text_69, b01_ne, sg_Mo_text_72]
      cases pm_in x2 (m s) <;> simp only [Bool.not_true, Bool.not_false, cond_true, cond_false]
    have go : ∀ k, k < 2 → ((x2 = -1 ∧ m s = k) ∨ (¬ x2 = -1 ∧ x2 = Int32.ofNat k ∧ k < m s)) → Rn X (d + 8) co_Ch_text (54, [some (vr 1), some (vi (Int32.ofNat s)), some (vi x2), some (vi (Int32.ofNat n)), none, none], [vi (b01 (decide (x2 = -1)))], pm_mm al D (tkC I) L) = Rn X (d + 8) co_Ch_text (92, [some (vr 1), some (vi (Int32.ofNat s)), some (vi x2), some (vi (Int32.ofNat n)), some (vi (b01 (decide (x2 = -1)))), none], [], pm_mm al D (tkC I) L) → (∀ (K : Nat → Nat → Int32) (D2 : Nat → Bool), K 86 s = Int32.ofNat (m s) → Rn X (d + 8) co_Mo_text (42, [some (vr 81), some (vi (Int32.ofNat s)), some (vi x2), none], [vi (b01 true)], pm_mm al D2 (tkM K) L) = Rn X (d + 8) co_Mo_text (75, [some (vr 81), some (vi (Int32.ofNat s)), some (vi x2), none], [], pm_mm al D2 (tkM K) L)) → OK2 X (d + 9) al D I L 108 193 [vi (Int32.ofNat s), vi x2] := fun k hk hx c1 c2 => by
      obtain ⟨v, K, I2, M, a1, a2, a3, a4⟩ := txt_go (X := X) (d := d) (al := al) h0 ⟨g, n, hn, en⟩ r w hn en hs hk hx
      have hK86 : K 86 s = Int32.ofNat (m s) := a4.trans hm.2
      refine ⟨v, al, pm_tb 7 D, K, L, I2, M, hcl _ (s54.trans (c1.trans a1)), hrf _ _ _ ?_, a3, fun P _ _ h3 hP => h3 al D hP⟩
      rw [hx1, c2 K _ hK86]; exact a2
    by_cases hx : x2 = -1
    · by_cases hm2 : m s = 2
      · refine none_ ?_ ?_
        · rw [s54, sg_Ch_text_54, dt hx, show decide (b01 true = 0) = false from rfl, cond_false, n_in (by omega), dt hs, cond_true, n_tn (by omega), t4, hm2, show decide (Int32.ofNat 2 < 2) = false from rfl, cond_false, sg_Ch_text_89]
        · rw [hx1, s42 _ _ (by rw [tkC_o (by omega)]; exact hm.2), dt hx, cond_true, dt hm2, cond_true]
      · refine go (m s) (by omega) (Or.inl ⟨hx, rfl⟩) ?_ (fun K D2 hK => by rw [s42 K D2 hK, dt hx, cond_true, df hm2, cond_false])
        rw [sg_Ch_text_54, dt hx, show decide (b01 true = 0) = false from rfl, cond_false, n_in (by omega), dt hs, cond_true, n_tn (by omega), t4, show decide (Int32.ofNat (m s) < 2) = true from (n_dlt (b := 2) (by omega) (by omega)).trans (dt (by omega)), cond_true]
    · have hk := k_has (X := X) (d := d + 7) (al := al) (D := D) (I := tkC I) (L := L) (s := s) (m := m s) x2 hs hm.1 t4
      have st : Rn X (d + 8) co_Ch_text (54, [some (vr 1), some (vi (Int32.ofNat s)), some (vi x2), some (vi (Int32.ofNat n)), none, none], [vi (b01 (decide (x2 = -1)))], pm_mm al D (tkC I) L) = cond (pm_in x2 (m s)) (Rn X (d + 8) co_Ch_text (92, [some (vr 1), some (vi (Int32.ofNat s)), some (vi x2), some (vi (Int32.ofNat n)), some (vi (b01 (decide (x2 = -1)))), none], [], pm_mm al D (tkC I) L)) (some (some (vi (-2)), pm_mm al D (tkC I) L)) := by
        rw [sg_Ch_text_54, df hx, show decide (b01 false = 0) = true from rfl, cond_true, hk]
        simp only [Option.bind_some, pm_ai]
        rw [sg_Ch_text_86, b01_ne, sg_Ch_text_89]
        cases pm_in x2 (m s) <;> simp only [Bool.not_true, Bool.not_false, cond_true, cond_false]
      cases hp : pm_in x2 (m s) with
      | false =>
        refine none_ ?_ ?_
        · rw [s54, st, hp, cond_false]
        · rw [hx1, s42 _ _ (by rw [tkC_o (by omega)]; exact hm.2), df hx, cond_false, hp, cond_false]
      | true =>
        obtain ⟨k, hk', ek⟩ := in_nat hp
        exact go k (by omega) (Or.inr ⟨hx, ek, hk'⟩) (by rw [st, hp, cond_true]) (fun K D2 hK => by rw [s42 K D2 hK, df hx, cond_false, hp, cond_true])
end
