section
variable {X : Nat × (Nat → Int32)} {d : Nat} {al : List Nat} {D : Nat → Bool} {I : Nat → Nat → Int32} {L : Nat → Nat → Int64}
/-- what reading a text leaves -/
def fr5 (I J : Nat → Nat → Int32) : Prop := ∀ a j, ¬ a = 81 → ¬ a = 91 → ¬ a = 92 → ¬ ((a = 84 ∨ a = 85) ∧ j = 0) → J a j = I a j
theorem P0_o {k : Nat} (h : k = 0 ∨ 4 < k) : P0 0 k = 0 := by
  show (match k with
    | 1 => (20 : Int32)
    | 2 => 1
    | 3 => 5
    | 4 => 6
    | _ => 0) = 0
  split <;> first | rfl | (exfalso; omega)
theorem P0_n {s k : Nat} (h : ¬ s = 0) : P0 s k = 0 := by unfold P0; rw [df h, cond_false]
theorem c_noTold {s : Nat} (hs : s < 4) : ∃ J, Rn X (d + 7) co_Mo_readText (0, [some (vr 81), some (vi (Int32.ofNat s)), none], [], pm_mm al D I L) = Rn X (d + 7) co_Mo_readText (55, [some (vr 81), some (vi (Int32.ofNat s)), some (vi (Int32.ofNat 29))], [], pm_mm al D J L) ∧ (∀ a j, ¬ a = 91 → J a j = I a j) ∧ ∀ k, k < 29 → J 91 k = P0 s k := by
  obtain ⟨K, k1, k2, k3⟩ := lp 29 (fun n K => Rn X (d + 7) co_Mo_readText (2, [some (vr 81), some (vi (Int32.ofNat s)), some (vi (Int32.ofNat n))], [], pm_mm al D K L)) (fun n K => (∀ a j, ¬ a = 91 → K a j = I a j) ∧ ∀ k, k < n → K 91 k = 0) (fun n K hn hq => by
    refine ⟨pm_up K 91 n 0, ?_, fun a j h => by rw [up_ne (by omega)]; exact hq.1 a j h, fun k hk => ?_⟩
    · show Rn X (d + 7) co_Mo_readText _ = Rn X (d + 7) co_Mo_readText _
      rw [sg_Mo_readText_2, show decide ((29 : Int32) ≤ Int32.ofNat n) = false from (n_dle (a := 29) (by omega) (by omega)).trans (df (by omega)), cond_false, n_in (by omega), dt hn, cond_true, n_tn (by omega), n_s]
    · by_cases e : k = n
      · subst e; exact up_eq
      · rw [up_ne (by omega)]; exact hq.2 k (by omega)) 0 I (Nat.zero_le _) ⟨fun _ _ _ => rfl, fun k hk => absurd hk (Nat.not_lt_zero k)⟩
  have k1 : Rn X (d + 7) co_Mo_readText (2, [some (vr 81), some (vi (Int32.ofNat s)), some (vi 0)], [], pm_mm al D I L) = Rn X (d + 7) co_Mo_readText (2, [some (vr 81), some (vi (Int32.ofNat s)), some (vi (Int32.ofNat 29))], [], pm_mm al D K L) := k1
  rw [sg_Mo_readText_0, k1, sg_Mo_readText_2, show decide ((29 : Int32) ≤ Int32.ofNat 29) = true from rfl, cond_true, show decide (Int32.ofNat s = 0) = decide (s = 0) from n_deq (b := 0) (by omega) (by omega)]
  by_cases h0 : s = 0
  · rw [dt h0, cond_true]
    refine ⟨_, rfl, fun a j h => by rw [up_ne (by omega), up_ne (by omega), up_ne (by omega), up_ne (by omega)]; exact k2 a j h, fun k hk => ?_⟩
    subst h0
    by_cases e4 : k = 4
    · subst e4; exact (up_eq : _ = (6 : Int32))
    · rw [up_ne (by omega)]
      by_cases e3 : k = 3
      · subst e3; exact (up_eq : _ = (5 : Int32))
      · rw [up_ne (by omega)]
        by_cases e2 : k = 2
        · subst e2; exact (up_eq : _ = (1 : Int32))
        · rw [up_ne (by omega)]
          by_cases e1 : k = 1
          · subst e1; exact (up_eq : _ = (20 : Int32))
          · rw [up_ne (by omega), k3 k hk, P0_o (by omega)]
  · rw [df h0, cond_false]
    exact ⟨K, rfl, k2, fun k hk => by rw [P0_n h0]; exact k3 k hk⟩
theorem c_readText {T : Nat → Int32} {n s : Nat} (hs : s < 4) (hT : tpM I T n) :
    match rdR s T n with
    | .inl q => ∃ J M, Cl X (d + 8) 190 [vr 81, vi (Int32.ofNat s)] (pm_mm al D I L) = some (some (vi 0), pm_mm al D J M) ∧ J 84 0 = 1 ∧ J 85 0 = Int32.ofNat q ∧ fr5 I J ∧ frL L M
    | .inr (ℓ, f, P) => ∃ J M, Cl X (d + 8) 190 [vr 81, vi (Int32.ofNat s)] (pm_mm al D I L) = some (some (vi (b01 (decide ((fbe s n ℓ f P).1 = 0)))), pm_mm al D J M) ∧ J 84 0 = Int32.ofNat (fbe s n ℓ f P).1 ∧ J 85 0 = cond (decide ((fbe s n ℓ f P).1 = 0)) (-1) (Int32.ofNat (fbe s n ℓ f P).2) ∧ RP s ℓ P f J ∧ fr5 I J ∧ frL L M := by
  rw [Cl_s]
  have sh : ∀ r, (cond (Nat.ble (pm_wd [vr 81, vi (Int32.ofNat s)]) (pm_mx 190)) (Rn X (d + 7) (pm_co 190) (0, pm_ent (pm_mx 190) [vr 81, vi (Int32.ofNat s)], [], pm_mm al D I L)) none = r) = (Rn X (d + 7) co_Mo_readText (0, [some (vr 81), some (vi (Int32.ofNat s)), none], [], pm_mm al D I L) = r) := fun _ => rfl
  simp only [sh]
  have hn := hT.2.1
  obtain ⟨K, k1, k2, k3⟩ := c_noTold (X := X) (d := d) (al := al) (D := D) (I := I) (L := L) hs
  generalize hK1 : pm_up (pm_up (pm_up K 81 21 0) 81 10 0) 81 17 0 = K1
  have f1 : ∀ a j, ¬ (a = 81 ∧ (j = 21 ∨ j = 10 ∨ j = 17)) → K1 a j = K a j := fun a j hh => by rw [← hK1, up_ne (by omega), up_ne (by omega), up_ne (by omega)]
  have g21 : K1 81 21 = 0 := by rw [← hK1, up_ne (by omega), up_ne (by omega), up_eq]
  have g10 : K1 81 10 = Int32.ofNat 0 := by rw [← hK1, up_ne (by omega), up_eq]; rfl
  have g17 : K1 81 17 = 0 := by rw [← hK1, up_eq]
  obtain ⟨J1, M1, t1, t2, t3, t4⟩ := c_token (X := X) (d := d + 5) (al := al) (D := D) (I := K1) (L := L) (T := T) (n := n) (p := 0) (tpM_up hT (fun a j hh => by rw [f1 a j (by omega), k2 a j (by omega)])) (Nat.zero_le n) g10
  obtain ⟨h1, h2⟩ := sk_rg (T := T) (n := n) (p := 0) (Nat.zero_le n)
  have j91 : ∀ k, k < 29 → J1 91 k = P0 s k := fun k hk => by rw [t2 _ _ (by omega), f1 _ _ (by omega)]; exact k3 k hk
  have hAL : AL T n s (sk T n 0) 0 (0, 0) (P0 s) J1 M1 := by
    refine ⟨tpM_up hT (fun a j hh => by rw [t2 a j (by omega), f1 a j (by omega), k2 a j (by omega)]), h2, t4, ⟨by omega, by omega, fun c => absurd rfl c, by rw [t2 _ _ (by omega), g17]; rfl, fun c => absurd rfl c⟩, ?_⟩
    have hc : s = 0 ∨ s = 1 ∨ s = 2 ∨ s = 3 := by omega
    rcases hc with c | c | c | c <;> subst c
    · exact ⟨j91 0 (by omega), fun k _ hk => j91 k hk⟩
    · exact ⟨j91 0 (by omega), fun k _ hk => j91 k (by omega), fun _ => by rw [t2 _ _ (by omega), g21]; rfl⟩
    · exact fun _ => j91 0 (by omega)
    · exact ⟨j91 0 (by omega), fun k _ hk => j91 k (by omega)⟩
  have fr1 : ∀ a j, ¬ a = 81 → ¬ a = 91 → ¬ a = 92 → J1 a j = I a j := fun a j q1 q2 q3 => by rw [t2 a j (by omega), f1 a j (by omega), k2 a j q2]
  have cl := c_lines (X := X) (d := d) (al := al) (D := D) (T := T) (n := n) hs n (sk T n 0) 0 (0, 0) (P0 s) none J1 M1 (by omega) hAL
  have s0 : ∀ u K2 M2, Rn X (d + 6) co_Mo_allLines (2, [some (vr 81), some (vi (Int32.ofNat s)), some (vi 1), none], [], pm_mm al D J1 M1) = some (some (vi u), pm_mm al D K2 M2) → Rn X (d + 7) co_Mo_readText (0, [some (vr 81), some (vi (Int32.ofNat s)), none], [], pm_mm al D I L) = Rn X (d + 7) co_Mo_readText (79, [some (vr 81), some (vi (Int32.ofNat s)), some (vi (Int32.ofNat 29))], [vi u], pm_mm al D K2 M2) := fun u K2 M2 hc => by
    have hcl : Cl X (d + 7) 189 [vr 81, vi (Int32.ofNat s)] (pm_mm al D J1 M1) = some (some (vi u), pm_mm al D K2 M2) := by
      rw [Cl_s]
      show Rn X (d + 6) co_Mo_allLines (0, [some (vr 81), some (vi (Int32.ofNat s)), none, none], [], pm_mm al D J1 M1) = _
      rw [sg_Mo_allLines_0]; exact hc
    rw [k1, sg_Mo_readText_55, hK1, t1]
    simp only [Option.bind_some, pm_av]
    rw [sg_Mo_readText_74, hcl]
    simp only [Option.bind_some, pm_ai]
  rw [rdR]
  revert cl
  cases txt s T n n (sk T n 0) 0 (0, 0) (P0 s) with
  | inl q =>
    intro cl
    obtain ⟨K2, M2, c1, c2, c3, c4⟩ := cl
    refine ⟨pm_up (pm_up K2 84 0 1) 85 0 (Int32.ofNat q), M2, ?_, by rw [up_ne (by omega), up_eq], up_eq, fun a j q1 q2 q3 q4 => by rw [up_ne (by omega), up_ne (by omega), c3 a j q1 q2 q3, fr1 a j q1 q2 q3], fun a j hh => by rw [c4 a j hh, t3 a j hh]⟩
    rw [s0 0 K2 M2 c1, sg_Mo_readText_79, show decide ((0 : Int32) = 0) = true from rfl, cond_true, sg_Mo_readText_114, show decide ((0 : Int32) = 0) = true from rfl, cond_true, sg_Mo_readText_131, show decide ((0 : Int32) = 0) = true from rfl, cond_true, sg_Mo_readText_163, c2, show decide (pm_up K2 84 0 1 84 0 = 0) = false by rw [up_eq]; rfl, cond_false, sg_Mo_readText_178, show pm_01 0 = true from rfl, cond_true]
  | inr x =>
    obtain ⟨ℓ, f, P⟩ := x
    intro cl
    obtain ⟨K2, M2, c1, ⟨a1, a2, a3, a4, a5⟩, c3, c4⟩ := cl
    obtain ⟨b1, b2, b3, b4, b5⟩ := a4
    -- the last fault
    have fin : ∀ (K3 : Nat → Nat → Int32) (g : Nat × Nat), (∀ a j, ¬ (a = 81 ∧ (j = 17 ∨ j = 18)) → K3 a j = K2 a j) → g.1 < 100 → g.2 ≤ 600 → K3 81 17 = Int32.ofNat g.1 → (¬ g.1 = 0 → K3 81 18 = Int32.ofNat g.2) → ∃ J M, Rn X (d + 7) co_Mo_readText (114, [some (vr 81), some (vi (Int32.ofNat s)), some (vi 1)], [], pm_mm al D K3 M2) = some (some (vi (b01 (decide (g.1 = 0)))), pm_mm al D J M) ∧ J 84 0 = Int32.ofNat g.1 ∧ J 85 0 = cond (decide (g.1 = 0)) (-1) (Int32.ofNat g.2) ∧ RP s ℓ P f J ∧ fr5 I J ∧ frL L M := fun K3 g w1 w2 w3 w4 w5 => by
      refine ⟨pm_up (pm_up K3 84 0 (Int32.ofNat g.1)) 85 0 (cond (decide (g.1 = 0)) (-1) (Int32.ofNat g.2)), M2, ?_, by rw [up_ne (by omega), up_eq], up_eq, RP_up a5 (fun a j hh => by rw [up_ne (by omega), up_ne (by omega), w1 a j (by omega)]), fun a j q1 q2 q3 q4 => by rw [up_ne (by omega), up_ne (by omega), w1 a j (by omega), c3 a j q1 q2 q3, fr1 a j q1 q2 q3], fun a j hh => by rw [c4 a j hh, t3 a j hh]⟩
      rw [sg_Mo_readText_114, show decide ((1 : Int32) = 0) = false from rfl, cond_false, sg_Mo_readText_131, show decide ((1 : Int32) = 0) = false from rfl, cond_false, w4, show decide (Int32.ofNat g.1 ≤ 0) = decide (g.1 ≤ 0) from n_dle (b := 0) (by omega) (by omega), sg_Mo_readText_163, sg_Mo_readText_163, show decide (pm_up K3 84 0 (Int32.ofNat g.1) 84 0 = 0) = decide (g.1 = 0) by rw [up_eq]; exact n_deq (b := 0) (by omega) (by omega), sg_Mo_readText_178, sg_Mo_readText_178, show pm_01 0 = true from rfl, show pm_01 1 = true from rfl, cond_true, cond_true, sg_Mo_readText_178, sg_Mo_readText_178, show pm_01 0 = true from rfl, show pm_01 1 = true from rfl, cond_true, cond_true]
      by_cases hg : g.1 = 0
      · rw [dt hg, dt (show g.1 ≤ 0 by omega), cond_true, cond_true, cond_true]; rfl
      · rw [df hg, df (show ¬ g.1 ≤ 0 by omega), cond_false, cond_false, cond_false, w5 hg]; rfl
    have same := fin K2 f (fun _ _ _ => rfl) b1 b2 b4 b5
    show ∃ J M, Rn X (d + 7) co_Mo_readText (0, [some (vr 81), some (vi (Int32.ofNat s)), none], [], pm_mm al D I L) = some (some (vi (b01 (decide ((fbe s n ℓ f P).1 = 0)))), pm_mm al D J M) ∧ J 84 0 = Int32.ofNat (fbe s n ℓ f P).1 ∧ J 85 0 = cond (decide ((fbe s n ℓ f P).1 = 0)) (-1) (Int32.ofNat (fbe s n ℓ f P).2) ∧ RP s ℓ P f J ∧ fr5 I J ∧ frL L M
    rw [s0 1 K2 M2 c1, sg_Mo_readText_79, show decide ((1 : Int32) = 0) = false from rfl, cond_false, show decide (Int32.ofNat s = 1) = decide (s = 1) from n_deq (b := 1) (by omega) (by omega), b4, show decide (Int32.ofNat f.1 = 0) = decide (f.1 = 0) from n_deq (b := 0) (by omega) (by omega), fbe]
    by_cases hs1 : s = 1
    · rw [dt hs1, cond_true, Bool.true_and]
      by_cases h0 : f.1 = 0
      · rw [dt h0, cond_true, Bool.true_and]
        have h21 : (K2 81 21).toInt = max 0 (lst P ℓ) := by
          subst hs1; exact a5.2.2 h0
        have e12 : (12 : Int32).toInt = 12 := rfl
        by_cases hbe : 12 ≤ lst P ℓ
        · have hd : decide (K2 81 21 < 12) = false := df (by rw [t_lt, h21, e12]; omega)
          obtain ⟨K3, l1, l2, l3⟩ := c_later (X := X) (d := d + 6) (al := al) (D := D) (I := K2) (L := M2) (c := 4) (q := n) ⟨b1, b2, b3, b4, b5⟩ (by omega) (by omega) hn
          have l1 : Cl X (d + 7) 179 [vr 81, vi 4, vi (Int32.ofNat n)] (pm_mm al D K2 M2) = some (none, pm_mm al D K3 M2) := l1
          rw [mkf, dt h0, cond_true] at l3
          rw [hd, cond_false, a3.1, l1, bey, dt hbe]
          simp only [Option.bind_some, pm_av, cond_true]
          exact fin K3 (4, n) l2 l3.1 l3.2.1 l3.2.2.2.1 l3.2.2.2.2
        · have hd : decide (K2 81 21 < 12) = true := dt (by rw [t_lt, h21, e12]; omega)
          rw [hd, cond_true, bey, df hbe, cond_false]
          exact same
      · rw [df h0, cond_false, Bool.false_and, cond_false]
        exact same
    · rw [df hs1, cond_false, Bool.false_and, cond_false]
      exact same
end
