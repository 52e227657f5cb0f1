section
variable {X : Nat × (Nat → Int32)} {d : Nat} {al : List Nat} {D : Nat → Bool} {I : Nat → Nat → Int32} {L : Nat → Nat → Int64}
/-- bytes -/
def byt (x : Int32) : Prop := pm_ib x = x
theorem ib_ib (x : Int32) : pm_ib (pm_ib x) = pm_ib x := by
  show ((x.toInt8.toInt32).toInt8).toInt32 = x.toInt8.toInt32
  rw [Int8.toInt8_toInt32]
def fsh : Nat → Int32
  | 0 => 24
  | 1 => 24 + (-8)
  | 2 => 24 + (-8) + (-8)
  | _ => 24 + (-8) + (-8) + (-8)
def bty (x : Int32) (i : Nat) : Int32 := pm_ib (pm_ib (x >>> (fsh i &&& 31)))
theorem bty_byt (x : Int32) (i : Nat) : byt (bty x i) := ib_ib _
/-- four bytes behind n -/
def fd1 (a c s n : Nat) (x : Int32) (i : Nat) (J : Nat → Nat → Int32) : Nat → Nat → Int32 := pm_up (pm_up J a (n + i) (bty x i)) c s (Int32.ofNat (n + i + 1))
def fd (a c s n : Nat) (x : Int32) (I : Nat → Nat → Int32) : Nat → Nat → Int32 := fd1 a c s n x 3 (fd1 a c s n x 2 (fd1 a c s n x 1 (fd1 a c s n x 0 I)))
theorem fd_c {a c s n : Nat} {x : Int32} : fd a c s n x I c s = Int32.ofNat (n + 4) := up_eq
theorem fd_o {a c s n : Nat} {x : Int32} {b j : Nat} (h1 : ¬ b = a) (h2 : ¬ (b = c ∧ j = s)) : fd a c s n x I b j = I b j := by
  simp only [fd, fd1]
  rw [up_ne h2, up_ne (fun e => h1 e.1), up_ne h2, up_ne (fun e => h1 e.1), up_ne h2, up_ne (fun e => h1 e.1), up_ne h2, up_ne (fun e => h1 e.1)]
theorem fd_a {a c s n : Nat} {x : Int32} {k : Nat} (h : ¬ a = c) : fd a c s n x I a k = if n ≤ k ∧ k < n + 4 then bty x (k - n) else I a k := by
  have hc : ∀ k, ¬ (a = c ∧ k = s) := fun k e => h e.1
  simp only [fd, fd1]
  rw [up_ne (hc k)]
  by_cases h3 : k = n + 3
  · subst h3; rw [up_eq, if_pos (by omega), show n + 3 - n = 3 by omega]
  · rw [up_ne (fun e => h3 e.2), up_ne (hc k)]
    by_cases h2 : k = n + 2
    · subst h2; rw [up_eq, if_pos (by omega), show n + 2 - n = 2 by omega]
    · rw [up_ne (fun e => h2 e.2), up_ne (hc k)]
      by_cases h1 : k = n + 1
      · subst h1; rw [up_eq, if_pos (by omega), show n + 1 - n = 1 by omega]
      · rw [up_ne (fun e => h1 e.2), up_ne (hc k)]
        by_cases h0 : k = n
        · subst h0; rw [Nat.add_zero, up_eq, if_pos (by omega), Nat.sub_self]
        · rw [Nat.add_zero, up_ne (fun e => h0 e.2), if_neg (by omega)]
theorem c_four {n : Nat} (x : Int32) (hn : n + 4 ≤ 2400) (e : I 83 0 = Int32.ofNat n) : Cl X (d + 1) 174 [vr 81, vi x] (pm_mm al D I L) = some (none, pm_mm al D (fd 82 83 0 n x I) L) := by
  rw [Cl_s]
  show Rn X d co_Mo_four (0, [some (vr 81), some (vi x), none], [], pm_mm al D I L) = _
  have st : ∀ (i : Nat) (J : Nat → Nat → Int32), i < 4 → J 83 0 = Int32.ofNat (n + i) → decide (fsh i < 0) = false → Rn X d co_Mo_four (3, [some (vr 81), some (vi x), some (vi (fsh i))], [], pm_mm al D J L) = Rn X d co_Mo_four (3, [some (vr 81), some (vi x), some (vi (fsh i + (-8)))], [], pm_mm al D (fd1 82 83 0 n x i J) L) := fun i J hi e hz => by
    rw [sg_Mo_four_3, hz, cond_false, e, n_in (by omega), dt (by omega), cond_true, n_tn (by omega), n_s]; rfl
  rw [sg_Mo_four_0]
  refine Eq.trans (st 0 I (by omega) e rfl) ?_
  refine Eq.trans (st 1 _ (by omega) up_eq rfl) ?_
  refine Eq.trans (st 2 _ (by omega) up_eq rfl) ?_
  refine Eq.trans (st 3 _ (by omega) up_eq rfl) ?_
  rw [sg_Mo_four_3, show decide (fsh 3 + (-8) < 0) = true from rfl, cond_true]; rfl
theorem k_append {n : Nat} (x : Int32) (hn : n + 4 ≤ 600) (e : I 2 1 = Int32.ofNat n) : Cl X (d + 1) 94 [vr 2, vi x] (pm_mm al D I L) = some (none, pm_mm al D (fd 3 2 1 n x I) L) := by
  rw [Cl_s]
  show Rn X d co_To_append (0, [some (vr 2), some (vi x), none], [], pm_mm al D I L) = _
  have st : ∀ (i : Nat) (J : Nat → Nat → Int32), i < 4 → J 2 1 = Int32.ofNat (n + i) → decide (fsh i < 0) = false → Rn X d co_To_append (3, [some (vr 2), some (vi x), some (vi (fsh i))], [], pm_mm al D J L) = Rn X d co_To_append (3, [some (vr 2), some (vi x), some (vi (fsh i + (-8)))], [], pm_mm al D (fd1 3 2 1 n x i J) L) := fun i J hi e hz => by
    rw [sg_To_append_2_3, hz, cond_false, e, show decide ((600 : Int32) ≤ Int32.ofNat (n + i)) = false from (n_dle (a := 600) (by omega) (by omega)).trans (df (by omega)), cond_false, n_in (by omega), dt (by omega), cond_true, n_tn (by omega), n_s]; rfl
  rw [sg_To_append_2_0]
  refine Eq.trans (st 0 I (by omega) e rfl) ?_
  refine Eq.trans (st 1 _ (by omega) up_eq rfl) ?_
  refine Eq.trans (st 2 _ (by omega) up_eq rfl) ?_
  refine Eq.trans (st 3 _ (by omega) up_eq rfl) ?_
  rw [sg_To_append_2_3, show decide (fsh 3 + (-8) < 0) = true from rfl, cond_true, sg_To_append_2_46]; rfl
def fd5 (a c s n : Nat) (x1 x2 x3 x4 x5 : Int32) (I : Nat → Nat → Int32) : Nat → Nat → Int32 := fd a c s (n + 16) x5 (fd a c s (n + 12) x4 (fd a c s (n + 8) x3 (fd a c s (n + 4) x2 (fd a c s n x1 I))))
theorem fd5_c {a c s n : Nat} {x1 x2 x3 x4 x5 : Int32} : fd5 a c s n x1 x2 x3 x4 x5 I c s = Int32.ofNat (n + 20) := fd_c
theorem fd5_o {a c s n : Nat} {x1 x2 x3 x4 x5 : Int32} {b j : Nat} (h1 : ¬ b = a) (h2 : ¬ (b = c ∧ j = s)) : fd5 a c s n x1 x2 x3 x4 x5 I b j = I b j := by
  rw [fd5, fd_o h1 h2, fd_o h1 h2, fd_o h1 h2, fd_o h1 h2, fd_o h1 h2]
theorem fd5_e {a c s a' c' s' n : Nat} {x1 x2 x3 x4 x5 : Int32} {J : Nat → Nat → Int32} {k : Nat} (h : ¬ a = c) (h' : ¬ a' = c') (e : I a k = J a' k) : fd5 a c s n x1 x2 x3 x4 x5 I a k = fd5 a' c' s' n x1 x2 x3 x4 x5 J a' k := by
  simp only [fd5, fd_a h, fd_a h', e]
theorem fd5_b {a c s n : Nat} {x1 x2 x3 x4 x5 : Int32} {k : Nat} (h : ¬ a = c) (e : byt (I a k)) : byt (fd5 a c s n x1 x2 x3 x4 x5 I a k) := by
  simp only [fd5, fd_a h]
  have h1 : ∀ (p : Prop) [Decidable p] (x y : Int32), byt x → byt y → byt (if p then x else y) := fun p _ x y hx hy => by split <;> assumption
  exact h1 _ _ _ (bty_byt _ _) (h1 _ _ _ (bty_byt _ _) (h1 _ _ _ (bty_byt _ _) (h1 _ _ _ (bty_byt _ _) (h1 _ _ _ (bty_byt _ _) e))))
theorem fd5_h {a c s n : Nat} {x1 x2 x3 x4 x5 : Int32} {k : Nat} (h : ¬ a = c) (hk : n + 20 ≤ k) : fd5 a c s n x1 x2 x3 x4 x5 I a k = I a k := by
  simp only [fd5, fd_a h]
  rw [if_neg (by omega), if_neg (by omega), if_neg (by omega), if_neg (by omega), if_neg (by omega)]
theorem r_feed {n : Nat} (x1 x2 x3 x4 x5 : Int32) (hn : n ≤ 600) (e : I 83 0 = Int32.ofNat n) : Cl X (d + 2) 173 [vr 81, vi x1, vi x2, vi x3, vi x4, vi x5] (pm_mm al D I L) = some (some (vi (cond (decide (n + 20 ≤ 600)) (Int32.ofNat (n + 20)) (-1))), pm_mm al D (cond (decide (n + 20 ≤ 600)) (fd5 82 83 0 n x1 x2 x3 x4 x5 (pm_up I 81 0 0)) (pm_up I 81 0 0)) L) := by
  rw [Cl_s]
  show Rn X (d + 1) co_Mo_feed (0, [some (vr 81), some (vi x1), some (vi x2), some (vi x3), some (vi x4), some (vi x5)], [], pm_mm al D I L) = _
  have h20 : I 83 0 + 20 = Int32.ofNat (n + 20) := by rw [e]; exact n_add n 20
  rw [sg_Mo_feed_0, h20, show decide (Int32.ofNat (n + 20) ≤ 600) = decide (n + 20 ≤ 600) from n_dle (b := 600) (by omega) (by omega)]
  by_cases h : n + 20 ≤ 600
  · rw [dt h, cond_true, cond_true, cond_true, c_four x1 (n := n) (by omega) ((up_ne (by omega)).trans e)]
    simp only [Option.bind_some, pm_av]
    rw [sg_Mo_feed_27, c_four x2 (n := n + 4) (by omega) fd_c]
    simp only [Option.bind_some, pm_av]
    rw [sg_Mo_feed_32, c_four x3 (n := n + 8) (by omega) fd_c]
    simp only [Option.bind_some, pm_av]
    rw [sg_Mo_feed_37, c_four x4 (n := n + 12) (by omega) fd_c]
    simp only [Option.bind_some, pm_av]
    rw [sg_Mo_feed_43, c_four x5 (n := n + 16) (by omega) fd_c]
    simp only [Option.bind_some, pm_av]
    rw [sg_Mo_feed_49, fd_c]; rfl
  · rw [df h, cond_false, cond_false, cond_false]
theorem q_feed {n : Nat} (x1 x2 x3 x4 x5 : Int32) (hn : n ≤ 600) (e : I 2 1 = Int32.ofNat n) : Cl X (d + 2) 106 [vr 1, vi x1, vi x2, vi x3, vi x4, vi x5] (pm_mm al D I L) = some (some (vi (cond (decide (n + 20 ≤ 600)) (Int32.ofNat (n + 20)) (-1))), pm_mm al D (cond (decide (n + 20 ≤ 600)) (fd5 3 2 1 n x1 x2 x3 x4 x5 I) I) L) := by
  rw [Cl_s]
  show Rn X (d + 1) co_Ch_feed (0, [some (vr 1), some (vi x1), some (vi x2), some (vi x3), some (vi x4), some (vi x5)], [], pm_mm al D I L) = _
  have h20 : I 2 1 + 20 = Int32.ofNat (n + 20) := by rw [e]; exact n_add n 20
  rw [sg_Ch_feed_0, h20, show decide (Int32.ofNat (n + 20) ≤ 600) = decide (n + 20 ≤ 600) from n_dle (b := 600) (by omega) (by omega)]
  by_cases h : n + 20 ≤ 600
  · rw [dt h, cond_true, cond_true, cond_true, k_append x1 (n := n) (by omega) e]
    simp only [Option.bind_some, pm_av]
    rw [sg_Ch_feed_26, k_append x2 (n := n + 4) (by omega) fd_c]
    simp only [Option.bind_some, pm_av]
    rw [sg_Ch_feed_34, k_append x3 (n := n + 8) (by omega) fd_c]
    simp only [Option.bind_some, pm_av]
    rw [sg_Ch_feed_42, k_append x4 (n := n + 12) (by omega) fd_c]
    simp only [Option.bind_some, pm_av]
    rw [sg_Ch_feed_51, k_append x5 (n := n + 16) (by omega) fd_c]
    simp only [Option.bind_some, pm_av]
    rw [sg_Ch_feed_60, fd_c]; rfl
  · rw [df h, cond_false, cond_false, cond_false]
end
