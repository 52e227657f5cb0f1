section
variable {X : Nat × (Nat → Int32)} {d : Nat} {al : List Nat} {D : Nat → Bool} {I : Nat → Nat → Int32} {L : Nat → Nat → Int64}
theorem dg_pick {a : Nat → Nat} (h : ∀ t, a t < 8) {b : Nat} (hb : b < 12) : dg (fun t => a t &&& (if t = b then 7 else 0)) 12 = a b * 8 ^ b := by
  rw [← dg_one (v := a b) hb]
  exact su_congr _ (fun t _ => by
    show (a t &&& (if t = b then 7 else 0)) * 8 ^ t = (if t = b then a b else 0) * 8 ^ t
    by_cases e : t = b
    · rw [if_pos e, if_pos e, e, and7 ⟨a b, h b⟩]
    · rw [if_neg e, if_neg e, Nat.and_zero])
theorem k_soundsAs {v b : Nat} (hv : v < 13) (hb : b < 12) : Cl X (d + 1) 104 [vi (Int32.ofNat v), vi (Int32.ofNat b)] (pm_mm al D I L) = some (some (vl (Int64.ofNat (v * 8 ^ b))), pm_mm al D I L) := by
  rw [Cl_s]
  show Rn X d co_Wa_soundsAs (0, [some (vi (Int32.ofNat v)), some (vi (Int32.ofNat b))], [], pm_mm al D I L) = _
  have q := sh8 ⟨v, hv⟩ ⟨b, hb⟩
  simp only at q
  rw [sg_Wa_soundsAs_0, i64_n (by omega), q]
theorem p8 {b : Nat} (hb : b < 12) : 8 ^ b ≤ 8589934592 ∧ 1 ≤ 8 ^ b := ⟨Nat.pow_le_pow_right (n := 8) (by decide) (show b ≤ 11 by omega), Nat.one_le_pow b 8 (by decide)⟩
theorem dg36 {a : Nat → Nat} (h : ∀ t, a t < 8) : dg a 12 < 68719476736 := dg_lt h 12
theorem dg0 : dg (fun _ => 0) 12 = 0 := (su_zero_iff _ 12).mpr (fun k _ => Nat.zero_mul _)
theorem k_take {b : Nat} {G : LG} (hb : b < 2) (g : lgG G) (e0 : I (27 + 3 * b) 0 = Int32.ofNat G.1) (e1 : ∀ k, k < G.1 → I (28 + 3 * b) k = Int32.ofNat (G.2.1 k) ∧ I (29 + 3 * b) k = Int32.ofNat (G.2.2 k)) :
    ∃ J M, Cl X (d + 2) 20 [vr 76, vr (27 + 3 * b)] (pm_mm al D I L) = some (none, pm_mm al D J M) ∧ (∀ a j, ¬ (a = 76 ∧ j = 2) → J a j = I a j) ∧ (∀ a j, ¬ a = 76 → M a j = L a j) ∧ J 76 2 = b01 (tk G G.1).2.2 ∧ M 76 0 = Int64.ofNat (dg (tk G G.1).1 12) ∧ M 76 1 = Int64.ofNat (dg (tk G G.1).2.1 12) := by
  have g1 := g.1
  rw [Cl_s]
  show ∃ J M, Rn X (d + 1) co_He_take (0, [some (vr 76), some (vr (27 + 3 * b)), none, none, none, none, none], [], pm_mm al D I L) = _ ∧ _
  rw [sgb_He_take_0 hb]
  have y2 : pm_up I 76 2 0 76 2 = b01 (tk G 0).2.2 := up_eq
  have y0 : pm_up (pm_up L 76 0 0) 76 1 0 76 0 = Int64.ofNat (dg (tk G 0).1 12) := by rw [up_ne (by omega), up_eq, show dg (tk G 0).1 12 = 0 from dg0]; rfl
  have y1 : pm_up (pm_up L 76 0 0) 76 1 0 76 1 = Int64.ofNat (dg (tk G 0).2.1 12) := by rw [up_eq, show dg (tk G 0).2.1 12 = 0 from dg0]; rfl
  obtain ⟨⟨J, M, o3, o4, o5, o6⟩, t1, t2, t3, t4, t5, t6⟩ := lp (σ := (Nat → Nat → Int32) × (Nat → Nat → Int64) × Option pm_V × Option pm_V × Option pm_V × Option pm_V) G.1 (fun k q => Rn X (d + 1) co_He_take (17, [some (vr 76), some (vr (27 + 3 * b)), some (vi (Int32.ofNat k)), q.2.2.1, q.2.2.2.1, q.2.2.2.2.1, q.2.2.2.2.2], [], pm_mm al D q.1 q.2.1))
    (fun k q => (∀ a j, ¬ (a = 76 ∧ j = 2) → q.1 a j = I a j) ∧ (∀ a j, ¬ a = 76 → q.2.1 a j = L a j) ∧ q.1 76 2 = b01 (tk G k).2.2 ∧ q.2.1 76 0 = Int64.ofNat (dg (tk G k).1 12) ∧ q.2.1 76 1 = Int64.ofNat (dg (tk G k).2.1 12)) (fun k q hk hq => by
    obtain ⟨J, M, o3, o4, o5, o6⟩ := q
    obtain ⟨q1, q2, q3, q4, q5⟩ := hq
    simp only at q1 q2 q3 q4 q5
    obtain ⟨b12, v6⟩ := g.2 k hk
    obtain ⟨i1, i2⟩ := e1 k hk
    obtain ⟨h1, h2, h3⟩ := tk_rg g k (by omega)
    have hτ8 : ∀ t, (tk G k).1 t < 8 := fun t => by rcases h1 t with h | h <;> omega
    have hb8 : ∀ t, (if t = G.2.1 k then 7 else 0 : Nat) < 8 := fun t => by split <;> omega
    have hv8 : ∀ t, (if t = G.2.1 k then G.2.2 k else 0 : Nat) < 8 := fun t => by split <;> omega
    obtain ⟨pa1, pa2⟩ := p8 b12
    have w7 := k_soundsAs (X := X) (d := d) (al := al) (D := D) (I := J) (L := M) (v := 7) (by omega) b12
    have wv := k_soundsAs (X := X) (d := d) (al := al) (D := D) (I := J) (L := M) (v := G.2.2 k) (by omega) b12
    have w7 : Cl X (d + 1) 104 [vi 7, vi (Int32.ofNat (G.2.1 k))] (pm_mm al D J M) = some (some (vl (Int64.ofNat (7 * 8 ^ G.2.1 k))), pm_mm al D J M) := w7
    have t7 := hτ8 (G.2.1 k)
    have n7 := h2 (G.2.1 k)
    have m1 : (tk G k).1 (G.2.1 k) * 8 ^ G.2.1 k ≤ 7 * 8 ^ G.2.1 k := Nat.mul_le_mul_right _ (by omega)
    have m2 : (tk G k).2.1 (G.2.1 k) * 8 ^ G.2.1 k ≤ 7 * 8 ^ G.2.1 k := Nat.mul_le_mul_right _ (by omega)
    have m3 : G.2.2 k * 8 ^ G.2.1 k ≤ 7 * 8 ^ G.2.1 k := Nat.mul_le_mul_right _ (by omega)
    have d0 : decide (lg_cmp (M 76 0 &&& Int64.ofNat (7 * 8 ^ G.2.1 k)) 0 = 0) = decide ((tk G k).1 (G.2.1 k) = 0) := by
      rw [q4, ← dg_one b12, un_and, dg_and hτ8 hb8, dg_pick hτ8 b12, lc_eq, un_z (by omega)]
      exact decide_eq_decide.mpr ⟨fun c => by rcases Nat.mul_eq_zero.mp c with c | c; exact c; omega, fun c => by rw [c, Nat.zero_mul]⟩
    have d1 : decide (lg_cmp (M 76 1 &&& Int64.ofNat (7 * 8 ^ G.2.1 k)) (Int64.ofNat (G.2.2 k * 8 ^ G.2.1 k)) = 0) = decide ((tk G k).2.1 (G.2.1 k) = G.2.2 k) := by
      rw [q5, ← dg_one (v := 7) b12, un_and, dg_and h2 hb8, dg_pick h2 b12]
      exact decide_eq_decide.mpr ((lg_cmp_eq _ _).trans ((un_eq (by omega) (by omega)).trans ⟨fun c => Nat.eq_of_mul_eq_mul_right (by omega) c, fun c => by rw [c]⟩))
    have d2 : M 76 0 ||| Int64.ofNat (7 * 8 ^ G.2.1 k) = Int64.ofNat (dg (tk G (k + 1)).1 12) := by
      rw [q4, ← dg_one b12, un_or, dg_or hτ8 hb8]
      congr 1
      exact su_congr _ (fun t _ => by
        show ((tk G k).1 t ||| (if t = G.2.1 k then 7 else 0)) * 8 ^ t = (if t = G.2.1 k then 7 else (tk G k).1 t) * 8 ^ t
        by_cases e : t = G.2.1 k
        · rw [if_pos e, if_pos e]; rcases h1 t with h | h <;> rw [h] <;> rfl
        · rw [if_neg e, if_neg e, Nat.or_zero])
    have d3 : M 76 1 ||| Int64.ofNat (G.2.2 k * 8 ^ G.2.1 k) = Int64.ofNat (dg (tk G (k + 1)).2.1 12) := by
      rw [q5, ← dg_one b12, un_or, dg_or h2 hv8]
      congr 1
      exact su_congr _ (fun t _ => by
        show ((tk G k).2.1 t ||| (if t = G.2.1 k then G.2.2 k else 0)) * 8 ^ t = (if t = G.2.1 k then (tk G k).2.1 t ||| G.2.2 k else (tk G k).2.1 t) * 8 ^ t
        by_cases e : t = G.2.1 k
        · rw [if_pos e, if_pos e]
        · rw [if_neg e, if_neg e, Nat.or_zero])
    have hc : (tk G (k + 1)).2.2 = ((tk G k).2.2 || (!decide ((tk G k).1 (G.2.1 k) = 0) && !decide ((tk G k).2.1 (G.2.1 k) = G.2.2 k))) := rfl
    have z2 : pm_up J 76 2 (b01 (tk G (k + 1)).2.2) 76 2 = b01 (tk G (k + 1)).2.2 := up_eq
    have z0 : pm_up (pm_up M 76 0 (Int64.ofNat (dg (tk G (k + 1)).1 12))) 76 1 (Int64.ofNat (dg (tk G (k + 1)).2.1 12)) 76 0 = Int64.ofNat (dg (tk G (k + 1)).1 12) := by rw [up_ne (by omega), up_eq]
    have z1 : pm_up (pm_up M 76 0 (Int64.ofNat (dg (tk G (k + 1)).1 12))) 76 1 (Int64.ofNat (dg (tk G (k + 1)).2.1 12)) 76 1 = Int64.ofNat (dg (tk G (k + 1)).2.1 12) := up_eq
    refine ⟨(pm_up J 76 2 (b01 (tk G (k + 1)).2.2), pm_up (pm_up M 76 0 (Int64.ofNat (dg (tk G (k + 1)).1 12))) 76 1 (Int64.ofNat (dg (tk G (k + 1)).2.1 12)), some (vl (Int64.ofNat (7 * 8 ^ G.2.1 k))), none, some (vl (Int64.ofNat (G.2.2 k * 8 ^ G.2.1 k))), none), ?_, fun a j h => (up_ne h).trans (q1 a j h), fun a j h => (up_ne (fun c => h c.1)).trans ((up_ne (fun c => h c.1)).trans (q2 a j h)), z2, z0, z1⟩
    show Rn X (d + 1) co_He_take (17, [_, _, _, o3, o4, o5, o6], [], pm_mm al D J M) = Rn X (d + 1) co_He_take (17, _)
    have e27 : J (27 + 3 * b) 0 = Int32.ofNat G.1 := (q1 _ _ (by omega)).trans e0
    have e28 : J (28 + 3 * b) k = Int32.ofNat (G.2.1 k) := (q1 _ _ (by omega)).trans i1
    have e29 : J (29 + 3 * b) k = Int32.ofNat (G.2.2 k) := (q1 _ _ (by omega)).trans i2
    rw [sgb_He_take_17 hb, e27, n_dle (by omega) (by omega), df (by omega), cond_false, n_in (by omega), dt (show k < 8 by omega), cond_true, n_tn (by omega), e28, w7]
    simp only [Option.bind_some, pm_al]
    rw [sgb_He_take_36 hb, n_in (by omega), dt (show k < 8 by omega), cond_true, cond_true, n_tn (by omega), e28, e29, wv]
    simp only [Option.bind_some, pm_al]
    rw [sgb_He_take_52 hb, d0, d1, sgb_He_take_82 hb, sgb_He_take_82 hb, d2, d3, n_s, hc]
    have hsame : ∀ y : Int32, J 76 2 = y → pm_up J 76 2 y = J := fun y hy => by
      funext a j
      by_cases c : a = 76 ∧ j = 2
      · obtain ⟨rfl, rfl⟩ := c; rw [up_eq, hy]
      · exact up_ne c
    cases decide ((tk G k).1 (G.2.1 k) = 0) with
    | true => rw [cond_true, Bool.not_true, Bool.false_and, Bool.or_false, hsame _ q3]
    | false =>
      cases decide ((tk G k).2.1 (G.2.1 k) = G.2.2 k) with
      | true => rw [cond_false, cond_true, Bool.not_true, Bool.and_false, Bool.or_false, hsame _ q3]
      | false => rw [cond_false, cond_false, Bool.not_false, Bool.and_self, Bool.or_true]; rfl) 0 (pm_up I 76 2 0, pm_up (pm_up L 76 0 0) 76 1 0, none, none, none, none) (Nat.zero_le _) ⟨fun a j h => up_ne h, fun a j h => (up_ne (fun c => h c.1)).trans (up_ne (fun c => h c.1)), y2, y0, y1⟩
  simp only at t2 t3 t4 t5 t6
  have t1 : Rn X (d + 1) co_He_take (17, [some (vr 76), some (vr (27 + 3 * b)), some (vi 0), none, none, none, none], [], pm_mm al D (pm_up I 76 2 0) (pm_up (pm_up L 76 0 0) 76 1 0)) = Rn X (d + 1) co_He_take (17, [some (vr 76), some (vr (27 + 3 * b)), some (vi (Int32.ofNat G.1)), o3, o4, o5, o6], [], pm_mm al D J M) := t1
  refine ⟨J, M, ?_, t2, t3, t4, t5, t6⟩
  rw [t1, sgb_He_take_17 hb, t2 (27 + 3 * b) 0 (by omega), e0, n_dle (by omega) (by omega), dt (Nat.le_refl _), cond_true]
/-- heard: what take leaves -/
def hdd (G : LG) (J : Nat → Nat → Int32) (M : Nat → Nat → Int64) : Prop := J 76 2 = b01 (tk G G.1).2.2 ∧ M 76 0 = Int64.ofNat (dg (tk G G.1).1 12) ∧ M 76 1 = Int64.ofNat (dg (tk G G.1).2.1 12)
theorem k_agrees {G : LG} {B : PB} {w : Nat → Int32} {x : Nat} (g : lgG G) (h : hdd G I L) : Cl X (d + 1) 21 [vr 76, vl (Int64.ofNat (wV B w x 12))] (pm_mm al D I L) = some (some (vi (b01 (hrd G (wS B w x) 0 G.1))), pm_mm al D I L) := by
  obtain ⟨h1, h2, h3⟩ := h
  obtain ⟨r1, r2, r3⟩ := tk_rg g G.1 (Nat.le_refl _)
  have hS : ∀ t, wS B w x t < 8 := fun t => by have := wS_le B w x t; omega
  have hτ8 : ∀ t, (tk G G.1).1 t < 8 := fun t => by rcases r1 t with h | h <;> omega
  rw [Cl_s]
  show Rn X d co_He_agrees (0, [some (vr 76), some (vl (Int64.ofNat (wV B w x 12))), none], [], pm_mm al D I L) = _
  have hd : decide (lg_cmp (Int64.ofNat (wV B w x 12) &&& L 76 0) (L 76 1) = 0) = decide (dg (fun t => wS B w x t &&& (tk G G.1).1 t) 12 = dg (tk G G.1).2.1 12) := by
    have e : wV B w x 12 = dg (wS B w x) 12 + su (wL B w x) 12 * 1099511627776 := by rw [wV, dg]
    have l1 := dg36 (a := fun t => wS B w x t &&& (tk G G.1).1 t) (fun t => and8 (hS t))
    have l2 := dg36 r2
    rw [h2, h3, un_and, e, dg_hi hS hτ8]
    exact decide_eq_decide.mpr ((lg_cmp_eq _ _).trans (un_eq (by omega) (by omega)))
  rw [sg_He_agrees_0, hd, h1, b01_ne, hrd_tk g hS, sg_He_agrees_25, sg_He_agrees_26, sg_He_agrees_26]
  cases (tk G G.1).2.2 <;> cases decide (dg (fun t => wS B w x t &&& (tk G G.1).1 t) 12 = dg (tk G G.1).2.1 12) <;> rfl
end
