section
variable {X : Nat × (Nat → Int32)} {d : Nat} {al : List Nat} {D : Nat → Bool} {I : Nat → Nat → Int32} {L : Nat → Nat → Int64}
theorem k_clearNotes : Cl X (d + 1) 42 [vr 49] (pm_mm al D I L) = some (none, pm_mm al D (pm_ups I 52 (fun t => if t < 12 then 0 else I 52 t)) L) := by
  rw [Cl_s]
  show Rn X d co_Pl_clearNotes (0, [some (vr 49), none], [], pm_mm al D I L) = _
  rw [sg_Pl_clearNotes_0]
  have h : ∀ n k, k + n = 12 → Rn X d co_Pl_clearNotes (2, [some (vr 49), some (vi (Int32.ofNat k))], [], pm_mm al D (pm_ups I 52 (fun t => if t < k then 0 else I 52 t)) L) = some (none, pm_mm al D (pm_ups I 52 (fun t => if t < 12 then 0 else I 52 t)) L) := by
    intro n
    induction n with
    | zero => intro k hk; obtain rfl : k = 12 := by omega
              rw [sg_Pl_clearNotes_2]; rfl
    | succ n ih =>
      intro k hk
      rw [sg_Pl_clearNotes_2]
      simp (disch := omega) only [a0, a1, a2, a3, a4, a5, a6, a7, a8, a9, a10, a11, a12, a13, a20, a24, a60, a64, a84, a99, a100, a600, a720, a4096, a1000000, df, cond_false, n_in, dt, cond_true, n_tn, n_s]
      rw [← ih (k + 1) (by omega)]
      refine congrArg (fun g => Rn X d co_Pl_clearNotes (2, [some (vr 49), some (vi (Int32.ofNat (k + 1)))], [], pm_mm al D g L)) ?_
      funext a j
      simp only [pm_up, pm_ups]
      by_cases ha : a = 52
      · by_cases hj : j = k
        · simp [ha, hj]
        · have : (j < k + 1) ↔ j < k := by omega
          simp [ha, hj, this]
      · simp [ha]
  refine Eq.trans ?_ (h 12 0 rfl)
  refine congrArg (fun g => Rn X d co_Pl_clearNotes (2, [some (vr 49), some (vi 0)], [], pm_mm al D g L)) ?_
  funext a j
  simp only [pm_ups]
  by_cases ha : a = 52 <;> simp [ha]
/-- the notes of a score as the class has them -/
def ntP (J : Nat → Nat → Int32) (s : Nat) (S : SC) : Prop := scG S ∧ J (19 + 4 * s) 0 = Int32.ofNat S.1 ∧ ∀ k, k < S.1 → J (20 + 4 * s) k = Int32.ofNat (S.2.1 k) ∧ J (21 + 4 * s) k = Int32.ofNat (S.2.2.1 k) ∧ J (22 + 4 * s) k = Int32.ofNat (S.2.2.2 k)
theorem nt_of {m : Nat → Nat} {s : Nat} (g : rG I m) (r : RL I m) (hs : s < m 1) : ntP I s (scO I s) := by
  obtain ⟨g1, g3, g4⟩ := g.2.2.1 s hs
  obtain ⟨r1, r2⟩ := r.2.2.1 s hs
  refine ⟨g1, r1.trans (n_of g3), fun k hk => ?_⟩
  obtain ⟨a1, a2, a3⟩ := r2 k hk
  obtain ⟨b1, b2, b3⟩ := g4 k hk
  rw [show 20 + 4 * s = 19 + 4 * s + 1 by omega, show 21 + 4 * s = 19 + 4 * s + 2 by omega, show 22 + 4 * s = 19 + 4 * s + 3 by omega, a1, a2, a3]
  exact ⟨n_of b1, n_of b2, n_of b3⟩
theorem nt_up {J K : Nat → Nat → Int32} {s : Nat} {S : SC} (h : ntP J s S) (hs : s < 2) (e : ∀ a j, 19 ≤ a → a < 27 → K a j = J a j) : ntP K s S := by
  obtain ⟨h1, h2, h3⟩ := h
  refine ⟨h1, (e _ 0 (by omega) (by omega)).trans h2, fun k hk => ?_⟩
  rw [e _ k (by omega) (by omega), e _ k (by omega) (by omega), e _ k (by omega) (by omega)]; exact h3 k hk
theorem n_mn (a b : Nat) (ha : a < 2147483648) (hb : b < 2147483648) : mn (Int32.ofNat a) (Int32.ofNat b) = Int32.ofNat (min a b) := by
  rw [mn]
  by_cases h : a < b
  · rw [if_pos ((n_lt ha hb).mpr h), Nat.min_eq_left (by omega)]
  · rw [if_neg (fun c => h ((n_lt ha hb).mp c)), Nat.min_eq_right (by omega)]
theorem k_addNote {s k n lt : Nat} {S : SC} (hs : s < 2) (hk : k < S.1) (nt : ntP I s S) (hn : n ≤ 6) (en : I 49 3 = Int32.ofNat n) (ht : lt < 12) :
    Cl X (d + 2) 43 [vr 49, vr (19 + 4 * s), vi (Int32.ofNat k), vi (Int32.ofNat lt)] (pm_mm al D I L) = some (none, pm_mm al D (if S.2.1 k < n then pm_ups I 52 (lyf (I 52) (S.2.1 k) (S.2.2.1 k + lt) (S.2.2.2 k)) else I) L) := by
  obtain ⟨⟨g1, g2⟩, n1, n2⟩ := nt
  obtain ⟨q1, q2, q3, q4⟩ := g2 k hk
  obtain ⟨e1, e2, e3⟩ := n2 k hk
  rw [Cl_s]
  refine Eq.trans (show _ = Rn X (d + 1) co_Pl_addNote (0, [some (vr 49), some (vr (19 + 4 * s)), some (vi (Int32.ofNat k)), some (vi (Int32.ofNat lt)), none, none, none], [], pm_mm al D I L) from rfl) ?_
  rw [sgb_Pl_addNote_0 hs]
  have hmn := n_mn 12 (S.2.2.1 k + lt + S.2.2.2 k) (by omega) (by omega)
  have hmn : mn 12 (Int32.ofNat (S.2.2.1 k + lt + S.2.2.2 k)) = _ := hmn
  simp (disch := omega) only [n_in, dt, cond_true, n_tn, e1, e2, e3, en, n_dlt, n_add, k_min, hmn, Option.bind_some, pm_ai, sgb_Pl_addNote_38 hs]
  by_cases hp : S.2.1 k < n
  · rw [dt hp, if_pos hp, cond_true]
    have h : ∀ j i, S.2.2.1 k + lt ≤ 12 → i + j = min 12 (S.2.2.1 k + lt + S.2.2.2 k) → S.2.2.1 k + lt ≤ i → Rn X (d + 1) co_Pl_addNote (44, [some (vr 49), some (vr (19 + 4 * s)), some (vi (Int32.ofNat k)), some (vi (Int32.ofNat lt)), some (vi (Int32.ofNat (S.2.2.1 k + lt))), some (vi (Int32.ofNat (min 12 (S.2.2.1 k + lt + S.2.2.2 k)))), some (vi (Int32.ofNat i))], [], pm_mm al D (pm_ups I 52 (lyf (I 52) (S.2.1 k) (S.2.2.1 k + lt) (i - (S.2.2.1 k + lt)))) L) = some (none, pm_mm al D (pm_ups I 52 (lyf (I 52) (S.2.1 k) (S.2.2.1 k + lt) (S.2.2.2 k))) L) := by
      intro j
      induction j with
      | zero =>
        intro i hle hi hge
        rw [sgb_Pl_addNote_44 hs]
        simp (disch := omega) only [n_dle, dt, cond_true]
        have : lyf (I 52) (S.2.1 k) (S.2.2.1 k + lt) (i - (S.2.2.1 k + lt)) = lyf (I 52) (S.2.1 k) (S.2.2.1 k + lt) (S.2.2.2 k) := by
          funext t
          have : (S.2.2.1 k + lt ≤ t ∧ t < S.2.2.1 k + lt + (i - (S.2.2.1 k + lt)) ∧ t < 12) ↔ (S.2.2.1 k + lt ≤ t ∧ t < S.2.2.1 k + lt + S.2.2.2 k ∧ t < 12) := by omega
          simp only [lyf, this]
        rw [this]
      | succ j ih =>
        intro i hle hi hge
        rw [sgb_Pl_addNote_44 hs]
        have e1' : ∀ f : Nat → Int32, pm_ups I 52 f (20 + 4 * s) k = Int32.ofNat (S.2.1 k) := fun f => by rw [ups_ne (by omega)]; exact e1
        simp (disch := omega) only [n_dle, df, cond_false, n_in, dt, cond_true, n_tn, e1', n_s]
        rw [← ih (i + 1) hle (by omega) (by omega)]
        refine congrArg (fun g => Rn X (d + 1) co_Pl_addNote (44, [some (vr 49), some (vr (19 + 4 * s)), some (vi (Int32.ofNat k)), some (vi (Int32.ofNat lt)), some (vi (Int32.ofNat (S.2.2.1 k + lt))), some (vi (Int32.ofNat (min 12 (S.2.2.1 k + lt + S.2.2.2 k)))), some (vi (Int32.ofNat (i + 1)))], [], pm_mm al D g L)) ?_
        funext a t
        by_cases ha : a = 52
        · subst ha
          by_cases hti : t = i
          · subst hti
            rw [up_eq, ups_eq, ups_eq, lyf, lyf, if_neg (by omega), if_pos (by omega)]
          · rw [up_ne (by omega), ups_eq, ups_eq, lyf, lyf]
            by_cases hc : S.2.2.1 k + lt ≤ t ∧ t < S.2.2.1 k + lt + (i - (S.2.2.1 k + lt)) ∧ t < 12
            · rw [if_pos hc, if_pos (by omega)]
            · rw [if_neg hc, if_neg (by omega)]
        · rw [up_ne (by omega), ups_ne ha, ups_ne ha]
    by_cases hle : S.2.2.1 k + lt ≤ 12
    · refine Eq.trans ?_ (h (min 12 (S.2.2.1 k + lt + S.2.2.2 k) - (S.2.2.1 k + lt)) (S.2.2.1 k + lt) hle (by omega) (by omega))
      refine congrArg (fun g => Rn X (d + 1) co_Pl_addNote (44, [some (vr 49), some (vr (19 + 4 * s)), some (vi (Int32.ofNat k)), some (vi (Int32.ofNat lt)), some (vi (Int32.ofNat (S.2.2.1 k + lt))), some (vi (Int32.ofNat (min 12 (S.2.2.1 k + lt + S.2.2.2 k)))), some (vi (Int32.ofNat (S.2.2.1 k + lt)))], [], pm_mm al D g L)) ?_
      funext a t
      by_cases ha : a = 52
      · subst ha; rw [ups_eq, lyf, if_neg (by omega)]
      · rw [ups_ne ha]
    · rw [sgb_Pl_addNote_44 hs]
      simp (disch := omega) only [n_dle, dt, cond_true]
      congr 3
      funext a t
      by_cases ha : a = 52
      · subst ha; rw [ups_eq, lyf, if_neg (by omega)]
      · rw [ups_ne ha]
  · rw [df hp, if_neg hp, cond_false]
theorem wg_mask (S : SC) (kp : Nat → Bool) (sh : Nat → Nat) (n t : Nat) {i : Nat} (hi : i < 32) : ∀ N, (∀ k, k < N → S.2.1 k < 6) → tb (wgs S (fun k => kp k && decide (S.2.1 k < n)) sh N t) i = (tb (wgs S kp sh N t) i && decide (i < n))
  | 0, _ => by rw [wgs, wgs, fo, fo, tb_0]; rfl
  | N + 1, h => by
    have ih := wg_mask S kp sh n t hi N (fun k hk => h k (by omega))
    have h6 := h N (by omega)
    rw [wgs, wgs] at ih
    rw [wgs, wgs, fo, fo]
    generalize fo (wg S (fun k => kp k && decide (S.2.1 k < n)) sh t) N 0 = x at ih ⊢
    generalize fo (wg S kp sh t) N 0 = y at ih ⊢
    rw [wg, wg]
    by_cases hc : kp N = true ∧ S.2.2.1 N + sh N ≤ t ∧ t < S.2.2.1 N + sh N + S.2.2.2 N
    · rw [if_pos hc]
      by_cases hp : S.2.1 N < n
      · rw [if_pos ⟨by rw [hc.1, dt hp]; rfl, hc.2⟩, tb_or, tb_or, ih, tb_shl (by omega) hi]
        by_cases hq : S.2.1 N = i
        · rw [dt hq, dt (show i < n by omega)]; simp
        · rw [df hq]; simp
      · rw [if_neg (fun c => by have := c.1; rw [df hp, Bool.and_false] at this; cases this), tb_or, ih, tb_shl (by omega) hi]
        by_cases hq : S.2.1 N = i
        · rw [df (show ¬ i < n by omega)]; simp
        · rw [df hq, Bool.or_false]
    · rw [if_neg hc, if_neg (fun c => hc ⟨by have := c.1; rw [Bool.and_eq_true] at this; exact this.1, c.2⟩), ih]
theorem wgs_skip {S : SC} {kp : Nat → Bool} {sh : Nat → Nat} {k t : Nat} (h : kp k = false) : wgs S kp sh (k + 1) t = wgs S kp sh k t := by
  rw [wgs, fo, wg, if_neg (fun c => by rw [h] at c; cases c.1)]; rfl
theorem k_takeNotesLeft {s n : Nat} {S : SC} (out : Int32) (hs : s < 2) (nt : ntP I s S) (hn : n ≤ 6) (en : I 49 3 = Int32.ofNat n) :
    Cl X (d + 3) 41 [vr 49, vr (19 + 4 * s), vi out] (pm_mm al D I L) = some (none, pm_mm al D (pm_ups I 52 (fun t => if t < 12 then wgs S (fun k => !tb out k && decide (S.2.1 k < n)) (fun _ => 0) S.1 t else I 52 t)) L) := by
  rw [Cl_s]
  refine Eq.trans (show _ = Rn X (d + 2) co_Pl_takeNotesLeft (0, [some (vr 49), some (vr (19 + 4 * s)), some (vi out), none], [], pm_mm al D I L) from rfl) ?_
  rw [sgb_Pl_takeNotesLeft_0 hs, k_clearNotes]
  simp only [Option.bind_some, pm_av, sgb_Pl_takeNotesLeft_4 hs]
  have h8 : S.1 ≤ 8 := nt.1.1
  have h : ∀ j k, k + j = S.1 → Rn X (d + 2) co_Pl_takeNotesLeft (6, [some (vr 49), some (vr (19 + 4 * s)), some (vi out), some (vi (Int32.ofNat k))], [], pm_mm al D (pm_ups I 52 (fun t => if t < 12 then wgs S (fun k => !tb out k && decide (S.2.1 k < n)) (fun _ => 0) k t else I 52 t)) L) = some (none, pm_mm al D (pm_ups I 52 (fun t => if t < 12 then wgs S (fun k => !tb out k && decide (S.2.1 k < n)) (fun _ => 0) S.1 t else I 52 t)) L) := by
    intro j
    induction j with
    | zero =>
      intro k hk
      obtain rfl : k = S.1 := by omega
      rw [sgb_Pl_takeNotesLeft_6 hs]
      have e0 : ∀ f : Nat → Int32, pm_ups I 52 f (19 + 4 * s) 0 = Int32.ofNat S.1 := fun f => by rw [ups_ne (by omega)]; exact nt.2.1
      simp (disch := omega) only [e0, n_dle, dt, cond_true]
    | succ j ih =>
      intro k hk
      have e0 : ∀ f : Nat → Int32, pm_ups I 52 f (19 + 4 * s) 0 = Int32.ofNat S.1 := fun f => by rw [ups_ne (by omega)]; exact nt.2.1
      have ha := fun f : Nat → Int32 => k_addNote (X := X) (d := d) (al := al) (D := D) (L := L) (I := pm_ups I 52 f) (k := k) (n := n) (lt := 0) hs (show k < S.1 by omega) (nt_up nt hs (fun a j a1 a2 => ups_ne (by omega))) hn (by rw [ups_ne (by omega)]; exact en) (by omega)
      have ha : ∀ f : Nat → Int32, Cl X (d + 2) 43 [vr 49, vr (19 + 4 * s), vi (Int32.ofNat k), vi 0] (pm_mm al D (pm_ups I 52 f) L) = _ := ha
      rw [sgb_Pl_takeNotesLeft_6 hs]
      simp (disch := omega) only [e0, n_dle, df, cond_false, hs0_tb, ha, Option.bind_some, pm_av, sgb_Pl_takeNotesLeft_29 hs, n_s]
      rw [← ih (k + 1) (by omega)]
      cases hb : tb out k with
      | true =>
        refine congrArg (fun g => Rn X (d + 2) co_Pl_takeNotesLeft (6, [some (vr 49), some (vr (19 + 4 * s)), some (vi out), some (vi (Int32.ofNat (k + 1)))], [], pm_mm al D (pm_ups I 52 g) L)) ?_
        funext t
        rw [wgs_skip (kp := fun k => !tb out k && decide (S.2.1 k < n)) (k := k) (by show (!tb out k && decide (S.2.1 k < n)) = false; rw [hb]; rfl)]
      | false =>
        refine congrArg (fun g => Rn X (d + 2) co_Pl_takeNotesLeft (6, [some (vr 49), some (vr (19 + 4 * s)), some (vi out), some (vi (Int32.ofNat (k + 1)))], [], pm_mm al D g L)) ?_
        by_cases hp : S.2.1 k < n
        · rw [if_pos hp, ups_ups]
          congr 1
          funext t
          rw [ups_eq, lyf, wgs, wgs, fo, wg]
          by_cases ht : t < 12
          · rw [if_pos ht, if_pos ht]
            by_cases hc : S.2.2.1 k + 0 ≤ t ∧ t < S.2.2.1 k + 0 + S.2.2.2 k
            · rw [if_pos ⟨hc.1, hc.2, ht⟩, if_pos ⟨by rw [hb, dt hp]; rfl, hc⟩]
            · rw [if_neg (fun c => hc ⟨c.1, c.2.1⟩), if_neg (fun c => hc c.2)]
          · rw [if_neg ht, if_neg ht, if_neg (fun c => ht c.2.2)]
        · rw [if_neg hp]
          congr 1
          funext t
          rw [wgs_skip (kp := fun k => !tb out k && decide (S.2.1 k < n)) (k := k) (by show (!tb out k && decide (S.2.1 k < n)) = false; rw [df hp, Bool.and_false])]
  exact h S.1 0 (by omega)
theorem k_worthLeft {b s n : Nat} {S : SC} (out : Int32) (hb : b < 2) (hs : s < 2) (nt : ntP I s S) (hn : n ≤ 6) (en : I (9 + 5 * b) 4 = Int32.ofNat n) :
    Cl X (d + 1) 85 [vr (19 + 4 * s), vr (9 + 5 * b), vi out] (pm_mm al D I L) = some (some (vi (ww S (I (11 + 5 * b)) n out)), pm_mm al D I L) := by
  rw [Cl_s]
  refine Eq.trans (show _ = Rn X d co_Sc_worthLeft (0, [some (vr (19 + 4 * s)), some (vr (9 + 5 * b)), some (vi out), none, none], [], pm_mm al D I L) from rfl) ?_
  rw [sgb_Sc_worthLeft_0 hb hs]
  obtain ⟨⟨g1, g2⟩, n1, n2⟩ := nt
  have h := lf S.1 (fun k a => Rn X d co_Sc_worthLeft (5, [some (vr (19 + 4 * s)), some (vr (9 + 5 * b)), some (vi out), some (vi a), some (vi (Int32.ofNat k))], [], pm_mm al D I L)) (fun k a => a + cond (!tb out k && decide (S.2.1 k < n)) (I (11 + 5 * b) (S.2.1 k) * Int32.ofNat (S.2.2.2 k)) 0) (fun k a hk => by
    obtain ⟨q1, q2, q3, q4⟩ := g2 k hk
    obtain ⟨e1, e2, e3⟩ := n2 k hk
    show Rn X d co_Sc_worthLeft _ = Rn X d co_Sc_worthLeft _
    rw [sgb_Sc_worthLeft_5 hb hs]
    simp (disch := omega) only [n1, n_dle, df, cond_false, hs0_tb, n_in, dt, cond_true, n_tn, e1, e3, en, sgb_Sc_worthLeft_60 hb hs, n_s]
    cases tb out k with
    | true => simp only [Bool.not_true, cond_false, Bool.false_and, Int32.add_zero]
    | false =>
      by_cases hp : S.2.1 k < n
      · simp (disch := omega) only [dt, df, Bool.not_false, cond_true, cond_false, Bool.and_self]
      · simp (disch := omega) only [dt, df, Bool.not_false, cond_true, cond_false, Bool.true_and, Int32.add_zero]) 0
  refine Eq.trans h ?_
  show Rn X d co_Sc_worthLeft _ = _
  rw [sgb_Sc_worthLeft_5 hb hs]
  simp (disch := omega) only [n1, n_dle, dt, cond_true]; rfl
/-- the play has a band -/
def bdP (J : Nat → Nat → Int32) (B : PB) : Prop := B.2.2.2.2.1 ≤ 6 ∧ J 49 3 = Int32.ofNat B.2.2.2.2.1 ∧ (∀ p, p < 6 → J 51 p = Int32.ofNat p) ∧ J 49 4 = B.2.1 ∧ (∀ i, i < B.2.2.2.2.1 → J 50 i = B.2.2.2.2.2.1 (Int32.ofNat i)) ∧ (∀ i, B.2.2.2.2.2.2 i = Int32.ofNat i) ∧ J 49 0 = B.1 ∧ J 49 1 = B.2.2.1 ∧ J 49 2 = B.2.2.2.1
theorem bd_up {J K : Nat → Nat → Int32} {B : PB} (h : bdP J B) (e : ∀ a j, 49 ≤ a → a ≤ 51 → ¬ (a = 49 ∧ j = 15) → K a j = J a j) : bdP K B := by
  obtain ⟨h1, h2, h3, h4, h5, h6, h7, h8, h9⟩ := h
  refine ⟨h1, (e _ _ (by omega) (by omega) (by omega)).trans h2, fun p hp => (e _ _ (by omega) (by omega) (by omega)).trans (h3 p hp), (e _ _ (by omega) (by omega) (by omega)).trans h4, fun i hi => (e _ _ (by omega) (by omega) (by omega)).trans (h5 i hi), h6, (e _ _ (by omega) (by omega) (by omega)).trans h7, (e _ _ (by omega) (by omega) (by omega)).trans h8, (e _ _ (by omega) (by omega) (by omega)).trans h9⟩
theorem bd_tk {m : Nat → Nat} {b : Nat} {J : Nat → Nat → Int32} (g : rG I m) (r : RL I m) (hb : b < m 0) (h : tkP I J (9 + 5 * b)) : bdP J (bdO I b) := by
  obtain ⟨h1, h2, h3, h4, h5, h6, h7⟩ := h
  obtain ⟨g1, g2, _⟩ := g.2.1 b hb
  obtain ⟨r1, r2, r3, r4, r5, r6⟩ := r.2.1 b hb
  refine ⟨g1, h5.trans (r1.trans (n_of g2)), h7, h2.trans r3, fun i hi => ?_, fun _ => rfl, h1.trans r2, h3.trans r4, h4.trans r5⟩
  have hi : i < (I 87 (29 * b)).toNatClampNeg := hi
  show J 50 i = dwR I b (Int32.ofNat i)
  rw [dwR, n_tn (by omega), h6 i (by omega), (r6 i hi).1]
theorem pd_of {J : Nat → Nat → Int32} {B : PB} {w : Nat → Int32} (h : bdP J B) (e : ∀ t, t < 12 → ∀ i, i < 32 → tb (J 52 t) i = (tb (w t) i && decide (i < B.2.2.2.2.1))) : pdP J B w := by
  obtain ⟨h1, h2, h3, h4, h5, h6, h7, h8, h9⟩ := h
  refine ⟨h1, h2, h3, fun t ht k hk hb => ?_, h4, h5, fun t ht i hi => ?_, h6⟩
  · rw [e t ht k hk, Bool.and_eq_true, decide_eq_true_iff] at hb; exact hb.2
  · rw [hs_tb _ (by omega), hs_tb _ (by omega), e t ht i (by omega), dt hi, Bool.and_true]
def qcF (J K : Nat → Nat → Int32) : Prop := (∀ a j, ¬ plS a j → a ≠ 52 → K a j = J a j) ∧ K 57 0 = J 57 0 ∧ K 59 0 = J 59 0
theorem q_cut {m : Nat → Nat} (b s u : Int32) (wh : Bool) (g : rG I m) (r : RL I m) : ∃ J, Cl X (d + 5) 136 [vr 1, vi b, vi s, vi u, vi (b01 wh)] (pm_mm al D I L) = some (some (vi (vCut I m b s u wh)), pm_mm al D J L) ∧ cF I J := by
  have hm : ∀ i, i < 4 → m i ≤ 2 ∧ I 4 i = Int32.ofNat (m i) := fun i hi => ⟨(g.1 i hi).1, (r.1 i hi).trans (g.1 i hi).2⟩
  rw [Cl_s]
  show ∃ J, Rn X (d + 4) co_Ch_cut (0, [some (vr 1), some (vi b), some (vi s), some (vi u), some (vi (b01 wh)), none, none, none, none, none, none], [], pm_mm al D I L) = _ ∧ _
  rw [sg_Ch_cut_x_0, k_hasThree (d := d + 1) b s u hm]
  simp only [Option.bind_some, pm_ai, vCut]
  rw [Bool.and_comm (pm_in s (m 1))]
  cases hok : (pm_in b (m 0) && pm_in s (m 1) && pm_in u (m 2)) with
  | false => exact ⟨I, sg_Ch_cut_x0_7 .., cF_refl⟩
  | true =>
    simp only [Bool.and_eq_true] at hok
    obtain ⟨⟨o1, o2⟩, o3⟩ := hok
    obtain ⟨s', hs', es⟩ := in_nat o2
    obtain ⟨b', hb', eb⟩ := in_nat o1
    obtain ⟨u', hu', eu⟩ := in_nat o3
    have m0 := (g.1 0 (by omega)).1
    have m1 := (g.1 1 (by omega)).1
    have m2 := (g.1 2 (by omega)).1
    have hb2 : b' < 2 := by omega
    have hs2 : s' < 2 := by omega
    subst eb es eu
    obtain ⟨J, e1, e2, e3⟩ := k_takeBand (X := X) (d := d + 2) (al := al) (D := D) (L := L) (I := I) (q := 9 + 5 * b') (by omega)
    have hbd := bd_tk g r hb' e3
    have hn6 : (I 87 (29 * b')).toNatClampNeg ≤ 6 := hbd.1
    have J0 : ∀ a j, a < 49 → J a j = I a j := fun a j h => e2 a j (by unfold tkS; omega)
    have hnt : ntP J s' (scO I s') := nt_up (nt_of g r hs') hs2 (fun a j a1 a2 => J0 a j (by omega))
    have h8 : (scO I s').1 ≤ 8 := hnt.1.1
    have hp2 : 2 ^ (scO I s').1 ≤ 256 := Nat.pow_le_pow_right (n := 2) (by omega) h8
    have gB := bG_O g hb'
    have hww : ∀ x, ww (scO I s') (J (11 + 5 * b')) (I 87 (29 * b')).toNatClampNeg x = ww (scO I s') (fun p => I 87 (29 * b' + (11 + p))) (I 87 (29 * b')).toNatClampNeg x := fun x => by
      refine fo_congr _ _ (fun k a hk => ?_)
      by_cases hp : (scO I s').2.1 k < (I 87 (29 * b')).toNatClampNeg
      · rw [J0 _ _ (by omega), show 11 + 5 * b' = 9 + 5 * b' + 2 by omega, ((r.2.1 b' hb').2.2.2.2.2 _ hp).2.1]
      · rw [df hp, Bool.and_false]; rfl
    have loop : ∀ n out K o, out + n = 2 ^ (scO I s').1 → qcF J K → ∃ M, Rn X (d + 4) co_Ch_cut (52, [some (vr 1), some (vi (Int32.ofNat b')), some (vi (Int32.ofNat s')), some (vi (Int32.ofNat u')), some (vi (b01 wh)), some (vr (9 + 5 * b')), some (vr (19 + 4 * s')), some (vi (ct (bdO I b') (scO I s') (fun p => I 87 (29 * b' + (11 + p))) (I 89 u') out).1), some (vi (ct (bdO I b') (scO I s') (fun p => I 87 (29 * b' + (11 + p))) (I 89 u') out).2), some (vi (Int32.ofNat out)), o], [], pm_mm al D K L)
        = some (some (vi (cond wh (ct (bdO I b') (scO I s') (fun p => I 87 (29 * b' + (11 + p))) (I 89 u') (2 ^ (scO I s').1)).2 (ct (bdO I b') (scO I s') (fun p => I 87 (29 * b' + (11 + p))) (I 89 u') (2 ^ (scO I s').1)).1)), pm_mm al D M L) ∧ qcF J M := by
      intro n
      induction n with
      | zero =>
        intro out K o ho hK
        obtain rfl : out = 2 ^ (scO I s').1 := by omega
        refine ⟨K, ?_, hK⟩
        have K0 : K (19 + 4 * s') 0 = Int32.ofNat (scO I s').1 := (hK.1 _ 0 (by unfold plS; omega) (by omega)).trans hnt.2.1
        rw [sgb_Ch_cut_52 hb2 hs2, K0]
        simp (disch := omega) only [pw_shl, n_dle, dt, cond_true, b01_ne, sgb_Ch_cut_139]
        cases wh <;> rfl
      | succ n ih =>
        intro out K o ho hK
        have K0 : K (19 + 4 * s') 0 = Int32.ofNat (scO I s').1 := (hK.1 _ 0 (by unfold plS; omega) (by omega)).trans hnt.2.1
        have kn : ntP K s' (scO I s') := nt_up hnt hs2 (fun a j a1 a2 => hK.1 a j (by unfold plS; omega) (by omega))
        have kp : K (9 + 5 * b') 4 = Int32.ofNat (I 87 (29 * b')).toNatClampNeg := (hK.1 _ 4 (by unfold plS; omega) (by omega)).trans ((J0 _ 4 (by omega)).trans ((r.2.1 b' hb').1.trans (n_of (g.2.1 b' hb').2.1)))
        have k11 : K (11 + 5 * b') = J (11 + 5 * b') := by funext j; exact hK.1 _ j (by unfold plS; omega) (by omega)
        have hwl := k_worthLeft (X := X) (d := d + 3) (al := al) (D := D) (L := L) (I := K) (Int32.ofNat out) hb2 hs2 kn hn6 kp
        rw [k11, hww] at hwl
        have kbd : bdP K (bdO I b') := bd_up hbd (fun a j a1 a2 a3 => hK.1 a j (by unfold plS; omega) (by omega))
        have htn := k_takeNotesLeft (X := X) (d := d + 1) (al := al) (D := D) (L := L) (I := K) (Int32.ofNat out) hs2 kn hn6 kbd.2.1
        generalize hM : pm_ups K 52 (fun t => if t < 12 then wgs (scO I s') (fun k => !tb (Int32.ofNat out) k && decide ((scO I s').2.1 k < (I 87 (29 * b')).toNatClampNeg)) (fun _ => 0) (scO I s').1 t else K 52 t) = M at htn
        have kM : ∀ a j, a ≠ 52 → M a j = K a j := fun a j h => by rw [← hM, ups_ne h]
        have hpd : pdP M (bdO I b') (wgs (scO I s') (fun k => !tb (Int32.ofNat out) k) (fun _ => 0) (scO I s').1) := pd_of (bd_up kbd (fun a j a1 a2 a3 => kM a j (by omega))) (fun t ht i hi => by
          rw [← hM, ups_eq, if_pos ht, wg_mask _ (fun k => !tb (Int32.ofNat out) k) _ _ _ hi _ (fun k hk => (hnt.1.2 k hk).1)]; rfl)
        obtain ⟨P, p1, p2⟩ := k_wellB (X := X) (d := d + 1) (al := al) (D := D) (L := L) (I 89 u') 0 hpd
        have kz : bdP M (bdO I b') := bd_up kbd (fun a j a1 a2 a3 => kM a j (by omega))
        have hval : well (fun t => (pst (M 49 0, (bdO I b').2.1, M 49 1, M 49 2, (bdO I b').2.2.2.2.1, (bdO I b').2.2.2.2.2.1, (bdO I b').2.2.2.2.2.2) (wgs (scO I s') (fun k => !tb (Int32.ofNat out) k) (fun _ => 0) (scO I s').1) (trw (I 89 u') 0) (t + 1)).2.2.2.2.1) 0 12 = ctw (bdO I b') (scO I s') (I 89 u') out := by
          rw [kz.2.2.2.2.2.2.1, kz.2.2.2.2.2.2.2.1, kz.2.2.2.2.2.2.2.2]
          exact well_congr 12 0 (fun t _ ht => by rw [pst_trw gB])
        rw [hval] at p1
        have hP : qcF J P := ⟨fun a j a1 a2 => by rw [p2.1 a j a1, kM a j a2]; exact hK.1 a j a1 a2, by rw [p2.2.1, kM 57 0 (by omega)]; exact hK.2.1, by rw [p2.2.2, kM 59 0 (by omega)]; exact hK.2.2⟩
        have M7 : M 7 u' = I 89 u' := (kM 7 u' (by omega)).trans ((hK.1 7 u' (by unfold plS; omega) (by omega)).trans ((J0 7 u' (by omega)).trans (r.2.2.2.1 u' hu')))
        have hs1 : ct (bdO I b') (scO I s') (fun p => I 87 (29 * b' + (11 + p))) (I 89 u') (out + 1) = ct1 (fun out => ww (scO I s') (fun p => I 87 (29 * b' + (11 + p))) (I 87 (29 * b')).toNatClampNeg (Int32.ofNat out)) (ctw (bdO I b') (scO I s') (I 89 u')) out (ct (bdO I b') (scO I s') (fun p => I 87 (29 * b' + (11 + p))) (I 89 u') out) := rfl
        have ih' := fun K => ih (out + 1) K
        rw [hs1] at ih'
        rw [sgb_Ch_cut_52 hb2 hs2, K0]
        generalize ct (bdO I b') (scO I s') (fun p => I 87 (29 * b' + (11 + p))) (I 89 u') out = q at ih'
        rw [ct1] at ih'
        simp (disch := omega) only [pw_shl, n_dle, df, cond_false, hwl, Option.bind_some, pm_ai, sgb_Ch_cut_73 hb2 hs2, htn, pm_av, sgb_Ch_cut_93 hb2 hs2, n_in, dt, cond_true, n_tn, M7, p1, sgb_Ch_cut_110 hb2 hs2, b01_ne, sgb_Ch_cut_121 hb2 hs2, n_s]
        by_cases hc : ww (scO I s') (fun p => I 87 (29 * b' + (11 + p))) (I 87 (29 * b')).toNatClampNeg (Int32.ofNat out) ≤ q.1
        · rw [dt hc] at ih' ⊢
          exact ih' K _ (by omega) hK
        · rw [df hc] at ih' ⊢
          simp only [cond_false] at ih' ⊢
          cases hwl : ctw (bdO I b') (scO I s') (I 89 u') out with
          | true => rw [hwl] at ih'; exact ih' P _ (by omega) hP
          | false => rw [hwl] at ih'; exact ih' P _ (by omega) hP
    obtain ⟨M, f1, f2⟩ := loop (2 ^ (scO I s').1) 0 J none (by omega) ⟨fun _ _ _ _ => rfl, rfl, rfl⟩
    refine ⟨M, ?_, ?_⟩
    · refine Eq.trans (sgb_Ch_cut_7 (b := b') (s := s') hb2 hs2 ..) ?_
      rw [e1]
      simp only [Option.bind_some, pm_av, sgb_Ch_cut_43 hb2 hs2, n_tn (show b' < 2147483648 by omega), n_tn (show s' < 2147483648 by omega), n_tn (show u' < 2147483648 by omega)]
      exact f1
    · refine ⟨fun a a1 a2 => ?_, ?_, ?_, ?_⟩
      · funext j; rw [f2.1 a j (by unfold plS; omega) (by omega), e2 a j (by unfold tkS; omega)]
      · rw [f2.2.1, e2 57 0 (by unfold tkS; omega)]
      · rw [f2.2.2, e2 59 0 (by unfold tkS; omega)]
      · funext j; rw [f2.1 64 j (by unfold plS; omega) (by omega), e2 64 j (by unfold tkS; omega)]
end
