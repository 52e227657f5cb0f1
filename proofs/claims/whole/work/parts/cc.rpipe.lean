section
variable {X : Nat × (Nat → Int32)} {d : Nat} {al : List Nat} {D : Nat → Bool} {I : Nat → Nat → Int32} {L : Nat → Nat → Int64}
theorem c_full {f : Nat × Nat} {b c m : Nat} (e : I 91 0 = Int32.ofNat c) (hc : c ≤ 8) (hm : m ≤ 8) (hf : fR f b I) (hb : b ≤ 600) : ∃ J, Cl X (d + 2) 181 [vr 81, vi (Int32.ofNat m), vi (Int32.ofNat b)] (pm_mm al D I L) = some (none, pm_mm al D J L) ∧ (∀ a j, ¬ (a = 81 ∧ (j = 17 ∨ j = 18)) → J a j = I a j) ∧ fR (mkr f (decide (¬ c = m)) 3 b) (b + 1) J := by
  rw [Cl_s]
  show ∃ J, Rn X (d + 1) co_Mo_full (0, [some (vr 81), some (vi (Int32.ofNat m)), some (vi (Int32.ofNat b))], [], pm_mm al D I L) = _ ∧ _
  obtain ⟨J, l1, l2, l3⟩ := c_later (X := X) (d := d) (al := al) (D := D) (I := I) (L := L) (c := 3) (q := b) hf (by omega) (by omega) hb
  have l1 : Cl X (d + 1) 179 [vr 81, vi 3, vi (Int32.ofNat b)] (pm_mm al D I L) = some (none, pm_mm al D J L) := l1
  rw [sg_Mo_full_0, e, n_deq (by omega) (by omega), l1]
  simp only [Option.bind_some, pm_av]
  rw [sg_Mo_full_16, sg_Mo_full_16, mkr]
  by_cases h : c = m
  · rw [dt h, cond_true, df (fun q => q h), cond_false]; exact ⟨J, rfl, l2, l3⟩
  · rw [df h, cond_false, dt h, cond_true]; exact ⟨I, rfl, fun _ _ _ => rfl, fR_up hf (by omega) (fun _ _ => rfl)⟩
/-- the reference's row holds what was told -/
def RP (s ℓ : Nat) (P : Nat → Int32) (f : Nat × Nat) (J : Nat → Nat → Int32) : Prop := match s with
  | 0 => J 91 0 = Int32.ofNat (min ℓ 6) ∧ ∀ k, 1 ≤ k → k < 29 → J 91 k = P k
  | 1 => J 91 0 = Int32.ofNat (min ℓ 8) ∧ (∀ k, 1 ≤ k → k < 25 → J 91 k = P k) ∧ (f.1 = 0 → (J 81 21).toInt = max 0 (lst P ℓ))
  | 2 => f.1 = 0 → J 91 0 = P 0
  | _ => J 91 0 = Int32.ofNat (min ℓ 8) ∧ ∀ k, 1 ≤ k → k < 17 → J 91 k = P k
/-- a line's outcome, but for its end -/
def lnr (s : Nat) (T : Nat → Int32) (n b ℓ : Nat) (f : Nat × Nat) : Nat ⊕ (Nat × (Nat → Nat) × (Nat × Nat) × Nat) :=
  cond (decide (wat s T b (te T n b - b) = 7)) (.inl b) (match rdn T n (wat s T b (te T n b - b)) (nno (wat s T b (te T n b - b))) 0 (te T n b) (fun _ => 0) (lnf (wat s T b (te T n b - b)) ℓ f b) with
    | .inl q => .inl q
    | .inr (v, f', p) => .inr (wat s T b (te T n b - b), v, f', p))
/-- the state at a line's word -/
def LW (T : Nat → Int32) (n b s ℓ : Nat) (f : Nat × Nat) (P : Nat → Int32) (J : Nat → Nat → Int32) (M : Nat → Nat → Int64) : Prop := tpM J T n ∧ b < n ∧ TK T n b J M ∧ fR f b J ∧ J 81 22 = 1 ∧ RP s ℓ P f J
def fr3 (I J : Nat → Nat → Int32) : Prop := ∀ a j, ¬ a = 81 → ¬ a = 91 → ¬ a = 92 → J a j = I a j
def frL (L M : Nat → Nat → Int64) : Prop := ∀ a j, ¬ (a = 81 ∧ j = 15) → M a j = L a j
/-- what a broken line leaves; what a whole one -/
def lnB (T : Nat → Int32) (n q : Nat) (I J : Nat → Nat → Int32) (L M : Nat → Nat → Int64) : Prop := J 81 16 = Int32.ofNat q ∧ fr3 I J ∧ frL L M
def lnG (T : Nat → Int32) (n b s w ℓ : Nat) (v : Nat → Nat) (f' : Nat × Nat) (p : Nat) (P : Nat → Int32) (I J : Nat → Nat → Int32) (L M : Nat → Nat → Int64) : Prop := tpM J T n ∧ p ≤ n ∧ b < p ∧ TK T n (sk T n p) J M ∧ fR f' (sk T n p) J ∧ RP s (lnn w ℓ) (pay w ℓ v P) f' J ∧ fr3 I J ∧ frL L M
theorem wordTok {T : Nat → Int32} {n b s ℓ : Nat} {f g : Nat × Nat} {P : Nat → Int32} {K : Nat → Nat → Int32} (h : LW T n b s ℓ f P I L) (k1 : ∀ a j, ¬ (a = 81 ∧ (j = 17 ∨ j = 18)) → K a j = I a j) (k2 : fR g (b + 1) K) : ∃ J M, Cl X (d + 2) 177 [vr 81] (pm_mm al D K L) = some (none, pm_mm al D J M) ∧ (∀ a j, ¬ tksR a j → J a j = I a j) ∧ frL L M ∧ TK T n (sk T n (te T n b)) J M ∧ fR g (sk T n (te T n b)) J ∧ J 81 22 = 1 ∧ tpM J T n := by
  obtain ⟨hT, hb, ht, hf, h22, hR⟩ := h
  obtain ⟨u1, u2⟩ := te_rg (T := T) hb
  obtain ⟨g1, g2⟩ := sk_rg (T := T) (n := n) (p := te T n b) u2
  obtain ⟨J, M, c1, c2, c3, c4⟩ := c_token (X := X) (d := d) (al := al) (D := D) (I := K) (L := L) (T := T) (n := n) (p := te T n b) (tpM_up hT (fun a j hh => k1 a j (by omega))) u2 (by rw [k1 _ _ (by omega), ht.2.1, dt hb, cond_true])
  exact ⟨J, M, c1, fun a j hh => by unfold tksR at hh; rw [c2 a j (by omega), k1 a j (by omega)], c3, c4, fR_up k2 (by omega) (fun j hj => c2 _ _ (by omega)), by rw [c2 _ _ (by omega), k1 _ _ (by omega)]; exact h22, tpM_up hT (fun a j hh => by rw [c2 a j (by omega), k1 a j (by omega)])⟩
theorem lnf_full {w ℓ b : Nat} {f : Nat × Nat} (h : ¬ lno w = 0) : mkr f (decide (¬ min ℓ (lno w) = lno w)) 3 b = lnf w ℓ f b := by
  rw [lnf, df h, Bool.false_or]
  congr 1
  exact decide_eq_decide.mpr (by omega)
theorem c_pipeLine {T : Nat → Int32} {n b ℓ : Nat} {f : Nat × Nat} {P : Nat → Int32} (h : LW T n b 0 ℓ f P I L) :
    match rdn T n 2 4 0 (te T n b) (fun _ => 0) (lnf 2 ℓ f b) with
    | .inl q => ∃ J M, Cl X (d + 4) 182 [vr 81, vi (Int32.ofNat b)] (pm_mm al D I L) = some (some (vi 0), pm_mm al D J M) ∧ lnB T n q I J L M
    | .inr (v, f', p) => ∃ J M, Cl X (d + 4) 182 [vr 81, vi (Int32.ofNat b)] (pm_mm al D I L) = some (some (vi 1), pm_mm al D J M) ∧ lnG T n b 0 2 ℓ v f' p P I J L M := by
  have h0 := h
  obtain ⟨hT, hb, ht, hf, h22, hR⟩ := h
  have hn := hT.2.1
  obtain ⟨u1, u2⟩ := te_rg (T := T) hb
  obtain ⟨K, k1, k2, k3⟩ := c_full (X := X) (d := d + 1) (al := al) (D := D) (I := I) (L := L) (b := b) (m := 6) hR.1 (by omega) (by omega) hf (by omega)
  have k1 : Cl X (d + 3) 181 [vr 81, vi 6, vi (Int32.ofNat b)] (pm_mm al D I L) = some (none, pm_mm al D K L) := k1
  rw [show mkr f (decide (¬ min ℓ 6 = 6)) 3 b = lnf 2 ℓ f b from lnf_full (w := 2) (by decide)] at k3
  obtain ⟨J1, M1, a1, a2, a3, a4, a5, a6, a7⟩ := wordTok (X := X) (d := d + 1) (al := al) (D := D) h0 k2 k3
  rw [Cl_s]
  have s0 : Rn X (d + 3) co_Mo_pipeLine (0, [some (vr 81), some (vi (Int32.ofNat b)), none, none], [], pm_mm al D I L) = Rn X (d + 3) co_Mo_pipeLine (11, [some (vr 81), some (vi (Int32.ofNat b)), none, none], [], pm_mm al D J1 M1) := by
    rw [sg_Mo_pipeLine_0, k1]
    simp only [Option.bind_some, pm_av]
    rw [sg_Mo_pipeLine_7, a1]
    simp only [Option.bind_some, pm_av]
  have tk := c_takes (X := X) (d := d) (al := al) (D := D) (T := T) (n := n) (w := 2) (by omega) (fun i V => match i with
    | 0 => Rn X (d + 3) co_Mo_pipeLine (11, [some (vr 81), some (vi (Int32.ofNat b)), none, none], [], V)
    | 1 => ((Cl X (d + 3) 180 [vr 81, vi 1, vi 0, vi 9] V).bind pm_ai).bind (fun r => Rn X (d + 3) co_Mo_pipeLine (30, [some (vr 81), some (vi (Int32.ofNat b)), none, none], [vi r.1], r.2))
    | 2 => ((Cl X (d + 3) 180 [vr 81, vi 2, vi 0, vi 9] V).bind pm_ai).bind (fun r => Rn X (d + 3) co_Mo_pipeLine (41, [some (vr 81), some (vi (Int32.ofNat b)), none, none], [vi r.1], r.2))
    | 3 => ((Cl X (d + 3) 180 [vr 81, vi 3, vi 0, vi 9] V).bind pm_ai).bind (fun r => Rn X (d + 3) co_Mo_pipeLine (52, [some (vr 81), some (vi (Int32.ofNat b)), none, none], [vi r.1], r.2))
    | _ => Rn X (d + 3) co_Mo_pipeLine (66, [some (vr 81), pm_nl (some (vi (Int32.ofNat b))), some (vi (V.2.2.2.1 91 0)), some (vi 0)], [], V)) (fun i hi J J' M M' u hc => by
      have hi : i < 4 := hi
      have h4 : i = 0 ∨ i = 1 ∨ i = 2 ∨ i = 3 := by omega
      rcases h4 with e | e | e | e <;> subst e
      · have hc : Cl X (d + 3) 180 [vr 81, vi 0, vi 1, vi 9] (pm_mm al D J M) = some (some (vi u), pm_mm al D J' M') := hc
        show Rn X (d + 3) co_Mo_pipeLine (11, [some (vr 81), some (vi (Int32.ofNat b)), none, none], [], pm_mm al D J M) = _
        rw [sg_Mo_pipeLine_11, hc]
        simp only [Option.bind_some, pm_ai]
        rw [sg_Mo_pipeLine_19, sg_Mo_pipeLine_55]
      · have hc : Cl X (d + 3) 180 [vr 81, vi 1, vi 0, vi 9] (pm_mm al D J M) = some (some (vi u), pm_mm al D J' M') := hc
        show ((Cl X (d + 3) 180 [vr 81, vi 1, vi 0, vi 9] (pm_mm al D J M)).bind pm_ai).bind (fun r => Rn X (d + 3) co_Mo_pipeLine (30, [some (vr 81), some (vi (Int32.ofNat b)), none, none], [vi r.1], r.2)) = _
        rw [hc]
        simp only [Option.bind_some, pm_ai]
        rw [sg_Mo_pipeLine_30, sg_Mo_pipeLine_55]
      · have hc : Cl X (d + 3) 180 [vr 81, vi 2, vi 0, vi 9] (pm_mm al D J M) = some (some (vi u), pm_mm al D J' M') := hc
        show ((Cl X (d + 3) 180 [vr 81, vi 2, vi 0, vi 9] (pm_mm al D J M)).bind pm_ai).bind (fun r => Rn X (d + 3) co_Mo_pipeLine (41, [some (vr 81), some (vi (Int32.ofNat b)), none, none], [vi r.1], r.2)) = _
        rw [hc]
        simp only [Option.bind_some, pm_ai]
        rw [sg_Mo_pipeLine_41, sg_Mo_pipeLine_55]
      · have hc : Cl X (d + 3) 180 [vr 81, vi 3, vi 0, vi 9] (pm_mm al D J M) = some (some (vi u), pm_mm al D J' M') := hc
        show ((Cl X (d + 3) 180 [vr 81, vi 3, vi 0, vi 9] (pm_mm al D J M)).bind pm_ai).bind (fun r => Rn X (d + 3) co_Mo_pipeLine (52, [some (vr 81), some (vi (Int32.ofNat b)), none, none], [vi r.1], r.2)) = _
        rw [hc]
        simp only [Option.bind_some, pm_ai]
        rw [sg_Mo_pipeLine_52, sg_Mo_pipeLine_55]) 4 0 (te T n b) (fun _ => 0) (lnf 2 ℓ f b) J1 M1 rfl u2 a7 a4 a5 (fun _ => a6) (fun k hk => absurd hk (Nat.not_lt_zero k))
  revert tk
  cases rdn T n 2 4 0 (te T n b) (fun _ => 0) (lnf 2 ℓ f b) with
  | inl q =>
    intro tk
    obtain ⟨J, M, c1, c2, c3, c4⟩ := tk
    refine ⟨J, M, ?_, c2, fun a j h1 h2 h3 => by rw [c3 a j h1 h3, a2 a j (by unfold tksR; omega)], fun a j hh => by rw [c4 a j hh, a3 a j hh]⟩
    show Rn X (d + 3) co_Mo_pipeLine (0, [some (vr 81), some (vi (Int32.ofNat b)), none, none], [], pm_mm al D I L) = _
    rw [s0]; exact c1
  | inr x =>
    obtain ⟨v, f', p⟩ := x
    intro tk
    obtain ⟨J, M, c1, c2, c3, c4, c5, c6, c7, c8, c9⟩ := tk
    have c1 : Rn X (d + 3) co_Mo_pipeLine (11, [some (vr 81), some (vi (Int32.ofNat b)), none, none], [], pm_mm al D J1 M1) = Rn X (d + 3) co_Mo_pipeLine (66, [some (vr 81), pm_nl (some (vi (Int32.ofNat b))), some (vi (J 91 0)), some (vi 0)], [], pm_mm al D J M) := c1
    obtain ⟨r1, r2⟩ := hR
    have e91 : ∀ k, J 91 k = I 91 k := fun k => by rw [c4 _ _ (by unfold tksR; omega) (by omega), a2 _ _ (by unfold tksR; omega)]
    have j0 : J 91 0 = Int32.ofNat (min ℓ 6) := (e91 0).trans r1
    have el : lnn 2 ℓ = ℓ + 1 := rfl
    have c9 : ∀ k, k < 4 → J 92 k = Int32.ofNat (v k) := c9
    by_cases hl : ℓ < 6
    · rw [Nat.min_eq_left (show ℓ ≤ 6 by omega)] at j0
      have st : ∀ (i : Nat) (Q : Nat → Nat → Int32), i < 4 → Q 92 i = Int32.ofNat (v i) → Rn X (d + 3) co_Mo_pipeLine (66, [some (vr 81), pm_nl (some (vi (Int32.ofNat b))), some (vi (Int32.ofNat ℓ)), some (vi (Int32.ofNat i))], [], pm_mm al D Q M) = Rn X (d + 3) co_Mo_pipeLine (66, [some (vr 81), pm_nl (some (vi (Int32.ofNat b))), some (vi (Int32.ofNat ℓ)), some (vi (Int32.ofNat (i + 1)))], [], pm_mm al D (pm_up Q 91 (5 + 6 * i + ℓ) (Int32.ofNat (v i))) M) := fun i Q hi hq => by
        have e6 : (5 : Int32) + 6 * Int32.ofNat i + Int32.ofNat ℓ = Int32.ofNat (5 + 6 * i + ℓ) := by
          rw [show (6 : Int32) * Int32.ofNat i = Int32.ofNat (6 * i) from n_mul 6 i, show (5 : Int32) + Int32.ofNat (6 * i) = Int32.ofNat (5 + 6 * i) from n_add 5 (6 * i), n_add]
        rw [sg_Mo_pipeLine_66, show decide ((4 : Int32) ≤ Int32.ofNat i) = false from (n_dle (a := 4) (by omega) (by omega)).trans (df (by omega)), cond_false, show decide ((6 : Int32) ≤ Int32.ofNat ℓ) = false from (n_dle (a := 6) (by omega) (by omega)).trans (df (by omega)), cond_false, n_in (by omega), dt hi, cond_true, e6, n_in (by omega), dt (by omega), cond_true, n_tn (by omega), n_tn (by omega), hq, n_s]
      have s0' := st 0 J (by omega) (c9 0 (by omega))
      have s0' : Rn X (d + 3) co_Mo_pipeLine (66, [some (vr 81), pm_nl (some (vi (Int32.ofNat b))), some (vi (Int32.ofNat ℓ)), some (vi 0)], [], pm_mm al D J M) = _ := s0'
      generalize hQ : pm_up (pm_up (pm_up (pm_up J 91 (5 + 6 * 0 + ℓ) (Int32.ofNat (v 0))) 91 (5 + 6 * 1 + ℓ) (Int32.ofNat (v 1))) 91 (5 + 6 * 2 + ℓ) (Int32.ofNat (v 2))) 91 (5 + 6 * 3 + ℓ) (Int32.ofNat (v 3)) = Q
      have q0 : Q 91 0 = Int32.ofNat ℓ := by rw [← hQ, up_ne (by omega), up_ne (by omega), up_ne (by omega), up_ne (by omega)]; exact j0
      have qo : ∀ a j, ¬ a = 91 → Q a j = J a j := fun a j ha => by rw [← hQ, up_ne (by omega), up_ne (by omega), up_ne (by omega), up_ne (by omega)]
      refine ⟨pm_up Q 91 0 (Int32.ofNat (ℓ + 1)), M, ?_, tpM_up a7 (fun a j hh => by rw [up_ne (by omega), qo a j (by omega), c4 a j (by unfold tksR; omega) (by omega)]), c2, by omega, ?_, fR_up c7 (Nat.le_refl _) (fun j hj => by rw [up_ne (by omega), qo _ _ (by omega)]), ⟨?_, fun k h1 h2 => ?_⟩, fun a j h1 h2 h3 => ?_, fun a j hh => by rw [c5 a j hh, a3 a j hh]⟩
      · show Rn X (d + 3) co_Mo_pipeLine (0, [some (vr 81), some (vi (Int32.ofNat b)), none, none], [], pm_mm al D I L) = _
        rw [s0, c1, j0, s0', st 1 _ (by omega) (by rw [up_ne (by omega)]; exact c9 1 (by omega)), st 2 _ (by omega) (by rw [up_ne (by omega), up_ne (by omega)]; exact c9 2 (by omega)), st 3 _ (by omega) (by rw [up_ne (by omega), up_ne (by omega), up_ne (by omega)]; exact c9 3 (by omega)), hQ, sg_Mo_pipeLine_66, show decide ((4 : Int32) ≤ Int32.ofNat (3 + 1)) = true from rfl, cond_true, sg_Mo_pipeLine_102, show decide ((6 : Int32) ≤ Int32.ofNat ℓ) = false from (n_dle (a := 6) (by omega) (by omega)).trans (df (by omega)), cond_false, q0, sg_Mo_pipeLine_120, n_s]
      · obtain ⟨t1, t2, t3, t4, t5⟩ := c6
        exact ⟨by rw [up_ne (by omega), qo _ _ (by omega)]; exact t1, by rw [up_ne (by omega), qo _ _ (by omega)]; exact t2, by rw [up_ne (by omega), qo _ _ (by omega)]; exact t3, fun c => by rw [up_ne (by omega), qo _ _ (by omega)]; exact t4 c, t5⟩
      · rw [up_eq, el, Nat.min_eq_left (show ℓ + 1 ≤ 6 by omega)]
      · rw [up_ne (by omega), pay, dt hl, cond_true, ← hQ]
        by_cases e3 : k = 23 + ℓ
        · rw [e3, pu_eq, show 23 + ℓ = 5 + 6 * 3 + ℓ by omega, up_eq]
        · rw [pu_ne e3, up_ne (by omega)]
          by_cases e2 : k = 17 + ℓ
          · rw [e2, pu_eq, show 17 + ℓ = 5 + 6 * 2 + ℓ by omega, up_eq]
          · rw [pu_ne e2, up_ne (by omega)]
            by_cases e1 : k = 11 + ℓ
            · rw [e1, pu_eq, show 11 + ℓ = 5 + 6 * 1 + ℓ by omega, up_eq]
            · rw [pu_ne e1, up_ne (by omega)]
              by_cases e0 : k = 5 + ℓ
              · rw [e0, pu_eq, show 5 + ℓ = 5 + 6 * 0 + ℓ by omega, up_eq]
              · rw [pu_ne e0, up_ne (by omega), e91]; exact r2 k h1 h2
      · rw [up_ne (by omega), qo a j h2, c4 a j (by unfold tksR; omega) h3, a2 a j (by unfold tksR; omega)]
    · rw [Nat.min_eq_right (show 6 ≤ ℓ by omega)] at j0
      refine ⟨pm_up J 91 0 (Int32.ofNat 6), M, ?_, tpM_up a7 (fun a j hh => by rw [up_ne (by omega), c4 a j (by unfold tksR; omega) (by omega)]), c2, by omega, ?_, fR_up c7 (Nat.le_refl _) (fun j hj => up_ne (by omega)), ⟨?_, fun k h1 h2 => ?_⟩, fun a j h1 h2 h3 => ?_, fun a j hh => by rw [c5 a j hh, a3 a j hh]⟩
      · show Rn X (d + 3) co_Mo_pipeLine (0, [some (vr 81), some (vi (Int32.ofNat b)), none, none], [], pm_mm al D I L) = _
        rw [s0, c1, j0, sg_Mo_pipeLine_66, show decide ((4 : Int32) ≤ 0) = false from rfl, cond_false, show decide ((6 : Int32) ≤ Int32.ofNat 6) = true from rfl, cond_true, sg_Mo_pipeLine_102, show decide ((6 : Int32) ≤ Int32.ofNat 6) = true from rfl, cond_true, j0, sg_Mo_pipeLine_120, Int32.add_zero]
      · obtain ⟨t1, t2, t3, t4, t5⟩ := c6
        exact ⟨by rw [up_ne (by omega)]; exact t1, by rw [up_ne (by omega)]; exact t2, by rw [up_ne (by omega)]; exact t3, fun c => by rw [up_ne (by omega)]; exact t4 c, t5⟩
      · rw [up_eq, el, Nat.min_eq_right (show 6 ≤ ℓ + 1 by omega)]
      · rw [up_ne (by omega), pay, df hl, cond_false, e91]; exact r2 k h1 h2
      · rw [up_ne (by omega), c4 a j (by unfold tksR; omega) h3, a2 a j (by unfold tksR; omega)]
end
