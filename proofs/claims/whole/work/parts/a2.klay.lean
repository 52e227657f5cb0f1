section
variable {X : Nat × (Nat → Int32)} {d : Nat} {al : List Nat} {D : Nat → Bool} {I : Nat → Nat → Int32} {L : Nat → Nat → Int64}
theorem k_nearest {b n : Nat} (left : Int32) (hb : b < 2) (hn : n ≤ 6) (en : I (9 + 5 * b) 4 = Int32.ofNat n) : Cl X (d + 1) 33 [vr 73, vr (9 + 5 * b), vi left] (pm_mm al D I L) = some (some (vi (enc (whf (I 75) (fun p => tb left p) n))), pm_mm al D I L) := by
  rw [Cl_s]
  refine Eq.trans (show _ = Rn X d co_Le_nearest (0, [some (vr 73), some (vr (9 + 5 * b)), some (vi left), none, none], [], pm_mm al D I L) from rfl) ?_
  rw [sgb_Le_nearest_0 hb]
  have h := lf n (fun p (_ : Unit) => Rn X d co_Le_nearest (5, [some (vr 73), some (vr (9 + 5 * b)), some (vi left), some (vi (enc (fo (wh1 (I 75) (fun p => tb left p)) p none))), some (vi (Int32.ofNat p))], [], pm_mm al D I L)) (fun _ q => q) (fun p _ hp => by
    show Rn X d co_Le_nearest _ = Rn X d co_Le_nearest _
    have hsp := wh_spec (I 75) (fun p => tb left p) p
    rw [fo]
    generalize fo (wh1 (I 75) (fun p => tb left p)) p none = w at hsp
    rw [wh1]
    cases w with
    | none =>
      show Rn X d co_Le_nearest (5, [some (vr 73), some (vr (9 + 5 * b)), some (vi left), some (vi (-1)), some (vi (Int32.ofNat p))], [], pm_mm al D I L) = _
      rw [sgb_Le_nearest_5 hb, en]
      simp (disch := omega) only [n_dle, df, cond_false, hs0_tb, decide_true, cond_true, sgb_Le_nearest_44 hb, sgb_Le_nearest_47 hb, n_s, wm]
      cases tb left p <;> rfl
    | some q =>
      have hq := (hsp.1 q rfl).1
      show Rn X d co_Le_nearest (5, [some (vr 73), some (vr (9 + 5 * b)), some (vi left), some (vi (Int32.ofNat q)), some (vi (Int32.ofNat p))], [], pm_mm al D I L) = _
      rw [sgb_Le_nearest_5 hb, en, df (ofNat_ne_m1 (show q < 2147483648 by omega))]
      simp (disch := omega) only [n_dle, df, cond_false, hs0_tb, n_in, dt, cond_true, n_tn, sgb_Le_nearest_44 hb, sgb_Le_nearest_47 hb, n_s, wm]
      cases tb left p with
      | false => rfl
      | true =>
        simp only [Bool.not_true, cond_false, cond_true]
        cases decide (I 75 q ≤ I 75 p) <;> rfl) ()
  refine Eq.trans h ?_
  show Rn X d co_Le_nearest _ = _
  rw [sgb_Le_nearest_5 hb, en]
  simp (disch := omega) only [n_dle, dt, cond_true]; rfl
/-- one pipe's way and whence, behind a new one -/
def spC (far way : Int32) (fr p : Nat) : Bool := decide (far < way) || (decide (far = way) && (!decide (fr = 6) && decide (p < fr)))
theorem k_spreadFrom {b n p : Nat} {P : Nat → Int32 × Int32} {fr : Nat → Nat} (left : Int32) (hb : b < 2) (hn : n ≤ 6) (c : cP I b n P) (hp : p < n) (hf : ∀ q, q < n → tb left q = true → I 74 q = Int32.ofNat (fr q) ∧ fr q ≤ 6) :
    ∃ J, Cl X (d + 3) 34 [vr 73, vr (9 + 5 * b), vi (Int32.ofNat p), vi left] (pm_mm al D I L) = some (none, pm_mm al D J L) ∧ (∀ a j, a ≠ 74 → a ≠ 75 → J a j = I a j)
      ∧ ∀ q, q < n → J 74 q = cond (tb left q && spC (dst P q p) (I 75 q) (fr q) p) (Int32.ofNat p) (I 74 q) ∧ J 75 q = cond (tb left q && spC (dst P q p) (I 75 q) (fr q) p) (dst P q p) (I 75 q) := by
  rw [Cl_s]
  have st0 : cond (Nat.ble (pm_wd [vr 73, vr (9 + 5 * b), vi (Int32.ofNat p), vi left]) (pm_mx 34)) (Rn X (d + 2) (pm_co 34) (0, pm_ent (pm_mx 34) [vr 73, vr (9 + 5 * b), vi (Int32.ofNat p), vi left], [], pm_mm al D I L)) none = Rn X (d + 2) co_Le_spreadFrom (0, [some (vr 73), some (vr (9 + 5 * b)), some (vi (Int32.ofNat p)), some (vi left), none, none, none], [], pm_mm al D I L) := rfl
  rw [st0, sgb_Le_spreadFrom_0 hb]
  suffices hh : ∀ m q J o5 o6, q + m = n → (∀ a j, a ≠ 74 → a ≠ 75 → J a j = I a j) → (∀ k, k < n → (k < q → J 74 k = cond (tb left k && spC (dst P k p) (I 75 k) (fr k) p) (Int32.ofNat p) (I 74 k) ∧ J 75 k = cond (tb left k && spC (dst P k p) (I 75 k) (fr k) p) (dst P k p) (I 75 k)) ∧ (q ≤ k → J 74 k = I 74 k ∧ J 75 k = I 75 k)) →
      ∃ K, Rn X (d + 2) co_Le_spreadFrom (3, [some (vr 73), some (vr (9 + 5 * b)), some (vi (Int32.ofNat p)), some (vi left), some (vi (Int32.ofNat q)), o5, o6], [], pm_mm al D J L) = some (none, pm_mm al D K L) ∧ (∀ a j, a ≠ 74 → a ≠ 75 → K a j = I a j) ∧ ∀ k, k < n → K 74 k = cond (tb left k && spC (dst P k p) (I 75 k) (fr k) p) (Int32.ofNat p) (I 74 k) ∧ K 75 k = cond (tb left k && spC (dst P k p) (I 75 k) (fr k) p) (dst P k p) (I 75 k) from
    hh n 0 I none none (by omega) (fun _ _ _ _ => rfl) (fun k hk => ⟨fun h => absurd h (Nat.not_lt_zero k), fun _ => ⟨rfl, rfl⟩⟩)
  intro m
  induction m with
  | zero =>
    intro q J o5 o6 hq hJ hv
    obtain rfl : q = n := by omega
    refine ⟨J, ?_, hJ, fun k hk => (hv k hk).1 hk⟩
    rw [sgb_Le_spreadFrom_3 hb, hJ _ _ (by omega) (by omega), c.1]
    simp (disch := omega) only [n_dle, dt, cond_true]
  | succ m ih =>
    intro q J o5 o6 hq hJ hv
    have hqn : q < n := by omega
    obtain ⟨v1, v2⟩ := (hv q hqn).2 (Nat.le_refl q)
    have cJ : cP J b n P := cP_up c hb (fun a j a1 a2 => hJ a j (by omega) (by omega))
    have hw := k_wayTo (X := X) (d := d) (al := al) (D := D) (L := L) (I := J) (p := q) (J (12 + 5 * b) p) (J (13 + 5 * b) p) hb (by omega)
    rw [(cJ.2 q hqn).1, (cJ.2 q hqn).2, (cJ.2 p hp).1, (cJ.2 p hp).2] at hw
    have hw : Cl X (d + 2) 13 [vr (9 + 5 * b), vi (Int32.ofNat q), vi (P p).1, vi (P p).2] (pm_mm al D J L) = some (some (vi (dst P q p)), pm_mm al D J L) := hw
    have goon : ∀ K o5 o6, (∀ a j, a ≠ 74 → a ≠ 75 → K a j = I a j) → (∀ k, k < n → k ≠ q → K 74 k = J 74 k ∧ K 75 k = J 75 k) → K 74 q = cond (tb left q && spC (dst P q p) (I 75 q) (fr q) p) (Int32.ofNat p) (I 74 q) → K 75 q = cond (tb left q && spC (dst P q p) (I 75 q) (fr q) p) (dst P q p) (I 75 q) →
        ∃ M, Rn X (d + 2) co_Le_spreadFrom (3, [some (vr 73), some (vr (9 + 5 * b)), some (vi (Int32.ofNat p)), some (vi left), some (vi (Int32.ofNat (q + 1))), o5, o6], [], pm_mm al D K L) = some (none, pm_mm al D M L) ∧ (∀ a j, a ≠ 74 → a ≠ 75 → M a j = I a j) ∧ ∀ k, k < n → M 74 k = cond (tb left k && spC (dst P k p) (I 75 k) (fr k) p) (Int32.ofNat p) (I 74 k) ∧ M 75 k = cond (tb left k && spC (dst P k p) (I 75 k) (fr k) p) (dst P k p) (I 75 k) := fun K o5 o6 hK h1 h2 h3 =>
      ih (q + 1) K o5 o6 (by omega) hK (fun k hk => ⟨fun hlt => by
        by_cases hkq : k = q
        · subst hkq; exact ⟨h2, h3⟩
        · rw [(h1 k hk hkq).1, (h1 k hk hkq).2]; exact (hv k hk).1 (by omega), fun hle => by
        rw [(h1 k hk (by omega)).1, (h1 k hk (by omega)).2]; exact (hv k hk).2 (by omega)⟩)
    rw [sgb_Le_spreadFrom_3 hb, hJ _ _ (by omega) (by omega), c.1]
    simp (disch := omega) only [n_dle, df, cond_false, hs0_tb, n_in, dt, cond_true, n_tn, (cJ.2 p hp).1, (cJ.2 p hp).2, hw, Option.bind_some, pm_ai, sgb_Le_spreadFrom_39 hb, sgb_Le_spreadFrom_117 hb, n_s]
    cases hbit : tb left q with
    | false =>
      simp only [Bool.not_false, cond_true]
      exact goon J _ _ hJ (fun _ _ _ => ⟨rfl, rfl⟩) (by rw [hbit]; exact v1) (by rw [hbit]; exact v2)
    | true =>
      obtain ⟨f1, f2⟩ := hf q hqn hbit
      have e74 : J 74 q = Int32.ofNat (fr q) := v1.trans f1
      simp (disch := omega) only [Bool.not_true, cond_false, e74, q0, q1, q2, q3, q4, q5, q6, q7, q8, q9, q10, q11, q12, q13, q20, q24, q60, q64, q84, q99, q100, q600, q720, q4096, q1000000, n_dle, sgb_Le_spreadFrom_68 hb]
      have s69 : ∀ (ah : Bool), Rn X (d + 2) co_Le_spreadFrom (69, [some (vr 73), some (vr (9 + 5 * b)), some (vi (Int32.ofNat p)), some (vi left), some (vi (Int32.ofNat q)), some (vi (dst P q p)), o6], [vi (b01 ah)], pm_mm al D J L) = Rn X (d + 2) co_Le_spreadFrom (3, [some (vr 73), some (vr (9 + 5 * b)), some (vi (Int32.ofNat p)), some (vi left), some (vi (Int32.ofNat (q + 1))), some (vi (dst P q p)), some (vi (b01 ah))], [], pm_mm al D (cond (decide (dst P q p < I 75 q) || (decide (dst P q p = I 75 q) && ah)) (pm_up (pm_up J 75 q (dst P q p)) 74 q (Int32.ofNat p)) J) L) := fun ah => by
        rw [sgb_Le_spreadFrom_69 hb]
        simp (disch := omega) only [n_in, dt, cond_true, n_tn, v2, b01_ne, sgb_Le_spreadFrom_100 hb, sgb_Le_spreadFrom_117 hb, n_s]
        cases decide (dst P q p < I 75 q) <;> cases decide (dst P q p = I 75 q) <;> cases ah <;> rfl
      have hah : (cond (decide (fr q = 6)) (Rn X (d + 2) co_Le_spreadFrom (69, [some (vr 73), some (vr (9 + 5 * b)), some (vi (Int32.ofNat p)), some (vi left), some (vi (Int32.ofNat q)), some (vi (dst P q p)), o6], [vi 0], pm_mm al D J L)) (cond (decide (fr q ≤ p)) (Rn X (d + 2) co_Le_spreadFrom (69, [some (vr 73), some (vr (9 + 5 * b)), some (vi (Int32.ofNat p)), some (vi left), some (vi (Int32.ofNat q)), some (vi (dst P q p)), o6], [vi 0], pm_mm al D J L)) (Rn X (d + 2) co_Le_spreadFrom (69, [some (vr 73), some (vr (9 + 5 * b)), some (vi (Int32.ofNat p)), some (vi left), some (vi (Int32.ofNat q)), some (vi (dst P q p)), o6], [vi 1], pm_mm al D J L)))) = Rn X (d + 2) co_Le_spreadFrom (69, [some (vr 73), some (vr (9 + 5 * b)), some (vi (Int32.ofNat p)), some (vi left), some (vi (Int32.ofNat q)), some (vi (dst P q p)), o6], [vi (b01 (!decide (fr q = 6) && decide (p < fr q)))], pm_mm al D J L) := by
        by_cases h6 : fr q = 6
        · rw [dt h6]; rfl
        · by_cases hle : fr q ≤ p
          · rw [df h6, dt hle, df (show ¬ p < fr q by omega)]; rfl
          · rw [df h6, df hle, dt (show p < fr q by omega)]; rfl
      rw [hah, s69]
      refine goon _ _ _ (fun a j a1 a2 => ?_) (fun k hk hkq => ?_) ?_ ?_
      · cases (decide (dst P q p < I 75 q) || (decide (dst P q p = I 75 q) && (!decide (fr q = 6) && decide (p < fr q)))) with
        | false => exact hJ a j a1 a2
        | true => rw [cond_true, up_ne (by omega), up_ne (by omega)]; exact hJ a j a1 a2
      · cases (decide (dst P q p < I 75 q) || (decide (dst P q p = I 75 q) && (!decide (fr q = 6) && decide (p < fr q)))) with
        | false => exact ⟨rfl, rfl⟩
        | true => rw [cond_true, up_ne (by omega), up_ne (by omega), up_ne (by omega), up_ne (by omega)]; exact ⟨rfl, rfl⟩
      · rw [hbit, Bool.true_and, spC]
        cases (decide (dst P q p < I 75 q) || (decide (dst P q p = I 75 q) && (!decide (fr q = 6) && decide (p < fr q)))) with
        | false => exact v1
        | true => rw [cond_true, up_eq]; rfl
      · rw [hbit, Bool.true_and, spC]
        cases (decide (dst P q p < I 75 q) || (decide (dst P q p = I 75 q) && (!decide (fr q = 6) && decide (p < fr q)))) with
        | false => exact v2
        | true => rw [cond_true, up_ne (by omega), up_eq]; rfl
theorem nt_zero (P : Nat → Int32 × Int32) (p : Nat) : ∀ n, fo (nt1 P p 0) n 6 = 6
  | 0 => rfl
  | n + 1 => by rw [fo, nt_zero P p n, nt1, tb_0]; rfl
def laF (I J : Nat → Nat → Int32) : Prop := ∀ a j, a ≠ 74 → a ≠ 75 → J a j = I a j
theorem k_lay {b n : Nat} {P : Nat → Int32 × Int32} (set hx hy : Int32) (hb : b < 2) (hn : n ≤ 6) (c : cP I b n P) (h6 : P 6 = (hx, hy)) (hs : ∀ k, k < 32 → tb set k = true → k < n) :
    ∃ J, Cl X (d + 4) 32 [vr 73, vr (9 + 5 * b), vi set, vi hx, vi hy] (pm_mm al D I L) = some (some (vi (lth P n set n 0 0 (fun _ => 6)).1), pm_mm al D J L) ∧ laF I J ∧ ∀ p, p < n → tb set p = true → J 74 p = Int32.ofNat ((lth P n set n 0 0 (fun _ => 6)).2 p) := by
  rw [Cl_s]
  have st0 : cond (Nat.ble (pm_wd [vr 73, vr (9 + 5 * b), vi set, vi hx, vi hy]) (pm_mx 32)) (Rn X (d + 3) (pm_co 32) (0, pm_ent (pm_mx 32) [vr 73, vr (9 + 5 * b), vi set, vi hx, vi hy], [], pm_mm al D I L)) none = Rn X (d + 3) co_Le_lay (0, [some (vr 73), some (vr (9 + 5 * b)), some (vi set), some (vi hx), some (vi hy), none, none, none, none], [], pm_mm al D I L) := rfl
  rw [st0, sgb_Le_lay_0 hb]
  -- all from the bellows
  have init : ∀ m p J, p + m = n → laF I J → (∀ q, q < p → J 74 q = Int32.ofNat 6 ∧ J 75 q = dst P q 6) → ∃ K, Rn X (d + 3) co_Le_lay (3, [some (vr 73), some (vr (9 + 5 * b)), some (vi set), some (vi hx), some (vi hy), some (vi (Int32.ofNat p)), none, none, none], [], pm_mm al D J L) = Rn X (d + 3) co_Le_lay (52, [some (vr 73), some (vr (9 + 5 * b)), some (vi set), some (vi hx), some (vi hy), some (vi 0), some (vi set), some (vi 0), none], [], pm_mm al D K L) ∧ laF I K ∧ ∀ q, q < n → K 74 q = Int32.ofNat 6 ∧ K 75 q = dst P q 6 := by
    intro m
    induction m with
    | zero =>
      intro p J hp hJ hq
      obtain rfl : p = n := by omega
      refine ⟨J, ?_, hJ, hq⟩
      rw [sgb_Le_lay_3 hb, hJ _ _ (by omega) (by omega), c.1]
      simp (disch := omega) only [n_dle, dt, cond_true]
    | succ m ih =>
      intro p J hp hJ hq
      have cJ : cP J b n P := cP_up c hb (fun a j a1 a2 => hJ a j (by omega) (by omega))
      have hw := k_wayTo (X := X) (d := d + 1) (al := al) (D := D) (L := L) (I := J) (p := p) hx hy hb (by omega)
      rw [(cJ.2 p (by omega)).1, (cJ.2 p (by omega)).2] at hw
      have hd : ab ((P p).1 - hx) + ab ((P p).2 - hy) = dst P p 6 := by rw [dst, h6]
      rw [hd] at hw
      rw [sgb_Le_lay_3 hb, hJ _ _ (by omega) (by omega), c.1]
      simp (disch := omega) only [n_dle, df, cond_false, hw, Option.bind_some, pm_ai, sgb_Le_lay_27 hb, n_in, dt, cond_true, n_tn, n_s]
      refine ih (p + 1) _ (by omega) (fun a j a1 a2 => by rw [up_ne (by omega), up_ne (by omega)]; exact hJ a j a1 a2) (fun q hq2 => ?_)
      by_cases hqp : q = p
      · subst hqp; rw [up_eq, up_ne (by omega), up_eq]; exact ⟨rfl, rfl⟩
      · rw [up_ne (by omega), up_ne (by omega), up_ne (by omega), up_ne (by omega)]; exact hq q (by omega)
  obtain ⟨K0, i1, i2, i3⟩ := init n 0 I (by omega) (fun _ _ _ _ => rfl) (fun q hq => absurd hq (Nat.not_lt_zero q))
  have i1 : Rn X (d + 3) co_Le_lay (3, [some (vr 73), some (vr (9 + 5 * b)), some (vi set), some (vi hx), some (vi hy), some (vi 0), none, none, none], [], pm_mm al D I L) = _ := i1
  rw [i1]
  suffices hh : ∀ k t J left sum fr K o4 o8, t + k = n → cn (fun p => tb set p && !tb J p) n ≤ k → (∀ q, q < 32 → tb left q = (tb set q && !tb J q)) → laF I K → (∀ q, q < n → (tb set q && !tb J q) = true → K 74 q = Int32.ofNat (nt P n q J) ∧ K 75 q = ky P n J q) → (∀ q, q < n → tb J q = true → K 74 q = Int32.ofNat (fr q)) →
      ∃ M, Rn X (d + 3) co_Le_lay (52, [some (vr 73), some (vr (9 + 5 * b)), some (vi set), some (vi hx), o4, some (vi sum), some (vi left), some (vi (Int32.ofNat t)), o8], [], pm_mm al D K L) = some (some (vi (lth P n set k J sum fr).1), pm_mm al D M L) ∧ laF I M ∧ ∀ p, p < n → tb set p = true → M 74 p = Int32.ofNat ((lth P n set k J sum fr).2 p) from
    hh n 0 0 set 0 (fun _ => 6) K0 _ none (by omega) (cn_le _ n) (fun q _ => by rw [tb_0, Bool.not_false, Bool.and_true]) i2 (fun q hq _ => by
      obtain ⟨a1, a2⟩ := i3 q hq
      have e : nt P n q 0 = 6 := nt_zero P q n
      rw [ky, e]; exact ⟨a1, a2⟩) (fun q hq h => by rw [tb_0] at h; cases h)
  intro k
  induction k with
  | zero =>
    intro t J left sum fr K o4 o8 ht hc hl hK hin hfr
    obtain rfl : t = n := by omega
    refine ⟨K, ?_, hK, fun p hp hbp => ?_⟩
    · rw [sgb_Le_lay_52 hb, hK _ _ (by omega) (by omega), c.1]
      simp (disch := omega) only [n_dle, dt, cond_true, sgb_Le_lay_122]; rfl
    · refine hfr p hp ?_
      cases hj : tb J p with
      | true => rfl
      | false =>
        have := cn_pos (f := fun p => tb set p && !tb J p) (p := p) (by rw [hbp, hj]; rfl) hp
        omega
  | succ k ih =>
    intro t J left sum fr K o4 o8 ht hc hl hK hin hfr
    have cK : cP K b n P := cP_up c hb (fun a j a1 a2 => hK a j (by omega) (by omega))
    have hwh : whf (K 75) (fun p => tb left p) n = whf (ky P n J) (fun p => tb set p && !tb J p) n := by
      refine wh_congr (may := fun p => tb left p) (nay := fun p => tb set p && !tb J p) (fun p hp => ?_) n (fun p hp => hl p (by omega))
      by_cases h32 : p < 32
      · have hp' : tb left p = true := hp
        rw [hl p h32] at hp'
        have hb2 : tb set p = true := by rw [Bool.and_eq_true] at hp'; exact hp'.1
        exact (hin p (hs p h32 hb2) hp').2
      · have e : tb left p = false := BitVec.getLsbD_of_ge _ _ (by omega)
        have hp : tb left p = true := hp
        rw [e] at hp; cases hp
    have hnear := k_nearest (X := X) (d := d + 2) (al := al) (D := D) (L := L) (I := K) left hb hn cK.1
    rw [hwh] at hnear
    have hsp := wh_spec (ky P n J) (fun p => tb set p && !tb J p) n
    have hw' : fo (wh1 (ky P n J) (fun p => tb set p && !tb J p)) n none = whf (ky P n J) (fun p => tb set p && !tb J p) n := rfl
    rw [hw'] at hsp
    rw [lth, sgb_Le_lay_52 hb, cK.1]
    cases hw : whf (ky P n J) (fun p => tb set p && !tb J p) n with
    | none =>
      rw [hw] at hsp hnear
      have hall := hsp.2 rfl
      have hz : left = 0 := tb_zero (fun q hq => by
        rw [hl q hq]
        cases hb2 : tb set q with
        | false => rfl
        | true => have := hall q (hs q hq hb2); rw [hb2] at this; exact this)
      refine ⟨K, ?_, hK, fun p hp hbp => hfr p hp ?_⟩
      · rw [hz]
        simp (disch := omega) only [n_dle, df, cond_false, decide_true, cond_true, sgb_Le_lay_122]
      · have := hall p hp
        rw [hbp] at this
        cases hj : tb J p with
        | true => rfl
        | false => rw [hj] at this; cases this
    | some p =>
      rw [hw] at hsp hnear
      obtain ⟨hp, hmay⟩ := hsp.1 p rfl
      have hmay' : tb set p = true ∧ tb J p = false := by
        rw [Bool.and_eq_true, Bool.not_eq_true'] at hmay; exact hmay
      have hne : ¬ left = 0 := fun c => by
        have := hl p (by omega)
        rw [c, tb_0] at this
        rw [show (tb set p && !tb J p) = true from hmay] at this; cases this
      obtain ⟨p74, p75⟩ := hin p hp hmay
      have hl' : ∀ q, q < 32 → tb (left &&& ((1 <<< (Int32.ofNat p &&& 31)) ^^^ (-1))) q = (tb set q && !tb (J ||| (1 <<< (Int32.ofNat p &&& 31))) q) := fun q hq => by
        rw [tb_and, tb_not _ hq, tb_or, hl q hq, tb_shl (by omega) hq]
        cases tb set q <;> cases tb J q <;> cases decide (p = q) <;> rfl
      obtain ⟨M, s1, s2, s3⟩ := k_spreadFrom (X := X) (d := d) (al := al) (D := D) (L := L) (I := K) (P := P) (p := p) (fr := fun q => nt P n q J) (left &&& ((1 <<< (Int32.ofNat p &&& 31)) ^^^ (-1))) hb hn cK hp (fun q hq hbq => by
        rw [hl' q (by omega), tb_or] at hbq
        have hm : (tb set q && !tb J q) = true := by
          cases h1 : tb set q <;> cases h2 : tb J q <;> rw [h1, h2] at hbq <;> first | rfl | (simp at hbq)
        have hle := nt_le (P := P) (p := q) (J := J) hn
        exact ⟨(hin q hq hm).1, by omega⟩)
      obtain ⟨N, n1, n2, n3⟩ := ih (t + 1) (J ||| (1 <<< (Int32.ofNat p &&& 31))) (left &&& ((1 <<< (Int32.ofNat p &&& 31)) ^^^ (-1))) (sum + ky P n J p) (fun q => if q = p then nt P n p J else fr q) M (pm_nl o4) (some (vi (Int32.ofNat p))) (by omega)
        (by
          have := cn_rm (f := fun p => tb set p && !tb J p) (g := fun q => tb set q && !tb (J ||| (1 <<< (Int32.ofNat p &&& 31))) q) (p := p) hmay (fun q => by
            by_cases hq : q < 32
            · rw [tb_or, tb_shl (by omega) hq]; cases tb set q <;> cases tb J q <;> rfl
            · have e : tb set q = false := BitVec.getLsbD_of_ge _ _ (by omega)
              rw [e]; rfl) n
          rw [if_pos hp] at this; omega)
        hl' (fun a j a1 a2 => (s2 a j a1 a2).trans (hK a j a1 a2))
        (fun q hq hm => by
          obtain ⟨t1, t2⟩ := s3 q hq
          have hbl := hl' q (by omega)
          rw [hm] at hbl
          have hm0 : (tb set q && !tb J q) = true := by
            rw [tb_or] at hm
            cases h1 : tb set q <;> cases h2 : tb J q <;> rw [h1, h2] at hm <;> first | rfl | (simp at hm)
          obtain ⟨q74, q75⟩ := hin q hq hm0
          have hadd := nt_add (P := P) (p := q) hn hp hmay'.2
          have hsp : spC (dst P q p) (K 75 q) (nt P n q J) p = decide ((dst P q p).toInt < (dst P q (nt P n q J)).toInt ∨ ((dst P q p).toInt = (dst P q (nt P n q J)).toInt ∧ nt P n q J ≠ 6 ∧ p < nt P n q J)) := by
            rw [spC, q75, ky, Bool.eq_iff_iff]
            simp only [Bool.or_eq_true, Bool.and_eq_true, Bool.not_eq_true', decide_eq_true_iff, decide_eq_false_iff_not, t_lt, t_eq, ne_eq]
          rw [hbl, Bool.true_and] at t1 t2
          rw [t1, t2, hsp, ky, hadd]
          by_cases hc : (dst P q p).toInt < (dst P q (nt P n q J)).toInt ∨ ((dst P q p).toInt = (dst P q (nt P n q J)).toInt ∧ nt P n q J ≠ 6 ∧ p < nt P n q J)
          · rw [if_pos hc, dt hc]; exact ⟨rfl, rfl⟩
          · rw [if_neg hc, df hc]; exact ⟨q74, q75⟩)
        (fun q hq hj => by
          obtain ⟨t1, t2⟩ := s3 q hq
          have hbl := hl' q (by omega)
          rw [hj, Bool.not_true, Bool.and_false] at hbl
          rw [hbl, Bool.false_and, cond_false] at t1
          rw [t1]
          by_cases hqp : q = p
          · subst hqp; rw [if_pos rfl]; exact p74
          · rw [if_neg hqp]
            rw [tb_or, tb_shl (by omega) (by omega), df (fun c => hqp c.symm), Bool.or_false] at hj
            exact hfr q hq hj)
      refine ⟨N, ?_, n2, n3⟩
      have hen : enc (some p) = Int32.ofNat p := rfl
      rw [hen] at hnear
      rw [df hne, hnear]
      simp (disch := omega) only [n_dle, df, cond_false, Option.bind_some, pm_ai, sgb_Le_lay_73 hb]
      rw [df (ofNat_ne_m1 (show p < 2147483648 by omega))]
      simp (disch := omega) only [cond_false, n_in, dt, cond_true, n_tn, p75, s1, Option.bind_some, pm_av, sgb_Le_lay_116 hb, n_s]
      exact n1
end
