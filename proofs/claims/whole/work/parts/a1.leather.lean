section
variable {X : Nat × (Nat → Int32)} {d : Nat} {al : List Nat} {D : Nat → Bool} {I : Nat → Nat → Int32} {L : Nat → Nat → Int64}
/-- the joined one that is next to a pipe -/
def nt1 (P : Nat → Int32 × Int32) (p : Nat) (J : Int32) (o best : Nat) : Nat := cond (tb J o && !decide (dst P p best ≤ dst P p o)) o best
def nt (P : Nat → Int32 × Int32) (n p : Nat) (J : Int32) : Nat := fo (nt1 P p J) n 6
def ntS (P : Nat → Int32 × Int32) (p : Nat) (J : Int32) (k r : Nat) : Prop := (r = 6 ∨ (r < k ∧ tb J r = true)) ∧ (∀ o, o < k → tb J o = true → (dst P p r).toInt ≤ (dst P p o).toInt) ∧ (r ≠ 6 → (dst P p r).toInt < (dst P p 6).toInt) ∧ ∀ o, o < k → o < r → r ≠ 6 → tb J o = true → (dst P p r).toInt < (dst P p o).toInt
theorem nt_spec (P : Nat → Int32 × Int32) (p : Nat) (J : Int32) : ∀ k, k ≤ 6 → ntS P p J k (fo (nt1 P p J) k 6)
  | 0, _ => ⟨Or.inl rfl, fun o h => absurd h (Nat.not_lt_zero o), fun h => absurd rfl h, fun o h => absurd h (Nat.not_lt_zero o)⟩
  | k + 1, hk => by
    obtain ⟨h1, h2, h3, h4⟩ := nt_spec P p J k (by omega)
    rw [fo]
    generalize fo (nt1 P p J) k 6 = r at h1 h2 h3 h4
    rw [nt1]
    by_cases hc : tb J k = true ∧ (dst P p k).toInt < (dst P p r).toInt
    · rw [hc.1, df (fun c => by rw [t_le] at c; omega)]
      show ntS P p J (k + 1) k
      refine ⟨Or.inr ⟨by omega, hc.1⟩, fun o ho hb => ?_, fun _ => ?_, fun o ho hok hk6 hb => ?_⟩
      · by_cases hok : o = k
        · subst hok; exact Int.le_refl _
        · have := h2 o (by omega) hb; omega
      · by_cases h6 : r = 6
        · rw [h6] at hc; exact hc.2
        · have := h3 h6; omega
      · have := h2 o (by omega) hb; omega
    · have hk2 : (tb J k && !decide (dst P p r ≤ dst P p k)) = false := by
        cases hb : tb J k with
        | false => rfl
        | true => rw [dt (t_le.mpr (by have : ¬ (dst P p k).toInt < (dst P p r).toInt := fun c => hc ⟨hb, c⟩
                                       omega))]; rfl
      rw [hk2]
      show ntS P p J (k + 1) r
      refine ⟨?_, fun o ho hb => ?_, h3, fun o ho hok hk6 hb => ?_⟩
      · rcases h1 with h1 | h1
        · exact Or.inl h1
        · exact Or.inr ⟨by omega, h1.2⟩
      · by_cases hok : o = k
        · subst hok
          have : ¬ (dst P p o).toInt < (dst P p r).toInt := fun c => hc ⟨hb, c⟩
          omega
        · exact h2 o (by omega) hb
      · rcases h1 with h1 | h1
        · exact absurd h1 hk6
        · exact h4 o (by omega) hok hk6 hb
theorem nt_uniq {P : Nat → Int32 × Int32} {p : Nat} {J : Int32} {k r s : Nat} (a : ntS P p J k r) (b : ntS P p J k s) : r = s := by
  obtain ⟨a1, a2, a3, a4⟩ := a
  obtain ⟨b1, b2, b3, b4⟩ := b
  by_cases h6 : r = 6
  · by_cases g6 : s = 6
    · omega
    · rcases b1 with b1 | b1
      · exact absurd b1 g6
      · have x1 := a2 s b1.1 b1.2
        have x2 := b3 g6
        rw [h6] at x1; omega
  · rcases a1 with a1 | a1
    · exact absurd a1 h6
    · by_cases g6 : s = 6
      · have x1 := b2 r a1.1 a1.2
        have x2 := a3 h6
        rw [g6] at x1; omega
      · rcases b1 with b1 | b1
        · exact absurd b1 g6
        · have x1 := a2 s b1.1 b1.2
          have x2 := b2 r a1.1 a1.2
          rcases Nat.lt_trichotomy r s with h | h | h
          · have := b4 r a1.1 h g6 a1.2; omega
          · exact h
          · have := a4 s b1.1 h h6 b1.2; omega
theorem nt_le {P : Nat → Int32 × Int32} {n p : Nat} {J : Int32} (hn : n ≤ 6) : nt P n p J < n ∨ nt P n p J = 6 := by
  rcases (nt_spec P p J n hn).1 with h | h
  · exact Or.inr h
  · exact Or.inl h.1
theorem nt_add {P : Nat → Int32 × Int32} {n p o : Nat} {J : Int32} (hn : n ≤ 6) (ho : o < n) (hJ : tb J o = false) :
    nt P n p (J ||| (1 <<< (Int32.ofNat o &&& 31))) = if (dst P p o).toInt < (dst P p (nt P n p J)).toInt ∨ ((dst P p o).toInt = (dst P p (nt P n p J)).toInt ∧ nt P n p J ≠ 6 ∧ o < nt P n p J) then o else nt P n p J := by
  have hb : ∀ q, q < 32 → tb (J ||| (1 <<< (Int32.ofNat o &&& 31))) q = (tb J q || decide (o = q)) := fun q hq => by rw [tb_or, tb_shl (by omega) hq]
  refine nt_uniq (nt_spec P p _ n hn) ?_
  obtain ⟨h1, h2, h3, h4⟩ := nt_spec P p J n hn
  have h1 : nt P n p J = 6 ∨ (nt P n p J < n ∧ tb J (nt P n p J) = true) := h1
  have h2 : ∀ o, o < n → tb J o = true → (dst P p (nt P n p J)).toInt ≤ (dst P p o).toInt := h2
  have h3 : nt P n p J ≠ 6 → (dst P p (nt P n p J)).toInt < (dst P p 6).toInt := h3
  have h4 : ∀ o, o < n → o < nt P n p J → nt P n p J ≠ 6 → tb J o = true → (dst P p (nt P n p J)).toInt < (dst P p o).toInt := h4
  generalize nt P n p J = r at h1 h2 h3 h4
  by_cases hc : (dst P p o).toInt < (dst P p r).toInt ∨ ((dst P p o).toInt = (dst P p r).toInt ∧ r ≠ 6 ∧ o < r)
  · rw [if_pos hc]
    refine ⟨Or.inr ⟨ho, by rw [hb o (by omega)]; simp⟩, fun q hq hbq => ?_, fun _ => ?_, fun q hq hqo ho6 hbq => ?_⟩
    · rw [hb q (by omega), Bool.or_eq_true, decide_eq_true_iff] at hbq
      rcases hbq with hbq | hbq
      · have := h2 q hq hbq; omega
      · subst hbq; exact Int.le_refl _
    · by_cases h6 : r = 6
      · rcases hc with hc | hc
        · rw [h6] at hc; exact hc
        · exact absurd h6 hc.2.1
      · have := h3 h6; omega
    · rw [hb q (by omega), Bool.or_eq_true, decide_eq_true_iff] at hbq
      rcases hbq with hbq | hbq
      · have := h2 q hq hbq
        rcases hc with hc | hc
        · omega
        · have := h4 q hq (by omega) hc.2.1 hbq; omega
      · omega
  · rw [if_neg hc]
    refine ⟨?_, fun q hq hbq => ?_, h3, fun q hq hqr hr6 hbq => ?_⟩
    · rcases h1 with h1 | h1
      · exact Or.inl h1
      · exact Or.inr ⟨h1.1, by rw [hb r (by omega), h1.2]; rfl⟩
    · rw [hb q (by omega), Bool.or_eq_true, decide_eq_true_iff] at hbq
      rcases hbq with hbq | hbq
      · exact h2 q hq hbq
      · subst hbq; omega
    · rw [hb q (by omega), Bool.or_eq_true, decide_eq_true_iff] at hbq
      rcases hbq with hbq | hbq
      · exact h4 q hq hqr hr6 hbq
      · subst hbq; omega
theorem c_nextTo {b n p : Nat} (J : Int32) (hb : b < 8) (eb : I 81 23 = Int32.ofNat b) (hn : n ≤ 6) (en : I 81 25 = Int32.ofNat n) (hp : p < 6) :
    Cl X (d + 4) 228 [vr 81, vi (Int32.ofNat p), vi J] (pm_mm al D I L) = some (some (vi (Int32.ofNat (nt (PT I b (I 81 44) (I 81 45)) n p J))), pm_mm al D I L) := by
  rw [Cl_s]
  show Rn X (d + 3) co_Mo_nextTo (0, [some (vr 81), some (vi (Int32.ofNat p)), some (vi J), none, none], [], pm_mm al D I L) = _
  rw [sg_Mo_nextTo_0]
  generalize hP : PT I b (I 81 44) (I 81 45) = P
  have h := lf n (fun o (_ : Unit) => Rn X (d + 3) co_Mo_nextTo (6, [some (vr 81), some (vi (Int32.ofNat p)), some (vi J), some (vi (Int32.ofNat (fo (nt1 P p J) o 6))), some (vi (Int32.ofNat o))], [], pm_mm al D I L)) (fun _ q => q) (fun o _ ho => by
    show Rn X (d + 3) co_Mo_nextTo _ = Rn X (d + 3) co_Mo_nextTo _
    have hr := (nt_spec P p J o (by omega)).1
    rw [fo]
    generalize fo (nt1 P p J) o 6 = r at hr
    have w1 := c_way (X := X) (d := d) (al := al) (D := D) (L := L) (I := I) (a := p) (c := o) hb eb (by omega) (by omega)
    have w2 := c_way (X := X) (d := d) (al := al) (D := D) (L := L) (I := I) (a := p) (c := r) hb eb (by omega) (by omega)
    rw [hP] at w1 w2
    rw [sg_Mo_nextTo_6, en]
    simp (disch := omega) only [n_dle, df, cond_false, c_has, hs_tb, Option.bind_some, pm_ai, sg_Mo_nextTo_21, b01_ne, w1, sg_Mo_nextTo_31, w2, sg_Mo_nextTo_37, sg_Mo_nextTo_45, sg_Mo_nextTo_46, n_s, nt1]
    cases tb J o <;> cases decide (dst P p r ≤ dst P p o) <;> rfl) ()
  refine Eq.trans h ?_
  show Rn X (d + 3) co_Mo_nextTo _ = _
  rw [sg_Mo_nextTo_6, en]
  simp (disch := omega) only [n_dle, dt, cond_true]; rfl
/-- who is joined next -/
def enc : Option Nat → Int32
  | none => -1
  | some p => Int32.ofNat p
def ky (P : Nat → Int32 × Int32) (n : Nat) (J : Int32) (p : Nat) : Int32 := dst P p (nt P n p J)
def wm (key : Nat → Int32) (p : Nat) : Option Nat → Option Nat
  | none => some p
  | some q => cond (decide (key q ≤ key p)) (some q) (some p)
def wh1 (key : Nat → Int32) (may : Nat → Bool) (p : Nat) (w : Option Nat) : Option Nat := cond (may p) (wm key p w) w
def whf (key : Nat → Int32) (may : Nat → Bool) (n : Nat) : Option Nat := fo (wh1 key may) n none
theorem wh_spec (key : Nat → Int32) (may : Nat → Bool) : ∀ n, (∀ p, fo (wh1 key may) n none = some p → p < n ∧ may p = true) ∧ (fo (wh1 key may) n none = none → ∀ p, p < n → may p = false)
  | 0 => ⟨fun p h => (by cases h), fun _ p h => absurd h (Nat.not_lt_zero p)⟩
  | n + 1 => by
    obtain ⟨h1, h2⟩ := wh_spec key may n
    rw [fo]
    generalize fo (wh1 key may) n none = w at h1 h2
    rw [wh1]
    cases hm : may n with
    | false =>
      refine ⟨fun p h => ?_, fun h p hp => ?_⟩
      · have := h1 p h; exact ⟨by omega, this.2⟩
      · by_cases hpn : p = n
        · subst hpn; exact hm
        · exact h2 h p (by omega)
    | true =>
      cases w with
      | none => exact ⟨fun p h => (by cases h; exact ⟨by omega, hm⟩), fun h => (by cases h)⟩
      | some q =>
        simp only [cond_true, wm]
        refine ⟨fun p h => ?_, fun h => ?_⟩
        · cases hd : decide (key q ≤ key n) with
          | true => rw [hd] at h; cases h; have := h1 q rfl; exact ⟨by omega, this.2⟩
          | false => rw [hd] at h; cases h; exact ⟨by omega, hm⟩
        · cases hd : decide (key q ≤ key n) <;> rw [hd] at h <;> cases h
theorem wh_congr {key ley : Nat → Int32} {may nay : Nat → Bool} (h1 : ∀ p, may p = true → key p = ley p) : ∀ n, (∀ p, p < n → may p = nay p) → fo (wh1 key may) n none = fo (wh1 ley nay) n none := by
  intro n
  induction n with
  | zero => intro _; rw [fo, fo]
  | succ n ih =>
    intro h2
    have hs := wh_spec key may n
    rw [fo, fo, ← ih (fun p hp => h2 p (by omega))]
    generalize fo (wh1 key may) n none = w at hs
    rw [wh1, wh1, ← h2 n (by omega)]
    cases hm : may n with
    | false => rw [cond_false, cond_false]
    | true =>
      rw [cond_true, cond_true]
      cases w with
      | none => rw [wm, wm]
      | some q => rw [wm, wm, h1 n hm, h1 q (hs.1 q rfl).2]
/-- the tree grown: what is joined, how long, from where -/
def lth (P : Nat → Int32 × Int32) (n : Nat) (set : Int32) : Nat → Int32 → Int32 → (Nat → Nat) → Int32 × (Nat → Nat)
  | 0, _, sum, fr => (sum, fr)
  | k + 1, J, sum, fr => match whf (ky P n J) (fun p => tb set p && !tb J p) n with
    | none => (sum, fr)
    | some p => lth P n set k (J ||| (1 <<< (Int32.ofNat p &&& 31))) (sum + ky P n J p) (fun q => if q = p then nt P n p J else fr q)
def cn (f : Nat → Bool) (n : Nat) : Nat := fo (fun q a => a + cond (f q) 1 0) n 0
theorem cn_rm {f g : Nat → Bool} {p : Nat} (hf : f p = true) (hg : ∀ q, g q = (f q && !decide (p = q))) : ∀ n, cn f n = cn g n + (if p < n then 1 else 0)
  | 0 => rfl
  | n + 1 => by
    have ih := cn_rm hf hg n
    show cn f n + cond (f n) 1 0 = cn g n + cond (g n) 1 0 + _
    rw [ih, hg n]
    by_cases h : p = n
    · subst h; rw [hf, dt rfl, if_neg (by omega), if_pos (by omega)]; rfl
    · rw [df h]
      by_cases h2 : p < n
      · rw [if_pos h2, if_pos (by omega)]; cases f n <;> simp <;> omega
      · rw [if_neg h2, if_neg (by omega)]; cases f n <;> simp
theorem cn_le (f : Nat → Bool) : ∀ n, cn f n ≤ n
  | 0 => Nat.le_refl 0
  | n + 1 => by
    have := cn_le f n
    show cn f n + cond (f n) 1 0 ≤ n + 1
    cases f n <;> simp <;> omega
theorem cn_pos {f : Nat → Bool} {p : Nat} (hf : f p = true) {n : Nat} (hp : p < n) : 0 < cn f n := by
  have := cn_rm (g := fun q => f q && !decide (p = q)) hf (fun _ => rfl) n
  rw [if_pos hp] at this; omega
theorem c_leatherOf {b n : Nat} (set : Int32) (hb : b < 8) (eb : I 81 23 = Int32.ofNat b) (hn : n ≤ 6) (en : I 81 25 = Int32.ofNat n) (hs : ∀ k, k < 32 → tb set k = true → k < n) :
    ∃ J, Cl X (d + 5) 229 [vr 81, vi set] (pm_mm al D I L) = some (some (vi (lth (PT I b (I 81 44) (I 81 45)) n set n 0 0 (fun _ => 6)).1), pm_mm al D J L) ∧ (∀ a j, a ≠ 104 → J a j = I a j) ∧ ∀ p, p < 6 → tb set p = true → J 104 p = Int32.ofNat ((lth (PT I b (I 81 44) (I 81 45)) n set n 0 0 (fun _ => 6)).2 p) := by
  rw [Cl_s]
  show ∃ J, Rn X (d + 4) co_Mo_leatherOf (0, [some (vr 81), some (vi set), none, none, none, none, none], [], pm_mm al D I L) = _ ∧ _
  rw [sg_Mo_leatherOf_0]
  generalize hP : PT I b (I 81 44) (I 81 45) = P
  suffices hh : ∀ k J sum fr K o4 o5 o6, cn (fun p => tb set p && !tb J p) n ≤ k → (∀ q, q < 32 → tb J q = true → tb set q = true) → (∀ a j, a ≠ 104 → K a j = I a j) → (∀ p, p < 6 → tb J p = true → K 104 p = Int32.ofNat (fr p)) →
      ∃ M, Rn X (d + 4) co_Mo_leatherOf (4, [some (vr 81), some (vi set), some (vi J), some (vi sum), o4, o5, o6], [], pm_mm al D K L) = some (some (vi (lth P n set k J sum fr).1), pm_mm al D M L) ∧ (∀ a j, a ≠ 104 → M a j = I a j) ∧ ∀ p, p < 6 → tb set p = true → M 104 p = Int32.ofNat ((lth P n set k J sum fr).2 p) from
    hh n 0 0 (fun _ => 6) I none none none (cn_le _ n) (fun q _ h => by rw [tb_0] at h; cases h) (fun _ _ _ => rfl) (fun p _ h => by rw [tb_0] at h; cases h)
  intro k
  have fin : ∀ (J : Int32), (∀ p, p < n → (tb set p && !tb J p) = false) → (∀ q, q < 32 → tb J q = true → tb set q = true) → J = set := fun J h1 h2 => by
    apply tb_ext
    intro q hq
    cases h3 : tb J q with
    | true => rw [h2 q hq h3]
    | false =>
      cases h4 : tb set q with
      | false => rfl
      | true => have := h1 q (hs q hq h4); rw [h4, h3] at this; cases this
  induction k with
  | zero =>
    intro J sum fr K o4 o5 o6 hc hJ hK hfr
    have : J = set := fin J (fun p hp => by
      cases hm : (tb set p && !tb J p) with
      | false => rfl
      | true => have := cn_pos (f := fun p => tb set p && !tb J p) hm hp; omega) hJ
    subst this
    refine ⟨K, ?_, hK, hfr⟩
    rw [sg_Mo_leatherOf_4, dt rfl, cond_true]; rfl
  | succ k ih =>
    intro J sum fr K o4 o5 o6 hc hJ hK hfr
    have K23 := (hK 81 23 (by omega)).trans eb
    have K25 := (hK 81 25 (by omega)).trans en
    have KP : ∀ K : Nat → Nat → Int32, (∀ a j, a ≠ 104 → K a j = I a j) → PT K b (K 81 44) (K 81 45) = P := fun K hK => by
      rw [← hP]; funext a
      rw [PT, PT, hK 81 44 (by omega), hK 81 45 (by omega), hK 87 _ (by omega), hK 87 _ (by omega)]
    have KP1 := KP K hK
    -- the search
    have hN := fun p (hp : p < 6) => c_nextTo (X := X) (d := d) (al := al) (D := D) (L := L) (I := K) (b := b) (n := n) (p := p) J hb K23 hn K25 hp
    have hW := fun p c (hp : p ≤ 6) (hc : c ≤ 6) => c_way (X := X) (d := d + 1) (al := al) (D := D) (L := L) (I := K) (b := b) (a := p) (c := c) hb K23 hp hc
    simp only [KP1] at hN hW
    have srch : ∃ p6, Rn X (d + 4) co_Mo_leatherOf (15, [some (vr 81), some (vi set), some (vi J), some (vi sum), some (vi (-1)), some (vi 0), o6], [], pm_mm al D K L) = Rn X (d + 4) co_Mo_leatherOf (15, [some (vr 81), some (vi set), some (vi J), some (vi sum), some (vi (enc (whf (ky P n J) (fun p => tb set p && !tb J p) n))), some (vi (Int32.ofNat n)), p6], [], pm_mm al D K L) := by
      obtain ⟨q, e1, e2⟩ := lp (σ := Option Nat × Option pm_V) n (fun p s => Rn X (d + 4) co_Mo_leatherOf (15, [some (vr 81), some (vi set), some (vi J), some (vi sum), some (vi (enc s.1)), some (vi (Int32.ofNat p)), s.2], [], pm_mm al D K L)) (fun p s => s.1 = fo (wh1 (ky P n J) (fun p => tb set p && !tb J p)) p none) (fun p s hp hq => by
        obtain ⟨w, o⟩ := s
        have hsp := wh_spec (ky P n J) (fun p => tb set p && !tb J p) p
        rw [← hq] at hsp
        simp only at hsp hq
        refine ⟨(wh1 (ky P n J) (fun p => tb set p && !tb J p) p w, some (vi (b01 (tb set p && !tb J p)))), ?_, by show _ = wh1 _ _ p (fo _ p none); rw [← hq]⟩
        show Rn X (d + 4) co_Mo_leatherOf _ = Rn X (d + 4) co_Mo_leatherOf _
        rw [sg_Mo_leatherOf_15, K25]
        simp (disch := omega) only [n_dle, df, cond_false, c_has, hs_tb, Option.bind_some, pm_ai, sg_Mo_leatherOf_30, b01_ne, sg_Mo_leatherOf_39, sg_Mo_leatherOf_46, wh1]
        have s47 : ∀ m : Bool, Rn X (d + 4) co_Mo_leatherOf (47, [some (vr 81), some (vi set), some (vi J), some (vi sum), some (vi (enc w)), some (vi (Int32.ofNat p)), o], [vi (b01 m)], pm_mm al D K L) = Rn X (d + 4) co_Mo_leatherOf (15, [some (vr 81), some (vi set), some (vi J), some (vi sum), some (vi (enc (cond m (wm (ky P n J) p w) w))), some (vi (Int32.ofNat (p + 1))), some (vi (b01 m))], [], pm_mm al D K L) := fun m => by
          cases m with
          | false =>
            rw [sg_Mo_leatherOf_47, b01_ne]
            simp only [Bool.not_false, cond_true, sg_Mo_leatherOf_94, sg_Mo_leatherOf_96, n_s, cond_false]
          | true =>
            cases w with
            | none =>
              show Rn X (d + 4) co_Mo_leatherOf (47, [some (vr 81), some (vi set), some (vi J), some (vi sum), some (vi (-1)), some (vi (Int32.ofNat p)), o], [vi (b01 true)], pm_mm al D K L) = _
              rw [sg_Mo_leatherOf_47, b01_ne]
              simp only [Bool.not_true, cond_false, decide_true, cond_true, sg_Mo_leatherOf_89, sg_Mo_leatherOf_96, n_s]
              rfl
            | some q =>
              have hq2 := (hsp.1 q rfl).1
              have hp2 := nt_le (P := P) (p := p) (J := J) hn
              have hq3 := nt_le (P := P) (p := q) (J := J) hn
              show Rn X (d + 4) co_Mo_leatherOf (47, [some (vr 81), some (vi set), some (vi J), some (vi sum), some (vi (Int32.ofNat q)), some (vi (Int32.ofNat p)), o], [vi (b01 true)], pm_mm al D K L) = _
              rw [sg_Mo_leatherOf_47, b01_ne, df (ofNat_ne_m1 (show q < 2147483648 by omega))]
              simp only [Bool.not_true, cond_false, hN p (by omega), hN q (by omega), Option.bind_some, pm_ai, sg_Mo_leatherOf_70, hW p _ (by omega) (show nt P n p J ≤ 6 by omega), sg_Mo_leatherOf_73, sg_Mo_leatherOf_83, hW q _ (by omega) (show nt P n q J ≤ 6 by omega), sg_Mo_leatherOf_86, sg_Mo_leatherOf_89, sg_Mo_leatherOf_94, sg_Mo_leatherOf_96, n_s, cond_true, wm]
              show cond (decide (ky P n J q ≤ ky P n J p)) _ _ = _
              cases decide (ky P n J q ≤ ky P n J p) <;> rfl
        cases h1 : tb set p <;> cases h2 : tb J p
        · exact s47 false
        · exact s47 false
        · exact s47 true
        · exact s47 false) 0 (none, o6) (by omega) rfl
      refine ⟨q.2, Eq.trans e1 ?_⟩
      show Rn X (d + 4) co_Mo_leatherOf _ = _
      rw [e2]; rfl
    obtain ⟨p6, srch⟩ := srch
    have hsp := wh_spec (ky P n J) (fun p => tb set p && !tb J p) n
    have hw' : fo (wh1 (ky P n J) (fun p => tb set p && !tb J p)) n none = whf (ky P n J) (fun p => tb set p && !tb J p) n := rfl
    rw [hw'] at hsp
    rw [lth]
    cases hw : whf (ky P n J) (fun p => tb set p && !tb J p) n with
    | none =>
      rw [hw] at hsp
      have : J = set := fin J (hsp.2 rfl) hJ
      subst this
      refine ⟨K, ?_, hK, hfr⟩
      rw [sg_Mo_leatherOf_4, dt rfl, cond_true]
    | some p =>
      rw [hw] at hsp srch
      obtain ⟨hp, hmay⟩ := hsp.1 p rfl
      have hmay' : tb set p = true ∧ tb J p = false := by
        rw [Bool.and_eq_true, Bool.not_eq_true'] at hmay; exact hmay
      have hne : ¬ J = set := fun c => by rw [c, hmay'.1] at hmay'; cases hmay'.2
      have hntp := nt_le (P := P) (p := p) (J := J) hn
      obtain ⟨M, m1, m2, m3⟩ := ih (J ||| (1 <<< (Int32.ofNat p &&& 31))) (sum + ky P n J p) (fun q => if q = p then nt P n p J else fr q) (pm_up K 104 p (Int32.ofNat (nt P n p J))) (some (vi (Int32.ofNat p))) (some (vi (Int32.ofNat n))) p6
        (by
          have := cn_rm (f := fun p => tb set p && !tb J p) (g := fun q => tb set q && !tb (J ||| (1 <<< (Int32.ofNat p &&& 31))) q) (p := p) hmay (fun q => by
            by_cases hq : q < 32
            · rw [tb_or, tb_shl (by omega) hq]; cases tb set q <;> cases tb J q <;> rfl
            · have e : tb set q = false := BitVec.getLsbD_of_ge _ _ (by omega)
              rw [e]; rfl) n
          rw [if_pos hp] at this; omega)
        (fun q hq h => by
          rw [tb_or, tb_shl (by omega) hq, Bool.or_eq_true, decide_eq_true_iff] at h
          rcases h with h | h
          · exact hJ q hq h
          · rw [← h]; exact hmay'.1)
        (fun a j h => by rw [up_ne (by omega)]; exact hK a j h)
        (fun q hq h => by
          by_cases hqp : q = p
          · subst hqp; rw [up_eq, if_pos rfl]
          · rw [up_ne (by omega), if_neg hqp]
            rw [tb_or, tb_shl (by omega) (by omega), Bool.or_eq_true, decide_eq_true_iff] at h
            rcases h with h | h
            · exact hfr q hq h
            · omega)
      refine ⟨M, ?_, m2, m3⟩
      rw [sg_Mo_leatherOf_4, df hne, cond_false, srch, sg_Mo_leatherOf_15, K25, enc]
      have hW2 := c_way (X := X) (d := d + 1) (al := al) (D := D) (L := L) (I := pm_up K 104 p (Int32.ofNat (nt P n p J))) (b := b) (a := p) (c := nt P n p J) hb (by rw [up_ne (by omega)]; exact K23) (by omega) (by omega)
      rw [KP _ (fun a j h => by rw [up_ne (by omega)]; exact hK a j h)] at hW2
      simp (disch := omega) only [n_dle, dt, cond_true, hN p (by omega), Option.bind_some, pm_ai, sg_Mo_leatherOf_117, n_in, n_tn, up_eq, hW2, sg_Mo_leatherOf_132]
      exact m1
end
