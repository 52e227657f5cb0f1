section
variable {X : Nat × (Nat → Int32)} {d : Nat} {al : List Nat} {D : Nat → Bool} {I : Nat → Nat → Int32} {L : Nat → Nat → Int64}
/-- a band for a duel: size, fill, pipes, draws, worths -/
abbrev DB : Type := Int32 × Int32 × Nat × (Nat → Int32) × (Nat → Int32)
def bl1 (B : DB) (f : Int32 → Int32 → Int32) (br had : Int32) (p : Nat) (a : Int32) : Int32 := cond (!tb had p && decide (B.2.2.2.1 p ≤ br)) (mxx a (B.2.2.2.2 p - f (br - B.2.2.2.1 p) (had ||| (1 <<< (Int32.ofNat p &&& 31))))) a
/-- by how much he leads whose turn it is -/
def BL (B : DB) : Nat → Int32 → Int32 → Int32
  | 0, _, _ => 0
  | t + 1, br, had => fo (bl1 B (BL B t) br had) B.2.2.1 (-(BL B t (mn B.1 (br + B.2.1)) had))
def LB (B : DB) (t : Nat) (br had : Int32) (v : Nat) : Int32 := if v = 6 then -(BL B t (mn B.1 (br + B.2.1)) had) else B.2.2.2.2 v - BL B t (br - B.2.2.2.1 v) (had ||| (1 <<< (Int32.ofNat v &&& 31)))
def lg (B : DB) (br had : Int32) (v : Nat) : Bool := decide (v = 6) || (decide (v < B.2.2.1) && (!tb had v && decide (B.2.2.2.1 v ≤ br)))
/-- the class's band of a duel -/
def dbC (I : Nat → Nat → Int32) (b n : Nat) : DB := (I (9 + 5 * b) 0, I (9 + 5 * b) 2, n, I (10 + 5 * b), I (11 + 5 * b))
theorem k_BL {b n : Nat} (hb : b < 2) (hn : n ≤ 6) (en : I (9 + 5 * b) 4 = Int32.ofNat n) : ∀ t, t ≤ 4 →
    (∀ br had, Cl X (d + 2 * t + 1) 17 [vr (9 + 5 * b), vi br, vi had, vi (Int32.ofNat t)] (pm_mm al D I L) = some (some (vi (BL (dbC I b n) t br had)), pm_mm al D I L))
    ∧ (1 ≤ t → ∀ br had v, v ≤ 6 → Cl X (d + 2 * t) 18 [vr (9 + 5 * b), vi br, vi had, vi (Int32.ofNat t), vi (Int32.ofNat v)] (pm_mm al D I L) = some (some (vi (LB (dbC I b n) (t - 1) br had v)), pm_mm al D I L)) := by
  intro t
  induction t with
  | zero =>
    intro _
    refine ⟨fun br had => ?_, fun h => absurd h (by omega)⟩
    rw [show d + 2 * 0 + 1 = d + 1 by omega, Cl_s]
    refine Eq.trans (show _ = Rn X d co_Du_bestLead (0, [some (vr (9 + 5 * b)), some (vi br), some (vi had), some (vi (Int32.ofNat 0)), none, none], [], pm_mm al D I L) from rfl) ?_
    rw [sgb_Du_bestLead_0 hb]; rfl
  | succ t ih =>
    intro ht
    obtain ⟨ih1, _⟩ := ih (by omega)
    have lead : ∀ br had v, v ≤ 6 → Cl X (d + 2 * (t + 1)) 18 [vr (9 + 5 * b), vi br, vi had, vi (Int32.ofNat (t + 1)), vi (Int32.ofNat v)] (pm_mm al D I L) = some (some (vi (LB (dbC I b n) t br had v)), pm_mm al D I L) := fun br had v hv => by
      rw [show d + 2 * (t + 1) = d + 2 * t + 1 + 1 by omega, Cl_s]
      refine Eq.trans (show _ = Rn X (d + 2 * t + 1) co_Du_leadBy (0, [some (vr (9 + 5 * b)), some (vi br), some (vi had), some (vi (Int32.ofNat (t + 1))), some (vi (Int32.ofNat v)), none], [], pm_mm al D I L) from rfl) ?_
      rw [sgb_Du_leadBy_0 hb, LB]
      have e1 : Int32.ofNat (t + 1) - 1 = Int32.ofNat t := n_sub (a := t + 1) (b := 1) (by omega)
      by_cases h6 : v = 6
      · subst h6
        rw [show decide (Int32.ofNat 6 = 6) = true from rfl, cond_true, k_min, if_pos rfl]
        simp only [Option.bind_some, pm_ai, sgb_Du_leadBy_20 hb, e1, ih1, sgb_Du_leadBy_32]
        rfl
      · rw [if_neg h6]
        simp (disch := omega) only [q0, q1, q2, q3, q4, q5, q6, q7, q8, q9, q10, q11, q12, q13, q20, q24, q60, q64, q84, q99, q100, q600, q720, q4096, q1000000, df, cond_false, n_in, dt, cond_true, n_tn, e1, ih1, Option.bind_some, pm_ai, sgb_Du_leadBy_67]
        rfl
    refine ⟨fun br had => ?_, fun _ => lead⟩
    rw [Cl_s]
    refine Eq.trans (show _ = Rn X (d + 2 * (t + 1)) co_Du_bestLead (0, [some (vr (9 + 5 * b)), some (vi br), some (vi had), some (vi (Int32.ofNat (t + 1))), none, none], [], pm_mm al D I L) from rfl) ?_
    have l6 : Cl X (d + 2 * (t + 1)) 18 [vr (9 + 5 * b), vi br, vi had, vi (Int32.ofNat (t + 1)), vi 6] (pm_mm al D I L) = some (some (vi (LB (dbC I b n) t br had 6)), pm_mm al D I L) := lead br had 6 (by omega)
    rw [sgb_Du_bestLead_0 hb, show decide ((0 : Int32) < Int32.ofNat (t + 1)) = true from (n_dlt (a := 0) (by omega) (by omega)).trans (dt (by omega)), cond_true, l6]
    simp only [Option.bind_some, pm_ai, sgb_Du_bestLead_15 hb]
    have h := lf n (fun p a => Rn X (d + 2 * (t + 1)) co_Du_bestLead (20, [some (vr (9 + 5 * b)), some (vi br), some (vi had), some (vi (Int32.ofNat (t + 1))), some (vi a), some (vi (Int32.ofNat p))], [], pm_mm al D I L)) (bl1 (dbC I b n) (BL (dbC I b n) t) br had) (fun p a hp => by
      show Rn X (d + 2 * (t + 1)) co_Du_bestLead _ = Rn X (d + 2 * (t + 1)) co_Du_bestLead _
      have lp := lead br had p (by omega)
      rw [LB, if_neg (show ¬ p = 6 by omega)] at lp
      have km : ∀ x y : Int32, Cl X (d + 2 * (t + 1)) 4 [vi x, vi y] (pm_mm al D I L) = some (some (vi (mxx x y)), pm_mm al D I L) := fun x y => by
        rw [show d + 2 * (t + 1) = d + 2 * t + 1 + 1 by omega]; exact k_max x y
      rw [sgb_Du_bestLead_20 hb, en]
      simp (disch := omega) only [n_dle, df, cond_false, hs0_tb, n_in, dt, cond_true, n_tn, lp, Option.bind_some, pm_ai, sgb_Du_bestLead_60 hb, km, sgb_Du_bestLead_63 hb, sgb_Du_bestLead_65 hb, n_s, bl1]
      show cond (!tb had p) (cond (decide (br < I (10 + 5 * b) p)) _ _) _ = _
      rw [d_ltle]
      cases tb had p with
      | true => rfl
      | false =>
        show cond true (cond (!decide (I (10 + 5 * b) p ≤ br)) _ _) _ = _
        have : (dbC I b n).2.2.2.1 p = I (10 + 5 * b) p := rfl
        rw [this]
        cases decide (I (10 + 5 * b) p ≤ br) <;> rfl) (LB (dbC I b n) t br had 6)
    refine Eq.trans h ?_
    show Rn X (d + 2 * (t + 1)) co_Du_bestLead _ = _
    rw [sgb_Du_bestLead_20 hb, en]
    simp (disch := omega) only [n_dle, dt, cond_true]
    rw [LB, if_pos rfl]; rfl
/-- good bands of a duel; the lead stays small -/
def gD (B : DB) : Prop := B.2.2.1 ≤ 6 ∧ ∀ p, p < B.2.2.1 → rg (B.2.2.2.2 p) 0 9
theorem bl_spec {B : DB} (hn : B.2.2.1 ≤ 6) (t : Nat) (br had : Int32) : ∀ k, k ≤ B.2.2.1 → (∃ v, (v = 6 ∨ (v < k ∧ lg B br had v = true)) ∧ fo (bl1 B (BL B t) br had) k (-(BL B t (mn B.1 (br + B.2.1)) had)) = LB B t br had v) ∧ ((LB B t br had 6).toInt ≤ (fo (bl1 B (BL B t) br had) k (-(BL B t (mn B.1 (br + B.2.1)) had))).toInt) ∧ ∀ v, v < k → lg B br had v = true → (LB B t br had v).toInt ≤ (fo (bl1 B (BL B t) br had) k (-(BL B t (mn B.1 (br + B.2.1)) had))).toInt
  | 0, _ => by
    have e : LB B t br had 6 = -(BL B t (mn B.1 (br + B.2.1)) had) := by rw [LB, if_pos rfl]
    rw [fo, ← e]
    exact ⟨⟨6, Or.inl rfl, rfl⟩, Int.le_refl _, fun v hv => absurd hv (Nat.not_lt_zero v)⟩
  | k + 1, hk => by
    obtain ⟨⟨v, hv, ev⟩, h6, hall⟩ := bl_spec hn t br had k (by omega)
    rw [fo]
    generalize fo (bl1 B (BL B t) br had) k (-(BL B t (mn B.1 (br + B.2.1)) had)) = a at ev h6 hall
    have hlg : lg B br had k = (!tb had k && decide (B.2.2.2.1 k ≤ br)) := by
      rw [lg, df (show ¬ k = 6 by omega), dt (show k < B.2.2.1 by omega)]; rfl
    have hlb : LB B t br had k = B.2.2.2.2 k - BL B t (br - B.2.2.2.1 k) (had ||| (1 <<< (Int32.ofNat k &&& 31))) := by rw [LB, if_neg (show ¬ k = 6 by omega)]
    rw [bl1, ← hlg, ← hlb]
    cases hl : lg B br had k with
    | false =>
      rw [cond_false]
      refine ⟨⟨v, ?_, ev⟩, h6, fun w hw hlw => ?_⟩
      · rcases hv with hv | hv
        · exact Or.inl hv
        · exact Or.inr ⟨by omega, hv.2⟩
      · by_cases hwk : w = k
        · subst hwk; rw [hl] at hlw; cases hlw
        · exact hall w (by omega) hlw
    | true =>
      rw [cond_true, mxx]
      by_cases hc : a < LB B t br had k
      · rw [if_pos hc]
        have hc' := t_lt.mp hc
        refine ⟨⟨k, Or.inr ⟨by omega, hl⟩, rfl⟩, by omega, fun w hw hlw => ?_⟩
        by_cases hwk : w = k
        · subst hwk; exact Int.le_refl _
        · have := hall w (by omega) hlw; omega
      · rw [if_neg hc]
        have hc' : ¬ a.toInt < (LB B t br had k).toInt := fun x => hc (t_lt.mpr x)
        refine ⟨⟨v, ?_, ev⟩, h6, fun w hw hlw => ?_⟩
        · rcases hv with hv | hv
          · exact Or.inl hv
          · exact Or.inr ⟨by omega, hv.2⟩
        · by_cases hwk : w = k
          · subst hwk; omega
          · exact hall w (by omega) hlw
theorem lg_lt {B : DB} {br had : Int32} {v : Nat} (h : lg B br had v = true) : v = 6 ∨ v < B.2.2.1 := by
  rw [lg, Bool.or_eq_true, Bool.and_eq_true, decide_eq_true_iff, decide_eq_true_iff] at h
  rcases h with h | h
  · exact Or.inl h
  · exact Or.inr h.1
/-- the lead is the best of what may be done -/
theorem BL_max {B : DB} (hn : B.2.2.1 ≤ 6) (t : Nat) (br had : Int32) : (∃ v, lg B br had v = true ∧ BL B (t + 1) br had = LB B t br had v) ∧ ∀ v, lg B br had v = true → (LB B t br had v).toInt ≤ (BL B (t + 1) br had).toInt := by
  obtain ⟨⟨v, hv, ev⟩, h6, hall⟩ := bl_spec hn t br had B.2.2.1 (Nat.le_refl _)
  refine ⟨⟨v, ?_, ev⟩, fun w hw => ?_⟩
  · rcases hv with hv | hv
    · subst hv; rfl
    · exact hv.2
  · rcases lg_lt hw with h | h
    · subst h; exact h6
    · exact hall w h hw
theorem BL_rg {B : DB} (g : gD B) : ∀ (t : Nat), t ≤ 4 → ∀ br had, -(9 * (t : Int)) ≤ (BL B t br had).toInt ∧ (BL B t br had).toInt ≤ 9 * (t : Int)
  | 0, _, br, had => ⟨by rw [BL]; decide, by rw [BL]; decide⟩
  | t + 1, ht, br, had => by
    have ih := BL_rg g t (by omega)
    have neg : ∀ x y, (-(BL B t x y)).toInt = -(BL B t x y).toInt := fun x y => by
      have := ih x y
      rw [Int32.toInt_neg]; exact bm (by omega) (by omega)
    have lbr : ∀ v, lg B br had v = true → -(9 * ((t : Int) + 1)) ≤ (LB B t br had v).toInt ∧ (LB B t br had v).toInt ≤ 9 * ((t : Int) + 1) := fun v hv => by
      rw [LB]
      by_cases h6 : v = 6
      · rw [if_pos h6, neg]; have := ih (mn B.1 (br + B.2.1)) had; omega
      · rw [if_neg h6]
        have hvn : v < B.2.2.1 := by rcases lg_lt hv with h | h; exact absurd h h6; exact h
        have hw := g.2 v hvn
        have := ih (br - B.2.2.2.1 v) (had ||| (1 <<< (Int32.ofNat v &&& 31)))
        obtain ⟨w1, w2⟩ := hw
        rw [t_sub (by omega) (by omega)]; omega
    obtain ⟨⟨v, hv, ev⟩, _⟩ := BL_max g.1 t br had
    rw [ev]
    have := lbr v hv
    omega
theorem LB_rg {B : DB} (g : gD B) {t : Nat} (ht : t < 4) {br had : Int32} {v : Nat} (hv : lg B br had v = true) : -36 ≤ (LB B t br had v).toInt ∧ (LB B t br had v).toInt ≤ 36 := by
  have ih := BL_rg g t (by omega)
  rw [LB]
  by_cases h6 : v = 6
  · have := ih (mn B.1 (br + B.2.1)) had
    rw [if_pos h6, Int32.toInt_neg]
    have e := bm (z := -(BL B t (mn B.1 (br + B.2.1)) had).toInt) (by omega) (by omega)
    have e2 : (2 ^ 32 : Nat) = 4294967296 := by decide
    rw [e2, e]; omega
  · rw [if_neg h6]
    have hvn : v < B.2.2.1 := by rcases lg_lt hv with h | h; exact absurd h h6; exact h
    obtain ⟨w1, w2⟩ := g.2 v hvn
    have := ih (br - B.2.2.2.1 v) (had ||| (1 <<< (Int32.ofNat v &&& 31)))
    rw [t_sub (by omega) (by omega)]; omega
/-- what is done first -/
def fm (B : DB) (t : Nat) : Nat → Nat → Nat
  | _, 0 => 6
  | p, k + 1 => cond (lg B B.1 0 p && decide (LB B t B.1 0 p = BL B (t + 1) B.1 0)) p (fm B t (p + 1) k)
theorem k_bestMove {b n t : Nat} (hb : b < 2) (hn : n ≤ 6) (en : I (9 + 5 * b) 4 = Int32.ofNat n) (ht : t < 4) : Cl X (d + 11) 16 [vr (9 + 5 * b), vi (Int32.ofNat (t + 1))] (pm_mm al D I L) = some (some (vi (Int32.ofNat (fm (dbC I b n) t 0 n))), pm_mm al D I L) := by
  rw [Cl_s]
  refine Eq.trans (show _ = Rn X (d + 10) co_Du_bestMove (0, [some (vr (9 + 5 * b)), some (vi (Int32.ofNat (t + 1))), none, none], [], pm_mm al D I L) from rfl) ?_
  have hL : Cl X (d + 10) 15 [vr (9 + 5 * b), vi (Int32.ofNat (t + 1))] (pm_mm al D I L) = some (some (vi (BL (dbC I b n) (t + 1) (dbC I b n).1 0)), pm_mm al D I L) := by
    rw [Cl_s]
    refine Eq.trans (show _ = Rn X (d + 9) co_Du_lead (0, [some (vr (9 + 5 * b)), some (vi (Int32.ofNat (t + 1)))], [], pm_mm al D I L) from rfl) ?_
    have := (k_BL (X := X) (d := d + 9 - 2 * (t + 1) - 1) (al := al) (D := D) (L := L) hb hn en (t + 1) (by omega)).1 (I (9 + 5 * b) 0) 0
    rw [show d + 9 - 2 * (t + 1) - 1 + 2 * (t + 1) + 1 = d + 9 by omega] at this
    rw [sgb_Du_lead_0 hb, this]
    simp only [Option.bind_some, pm_ai, sgb_Du_lead_10]; rfl
  have hlb := fun v (hv : v ≤ 6) => (k_BL (X := X) (d := d + 10 - 2 * (t + 1)) (al := al) (D := D) (L := L) hb hn en (t + 1) (by omega)).2 (by omega) (I (9 + 5 * b) 0) 0 v hv
  rw [show d + 10 - 2 * (t + 1) + 2 * (t + 1) = d + 10 by omega] at hlb
  rw [sgb_Du_bestMove_0 hb, hL]
  simp only [Option.bind_some, pm_ai, sgb_Du_bestMove_5 hb]
  suffices h : ∀ k p, p + k = n → Rn X (d + 10) co_Du_bestMove (8, [some (vr (9 + 5 * b)), some (vi (Int32.ofNat (t + 1))), some (vi (BL (dbC I b n) (t + 1) (dbC I b n).1 0)), some (vi (Int32.ofNat p))], [], pm_mm al D I L) = some (some (vi (Int32.ofNat (fm (dbC I b n) t p k))), pm_mm al D I L) from h n 0 (by omega)
  intro k
  induction k with
  | zero =>
    intro p hp
    rw [sgb_Du_bestMove_8 hb, en]
    simp (disch := omega) only [n_dle, dt, cond_true]; rfl
  | succ k ih =>
    intro p hp
    have hlp := hlb p (by omega)
    rw [show t + 1 - 1 = t by omega] at hlp
    have hlg : lg (dbC I b n) (dbC I b n).1 0 p = decide (I (10 + 5 * b) p ≤ I (9 + 5 * b) 0) := by
      rw [lg, df (show ¬ p = 6 by omega), dt (show p < (dbC I b n).2.2.1 from show p < n by omega), tb_0]; rfl
    have ih' := ih (p + 1) (by omega)
    rw [sgb_Du_bestMove_8 hb, en, fm, hlg]
    simp (disch := omega) only [n_dle, df, cond_false, n_in, dt, cond_true, n_tn, hlp, Option.bind_some, pm_ai, sgb_Du_bestMove_40 hb, sgb_Du_bestMove_46 hb, n_s, d_ltle]
    cases decide (I (10 + 5 * b) p ≤ I (9 + 5 * b) 0) with
    | false => exact ih'
    | true =>
      show cond (decide (LB (dbC I b n) t (dbC I b n).1 0 p = BL (dbC I b n) (t + 1) (dbC I b n).1 0)) _ _ = _
      cases decide (LB (dbC I b n) t (dbC I b n).1 0 p = BL (dbC I b n) (t + 1) (dbC I b n).1 0) with
      | true => rfl
      | false => exact ih'
end
