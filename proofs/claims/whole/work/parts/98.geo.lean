section
variable {X : Nat × (Nat → Int32)} {d : Nat} {al : List Nat} {D : Nat → Bool} {I : Nat → Nat → Int32} {L : Nat → Nat → Int64}
def ab (x : Int32) : Int32 := cond (decide (0 ≤ x)) x (-x)
theorem k_abs (x : Int32) : Cl X (d + 1) 2 [vi x] (pm_mm al D I L) = some (some (vi (ab x)), pm_mm al D I L) := by
  rw [Cl_s]
  show Rn X d co_Jm_abs (0, [some (vi x)], [], pm_mm al D I L) = _
  rw [sg_Jm_abs_0, ab]
  simp only [sg_Jm_abs_10]
  cases decide (0 ≤ x) <;> rfl
/-- seats: of pipes, and (6) of the bellows -/
def PT (I : Nat → Nat → Int32) (b : Nat) (sx sy : Int32) (a : Nat) : Int32 × Int32 := if a = 6 then (sx, sy) else (I 87 (29 * b + (17 + a)), I 87 (29 * b + (23 + a)))
def dst (P : Nat → Int32 × Int32) (a c : Nat) : Int32 := ab ((P a).1 - (P c).1) + ab ((P a).2 - (P c).2)
theorem c_xOf {b a : Nat} (hb : b < 8) (eb : I 81 23 = Int32.ofNat b) (ha : a ≤ 6) : Cl X (d + 2) 225 [vr 81, vi (Int32.ofNat a)] (pm_mm al D I L) = some (some (vi (PT I b (I 81 44) (I 81 45) a).1), pm_mm al D I L) := by
  rw [Cl_s]
  show Rn X (d + 1) co_Mo_xOf (0, [some (vr 81), some (vi (Int32.ofNat a))], [], pm_mm al D I L) = _
  rw [sg_Mo_xOf_0, PT]
  have e17 : (17 : Int32) + Int32.ofNat a = Int32.ofNat (17 + a) := n_add 17 a
  by_cases h : a = 6
  · subst h; rw [sg_Mo_xOf_21]; rfl
  · rw [if_neg h, e17, c_of hb (by omega) eb]
    simp (disch := omega) only [q0, q1, q2, q3, q4, q5, q6, q7, q8, q9, q10, q11, q12, q13, q20, q24, q60, q64, q84, q99, q100, q600, q720, q4096, q1000000, df, cond_false, Option.bind_some, pm_ai, sg_Mo_xOf_21]
theorem c_yOf {b a : Nat} (hb : b < 8) (eb : I 81 23 = Int32.ofNat b) (ha : a ≤ 6) : Cl X (d + 2) 226 [vr 81, vi (Int32.ofNat a)] (pm_mm al D I L) = some (some (vi (PT I b (I 81 44) (I 81 45) a).2), pm_mm al D I L) := by
  rw [Cl_s]
  show Rn X (d + 1) co_Mo_yOf (0, [some (vr 81), some (vi (Int32.ofNat a))], [], pm_mm al D I L) = _
  rw [sg_Mo_yOf_0, PT]
  have e17 : (23 : Int32) + Int32.ofNat a = Int32.ofNat (23 + a) := n_add 23 a
  by_cases h : a = 6
  · subst h; rw [sg_Mo_yOf_21]; rfl
  · rw [if_neg h, e17, c_of hb (by omega) eb]
    simp (disch := omega) only [q0, q1, q2, q3, q4, q5, q6, q7, q8, q9, q10, q11, q12, q13, q20, q24, q60, q64, q84, q99, q100, q600, q720, q4096, q1000000, df, cond_false, Option.bind_some, pm_ai, sg_Mo_yOf_21]
theorem c_way {b a c : Nat} (hb : b < 8) (eb : I 81 23 = Int32.ofNat b) (ha : a ≤ 6) (hc : c ≤ 6) : Cl X (d + 3) 227 [vr 81, vi (Int32.ofNat a), vi (Int32.ofNat c)] (pm_mm al D I L) = some (some (vi (dst (PT I b (I 81 44) (I 81 45)) a c)), pm_mm al D I L) := by
  rw [Cl_s]
  show Rn X (d + 2) co_Mo_way (0, [some (vr 81), some (vi (Int32.ofNat a)), some (vi (Int32.ofNat c)), none, none], [], pm_mm al D I L) = _
  simp only [sg_Mo_way_0, c_xOf hb eb ha, c_xOf hb eb hc, c_yOf hb eb ha, c_yOf hb eb hc, Option.bind_some, pm_ai, sg_Mo_way_5, sg_Mo_way_10, sg_Mo_way_17, sg_Mo_way_22, sg_Mo_way_35, sg_Mo_way_48, dst, ab]
  generalize (PT I b (I 81 44) (I 81 45) a).1 - (PT I b (I 81 44) (I 81 45) c).1 = x
  generalize (PT I b (I 81 44) (I 81 45) a).2 - (PT I b (I 81 44) (I 81 45) c).2 = y
  cases decide (0 ≤ x) <;> cases decide (0 ≤ y) <;> rfl
/-- good seats -/
def gP (P : Nat → Int32 × Int32) (n : Nat) : Prop := ∀ a, (a < n ∨ a = 6) → rg (P a).1 0 9 ∧ rg (P a).2 0 9
theorem ab_ti {x : Int32} (h1 : -9 ≤ x.toInt) (h2 : x.toInt ≤ 9) : (ab x).toInt = if 0 ≤ x.toInt then x.toInt else -x.toInt := by
  have e0 : (0 : Int32).toInt = 0 := rfl
  rw [ab]
  by_cases h : 0 ≤ x.toInt
  · rw [dt (t_le.mpr (by omega)), cond_true, if_pos h]
  · rw [df (fun c => h (by have := t_le.mp c; omega)), cond_false, if_neg h, Int32.toInt_neg]
    exact bm (by omega) (by omega)
theorem ab_sub {x y : Int32} (hx : rg x 0 9) (hy : rg y 0 9) : (ab (x - y)).toInt = if y.toInt ≤ x.toInt then x.toInt - y.toInt else y.toInt - x.toInt := by
  obtain ⟨x1, x2⟩ := hx
  obtain ⟨y1, y2⟩ := hy
  have hs : (x - y).toInt = x.toInt - y.toInt := t_sub (by omega) (by omega)
  rw [ab_ti (by omega) (by omega), hs]
  split <;> split <;> omega
theorem dst_ti {P : Nat → Int32 × Int32} {n a c : Nat} (g : gP P n) (ha : a < n ∨ a = 6) (hc : c < n ∨ c = 6) : (dst P a c).toInt = (ab ((P a).1 - (P c).1)).toInt + (ab ((P a).2 - (P c).2)).toInt ∧ 0 ≤ (dst P a c).toInt ∧ (dst P a c).toInt ≤ 18 := by
  obtain ⟨a1, a2⟩ := g a ha
  obtain ⟨c1, c2⟩ := g c hc
  have h1 := ab_sub a1 c1
  have h2 := ab_sub a2 c2
  obtain ⟨x1, x2⟩ := a1
  obtain ⟨x3, x4⟩ := a2
  obtain ⟨x5, x6⟩ := c1
  obtain ⟨x7, x8⟩ := c2
  have b1 : 0 ≤ (ab ((P a).1 - (P c).1)).toInt ∧ (ab ((P a).1 - (P c).1)).toInt ≤ 9 := by rw [h1]; split <;> omega
  have b2 : 0 ≤ (ab ((P a).2 - (P c).2)).toInt ∧ (ab ((P a).2 - (P c).2)).toInt ≤ 9 := by rw [h2]; split <;> omega
  have e : (dst P a c).toInt = (ab ((P a).1 - (P c).1)).toInt + (ab ((P a).2 - (P c).2)).toInt := t_add (by omega) (by omega)
  exact ⟨e, by omega, by omega⟩
theorem ab_comm {x y : Int32} (hx : rg x 0 9) (hy : rg y 0 9) : ab (x - y) = ab (y - x) := by
  rw [t_eq, ab_sub hx hy, ab_sub hy hx]; split <;> split <;> omega
theorem gP_O {m : Nat → Nat} {b : Nat} {sx sy : Int32} (g : rG I m) (hb : b < m 0) (h1 : rg sx 0 9) (h2 : rg sy 0 9) : gP (PT I b sx sy) (I 87 (29 * b)).toNatClampNeg := fun a ha => by
  have n6 := (g.2.1 b hb).1
  rw [PT]
  by_cases h : a = 6
  · rw [if_pos h]; exact ⟨h1, h2⟩
  · rw [if_neg h]
    have := (g.2.1 b hb).2.2.2.2.2.2 a (by omega)
    exact ⟨this.2.2.1, this.2.2.2⟩
/-- the class's way from a pipe to a place -/
theorem k_wayTo {b p : Nat} (x y : Int32) (hb : b < 2) (hp : p < 6) : Cl X (d + 2) 13 [vr (9 + 5 * b), vi (Int32.ofNat p), vi x, vi y] (pm_mm al D I L) = some (some (vi (ab (I (12 + 5 * b) p - x) + ab (I (13 + 5 * b) p - y))), pm_mm al D I L) := by
  rw [Cl_s]
  refine Eq.trans (show _ = Rn X (d + 1) co_Ba_wayTo (0, [some (vr (9 + 5 * b)), some (vi (Int32.ofNat p)), some (vi x), some (vi y)], [], pm_mm al D I L) from rfl) ?_
  rw [sgb_Ba_wayTo_0 hb]
  simp (disch := omega) only [n_in, dt, cond_true, n_tn, k_abs, Option.bind_some, pm_ai, sgb_Ba_wayTo_11 hb, sgb_Ba_wayTo_22]
def hhS (a j : Nat) : Prop := hdS a j ∨ (a = 81 ∧ (j = 44 ∨ j = 45))
theorem c_handHome_f {m : Nat} {k : Int32} (hm : m ≤ 2) (e : I 86 0 = Int32.ofNat m) (h : pm_in k m = false) : Cl X (d + 4) 230 [vr 81, vi k] (pm_mm al D I L) = some (some (vi 0), pm_mm al D (pm_up (pm_up I 81 44 0) 81 45 0) L) := by
  rw [Cl_s]
  show Rn X (d + 3) co_Mo_handHome (0, [some (vr 81), some (vi k)], [], pm_mm al D I L) = _
  rw [sg_Mo_handHome_0, c_hand_f (I := pm_up (pm_up I 81 44 0) 81 45 0) hm (by rw [up_ne (by omega), up_ne (by omega)]; exact e) h]
  simp only [Option.bind_some, pm_ai, sg_Mo_handHome_15]; rfl
theorem c_handHome_t {m b : Nat} (hm : m ≤ 2) (e : I 86 0 = Int32.ofNat m) (hb : b < m) : ∃ J, Cl X (d + 4) 230 [vr 81, vi (Int32.ofNat b)] (pm_mm al D I L) = some (some (vi 1), pm_mm al D J L) ∧ (∀ a j, ¬ hhS a j → J a j = I a j) ∧ hdP I J b ∧ J 81 44 = 0 ∧ J 81 45 = 0 := by
  rw [Cl_s]
  show ∃ J, Rn X (d + 3) co_Mo_handHome (0, [some (vr 81), some (vi (Int32.ofNat b))], [], pm_mm al D I L) = _ ∧ _
  obtain ⟨J, e1, e2, e3⟩ := c_hand_t (X := X) (d := d) (al := al) (D := D) (L := L) (I := pm_up (pm_up I 81 44 0) 81 45 0) hm (by rw [up_ne (by omega), up_ne (by omega)]; exact e) hb
  rw [sg_Mo_handHome_0, e1]
  simp only [Option.bind_some, pm_ai, sg_Mo_handHome_15]
  refine ⟨J, rfl, fun a j h => ?_, ?_, ?_, ?_⟩
  · rw [e2 a j (fun c => h (Or.inl c)), up_ne (fun c => h (Or.inr ⟨c.1, Or.inr c.2⟩)), up_ne (fun c => h (Or.inr ⟨c.1, Or.inl c.2⟩))]
  · obtain ⟨h1, h2, h3, h4, h5, h6⟩ := e3
    refine ⟨h1, ?_, ?_, ?_, ?_, h6⟩
    · rw [h2, up_ne (by omega), up_ne (by omega)]
    · rw [h3, up_ne (by omega), up_ne (by omega)]
    · rw [h4, up_ne (by omega), up_ne (by omega)]
    · rw [h5, up_ne (by omega), up_ne (by omega)]
  · rw [e2 81 44 (by unfold hdS; omega), up_ne (by omega), up_eq]
  · rw [e2 81 45 (by unfold hdS; omega), up_eq]
theorem rF_hh {J : Nat → Nat → Int32} (h : ∀ a j, ¬ hhS a j → J a j = I a j) : rF I J := fun a h1 h2 => by funext j; exact h a j (by unfold hhS hdS; omega)
end
