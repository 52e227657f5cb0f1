section
variable {X : Nat × (Nat → Int32)} {d : Nat} {al : List Nat} {D : Nat → Bool} {I : Nat → Nat → Int32} {L : Nat → Nat → Int64}
/-- a log: how many lines; their beats and numbers -/
abbrev LG : Type := Nat × (Nat → Nat) × (Nat → Nat)
def lgO (I : Nat → Nat → Int32) (l : Nat) : LG := ((I 90 (17 * l)).toNatClampNeg, fun k => (I 90 (17 * l + 1 + 2 * k + 0)).toNatClampNeg, fun k => (I 90 (17 * l + 1 + 2 * k + 1)).toNatClampNeg)
def lgG (G : LG) : Prop := G.1 ≤ 8 ∧ ∀ k, k < G.1 → G.2.1 k < 12 ∧ G.2.2 k ≤ 6
/-- whether it was heard so -/
def hrd (G : LG) (s : Nat → Nat) : Nat → Nat → Bool
  | _, 0 => true
  | k, r + 1 => decide (s (G.2.1 k) = G.2.2 k) && hrd G s (k + 1) r
def lgP (I K : Nat → Nat → Int32) (l : Nat) : Prop := l < 8 ∧ K 81 51 = Int32.ofNat l ∧ K 90 = I 90
def lgN (I : Nat → Nat → Int32) (l : Nat) : Prop := I 90 (17 * l) = Int32.ofNat (lgO I l).1 ∧ ∀ k, k < (lgO I l).1 → I 90 (17 * l + 1 + 2 * k + 0) = Int32.ofNat ((lgO I l).2.1 k) ∧ I 90 (17 * l + 1 + 2 * k + 1) = Int32.ofNat ((lgO I l).2.2 k)
theorem lg_good {m : Nat → Nat} {l : Nat} (g : rG I m) (hl : l < m 3) : lgG (lgO I l) ∧ lgN I l := by
  obtain ⟨h1, h2, h3⟩ := g.2.2.2.2 l hl
  have e0 : (0 : Int32).toInt = 0 := rfl
  refine ⟨⟨h1, fun k hk => ?_⟩, n_of h2, fun k hk => ?_⟩
  · obtain ⟨p1, p2⟩ := h3 k hk
    obtain ⟨a1, a2⟩ := p1
    obtain ⟨b1, b2⟩ := p2
    show (I 90 (17 * l + 1 + 2 * k + 0)).toNatClampNeg < 12 ∧ (I 90 (17 * l + 1 + 2 * k + 1)).toNatClampNeg ≤ 6
    rw [t_tn, t_tn]; omega
  · obtain ⟨p1, p2⟩ := h3 k hk
    obtain ⟨a1, a2⟩ := p1
    obtain ⟨b1, b2⟩ := p2
    exact ⟨n_of (t_le.mpr (by omega)), n_of (t_le.mpr (by omega))⟩
theorem c_isHeard {l : Nat} {K : Nat → Nat → Int32} {s : Nat → Nat} (g : lgG (lgO I l)) (gn : lgN I l) (h : lgP I K l) (hs : ∀ t, t < 12 → on (K 97 t) = Int32.ofNat (s t) ∧ s t ≤ 6) : Cl X (d + 3) 246 [vr 81] (pm_mm al D K L) = some (some (vi (b01 (hrd (lgO I l) s 0 (lgO I l).1))), pm_mm al D K L) := by
  obtain ⟨l8, e51, e90⟩ := h
  rw [Cl_s]
  show Rn X (d + 2) co_Mo_isHeard (0, [some (vr 81), none], [], pm_mm al D K L) = _
  rw [sg_Mo_isHeard_0]
  suffices h : ∀ r k, k + r = (lgO I l).1 → Rn X (d + 2) co_Mo_isHeard (2, [some (vr 81), some (vi (Int32.ofNat k))], [], pm_mm al D K L) = some (some (vi (b01 (hrd (lgO I l) s k r))), pm_mm al D K L) from h _ 0 (Nat.zero_add _)
  have g1 := g.1
  intro r
  induction r with
  | zero =>
    intro k hk
    rw [sg_Mo_isHeard_2, c_heardLines l8 e51, e90, gn.1]
    simp only [Option.bind_some, pm_ai]
    rw [sg_Mo_isHeard_7, n_dle (by omega) (by omega), dt (by omega), cond_true, hrd]; rfl
  | succ r ih =>
    intro k hk
    obtain ⟨b12, v6⟩ := g.2 k (by omega)
    obtain ⟨n1, n2⟩ := gn.2 k (by omega)
    have q0 : Cl X (d + 2) 242 [vr 81, vi (Int32.ofNat k), vi 0] (pm_mm al D K L) = some (some (vi (K 90 (17 * l + 1 + 2 * k + 0))), pm_mm al D K L) := c_lineOf (d := d + 1) (w := 0) l8 (by omega) (by omega) e51
    have q1 : Cl X (d + 2) 242 [vr 81, vi (Int32.ofNat k), vi 1] (pm_mm al D K L) = some (some (vi (K 90 (17 * l + 1 + 2 * k + 1))), pm_mm al D K L) := c_lineOf (d := d + 1) (w := 1) l8 (by omega) (by omega) e51
    obtain ⟨s1, s2⟩ := hs _ b12
    rw [sg_Mo_isHeard_2, c_heardLines l8 e51, e90, gn.1]
    simp only [Option.bind_some, pm_ai]
    rw [sg_Mo_isHeard_7, n_dle (by omega) (by omega), df (by omega), cond_false, q0, e90, n1]
    simp only [Option.bind_some, pm_ai]
    rw [sg_Mo_isHeard_20, n_in (by omega), dt b12, cond_true, n_tn (by omega), c_ones, s1]
    simp only [Option.bind_some, pm_ai]
    rw [sg_Mo_isHeard_24, q1, e90, n2]
    simp only [Option.bind_some, pm_ai]
    rw [sg_Mo_isHeard_30, n_deq (by omega) (by omega), n_s, ih (k + 1) (by omega), hrd]
    cases decide (s ((lgO I l).2.1 k) = (lgO I l).2.2 k) <;> rfl
def ctS (a j : Nat) : Prop := (a = 81 ∧ (j = 52 ∨ (56 ≤ j ∧ j ≤ 58))) ∨ a = 109 ∨ a = 110
theorem c_counts {x : Nat} {K : Nat → Nat → Int32} {s : Nat → Nat} (hx : x < 4096) (hs : ∀ t, t < 12 → on (K 97 t) = Int32.ofNat (s t) ∧ s t ≤ 6) : ∃ J, Cl X (d + 3) 248 [vr 81, vi (Int32.ofNat x)] (pm_mm al D K L) = some (none, pm_mm al D J L) ∧ (∀ a j, ¬ ctS a j → J a j = K a j)
    ∧ J 81 52 = K 81 52 + 1 ∧ J 81 56 = mn (K 81 56) (Int32.ofNat (oN 12 x)) ∧ J 81 57 = (if Int32.ofNat (oN 12 x) < K 81 57 then K 81 57 else Int32.ofNat (oN 12 x)) ∧ J 81 58 = K 81 58 &&& Int32.ofNat x
    ∧ (∀ t, t < 12 → J 110 t = K 110 t + cond (tb (Int32.ofNat x) t) 1 0) ∧ (∀ t c, t < 12 → c < 7 → J 109 (7 * t + c) = K 109 (7 * t + c) + (if s t = c then 1 else 0)) := by
  rw [Cl_s]
  show ∃ J, Rn X (d + 2) co_Mo_counts (0, [some (vr 81), some (vi (Int32.ofNat x)), none], [], pm_mm al D K L) = _ ∧ _
  have hon : on (Int32.ofNat x) = Int32.ofNat (oN 12 x) := on_oN (k := 12) (by omega) hx
  rw [sg_Mo_counts_0]
  simp only [c_ones, hon, Option.bind_some, pm_ai, sg_Mo_counts_19, c_lesser, sg_Mo_counts_22, sg_Mo_counts_34, c_greater, sg_Mo_counts_37]
  have e57 : pm_up K 81 52 (K 81 52 + 1) 81 57 = K 81 57 := up_ne (by omega)
  have e58 : pm_up (pm_up K 81 52 (K 81 52 + 1)) 81 56 (mn (K 81 56) (Int32.ofNat (oN 12 x))) 81 58 = K 81 58 := by rw [up_ne (by omega), up_ne (by omega)]
  rw [e57, e58]
  generalize hK1 : pm_up (pm_up (pm_up (pm_up K 81 52 (K 81 52 + 1)) 81 56 (mn (K 81 56) (Int32.ofNat (oN 12 x)))) 81 57 (if Int32.ofNat (oN 12 x) < K 81 57 then K 81 57 else Int32.ofNat (oN 12 x))) 81 58 (K 81 58 &&& Int32.ofNat x) = K1
  have k1F : ∀ a j, ¬ (a = 81 ∧ (j = 52 ∨ (56 ≤ j ∧ j ≤ 58))) → K1 a j = K a j := fun a j h => by rw [← hK1, up_ne (by omega), up_ne (by omega), up_ne (by omega), up_ne (by omega)]
  have k52 : K1 81 52 = K 81 52 + 1 := by rw [← hK1, up_ne (by omega), up_ne (by omega), up_ne (by omega), up_eq]
  have k56 : K1 81 56 = mn (K 81 56) (Int32.ofNat (oN 12 x)) := by rw [← hK1, up_ne (by omega), up_ne (by omega), up_eq]
  have k57 : K1 81 57 = (if Int32.ofNat (oN 12 x) < K 81 57 then K 81 57 else Int32.ofNat (oN 12 x)) := by rw [← hK1, up_ne (by omega), up_eq]
  have k58 : K1 81 58 = K 81 58 &&& Int32.ofNat x := by rw [← hK1, up_eq]
  obtain ⟨J, j1, j2, j3, j4⟩ := lp (σ := Nat → Nat → Int32) 12 (fun t J => Rn X (d + 2) co_Mo_counts (52, [some (vr 81), some (vi (Int32.ofNat x)), some (vi (Int32.ofNat t))], [], pm_mm al D J L)) (fun t J => (∀ a j, ¬ a = 109 → ¬ a = 110 → J a j = K1 a j) ∧ (∀ u, u < 12 → J 110 u = K 110 u + cond (decide (u < t) && tb (Int32.ofNat x) u) 1 0) ∧ ∀ u c, u < 12 → c < 7 → J 109 (7 * u + c) = K 109 (7 * u + c) + (if u < t ∧ s u = c then 1 else 0)) (fun t J ht hJ => by
    obtain ⟨q1, q2, q3⟩ := hJ
    obtain ⟨s1, s2⟩ := hs t ht
    have h97 : J 97 t = K 97 t := (q1 97 t (by omega) (by omega)).trans (k1F 97 t (by omega))
    have hz : (if (t < t ∧ s t = s t) then (1 : Int32) else 0) = 0 := if_neg (fun c => Nat.lt_irrefl t c.1)
    have v109 : J 109 (7 * t + s t) = K 109 (7 * t + s t) := by rw [q3 t (s t) ht (by omega), hz, Int32.add_zero]
    have v110 : J 110 t = K 110 t := by rw [q2 t ht, df (Nat.lt_irrefl t), Bool.false_and, cond_false, Int32.add_zero]
    have u97 : pm_up J 110 t (J 110 t + cond (tb (Int32.ofNat x) t) 1 0) 109 (7 * t + s t) = J 109 (7 * t + s t) := up_ne (by omega)
    refine ⟨pm_up (pm_up J 110 t (J 110 t + cond (tb (Int32.ofNat x) t) 1 0)) 109 (7 * t + s t) (J 109 (7 * t + s t) + 1), ?_, fun a j h1 h2 => by rw [up_ne (by omega), up_ne (by omega)]; exact q1 a j h1 h2, fun u hu => ?_, fun u c hu hc => ?_⟩
    · show Rn X (d + 2) co_Mo_counts _ = Rn X (d + 2) co_Mo_counts _
      have h7 : (7 : Int32) * Int32.ofNat t = Int32.ofNat (7 * t) := n_mul 7 t
      have go : ∀ v : Int32, Rn X (d + 2) co_Mo_counts (78, [some (vr 81), some (vi (Int32.ofNat x)), some (vi (Int32.ofNat t))], [vi v, vi (J 110 t), vi (Int32.ofNat t), vr 110], pm_mm al D J L) = Rn X (d + 2) co_Mo_counts (52, [some (vr 81), some (vi (Int32.ofNat x)), some (vi (Int32.ofNat (t + 1)))], [], pm_mm al D (pm_up (pm_up J 110 t (J 110 t + v)) 109 (7 * t + s t) (J 109 (7 * t + s t) + 1)) L) := fun v => by
        have u97 : pm_up J 110 t (J 110 t + v) 109 (7 * t + s t) = J 109 (7 * t + s t) := up_ne (by omega)
        rw [sg_Mo_counts_78, n_in (by omega), dt ht, cond_true, cond_true, c_ones, n_tn (by omega), h97, s1]
        simp only [Option.bind_some, pm_ai]
        rw [sg_Mo_counts_97, h7, n_add, n_in (by omega), dt (by omega), cond_true, cond_true, n_tn (by omega), u97, n_s]
      rw [sg_Mo_counts_52, show decide ((12 : Int32) ≤ Int32.ofNat t) = false from (n_dle (a := 12) (by omega) (by omega)).trans (df (by omega)), cond_false, n_in (by omega), dt ht, cond_true, c_has, n_tn (by omega), hs_tb _ (by omega)]
      simp only [Option.bind_some, pm_ai]
      rw [sg_Mo_counts_70, b01_ne, go, go]
      cases tb (Int32.ofNat x) t <;> rfl
    · by_cases hut : u = t
      · subst hut
        rw [up_ne (by omega), up_eq, v110, dt (by omega), Bool.true_and]
      · rw [up_ne (by omega), up_ne (by omega), q2 u hu]
        by_cases hlt : u < t
        · rw [dt hlt, dt (by omega)]
        · rw [df hlt, df (by omega)]
    · by_cases hut : u = t ∧ c = s t
      · obtain ⟨rfl, rfl⟩ := hut
        rw [up_eq, v109, if_pos ⟨by omega, rfl⟩]
      · rw [up_ne (by omega), up_ne (by omega), q3 u c hu hc]
        by_cases hlt : u < t ∧ s u = c
        · rw [if_pos hlt, if_pos ⟨by omega, hlt.2⟩]
        · rw [if_neg hlt, if_neg (fun e => by
            by_cases hu2 : u = t
            · exact hut ⟨hu2, by rw [← hu2]; exact e.2.symm⟩
            · exact hlt ⟨by omega, e.2⟩)]) 0 K1 (Nat.zero_le _) ⟨fun _ _ _ _ => rfl, fun u hu => by rw [df (Nat.not_lt_zero u), Bool.false_and, cond_false, Int32.add_zero]; exact k1F 110 u (by omega), fun u c hu hc => by rw [if_neg (fun e => Nat.not_lt_zero u e.1), Int32.add_zero]; exact k1F 109 _ (by omega)⟩
  have j1 : Rn X (d + 2) co_Mo_counts (52, [some (vr 81), some (vi (Int32.ofNat x)), some (vi 0)], [], pm_mm al D K1 L) = Rn X (d + 2) co_Mo_counts (52, [some (vr 81), some (vi (Int32.ofNat x)), some (vi (Int32.ofNat 12))], [], pm_mm al D J L) := j1
  refine ⟨J, ?_, fun a j h => ?_, (j2 81 52 (by omega) (by omega)).trans k52, (j2 81 56 (by omega) (by omega)).trans k56, (j2 81 57 (by omega) (by omega)).trans k57, (j2 81 58 (by omega) (by omega)).trans k58, fun t ht => ?_, fun t c ht hc => ?_⟩
  · rw [j1, sg_Mo_counts_52, show decide ((12 : Int32) ≤ Int32.ofNat 12) = true from rfl, cond_true]
  · unfold ctS at h
    rw [j2 a j (by omega) (by omega), k1F a j (by omega)]
  · rw [j3 t ht, dt ht, Bool.true_and]
  · rw [j4 t c ht hc]
    by_cases h : s t = c
    · rw [if_pos ⟨ht, h⟩, if_pos h]
    · rw [if_neg (fun e => h e.2), if_neg h]
end
