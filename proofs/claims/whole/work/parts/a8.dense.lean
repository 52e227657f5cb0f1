section
variable {X : Nat × (Nat → Int32)} {d : Nat} {al : List Nat} {D : Nat → Bool} {I : Nat → Nat → Int32} {L : Nat → Nat → Int64}
/-- two notes of one pipe have a beat in common -/
def ov (S : SC) (a b : Nat) : Bool := decide (S.2.1 a = S.2.1 b) && (!decide (S.2.2.1 a + S.2.2.2 a ≤ S.2.2.1 b) && !decide (S.2.2.1 b + S.2.2.2 b ≤ S.2.2.1 a))
theorem ov_comm (S : SC) (a b : Nat) : ov S a b = ov S b a := by
  rw [ov, ov, Bool.and_comm (!decide (S.2.2.1 a + S.2.2.2 a ≤ S.2.2.1 b)), decide_eq_decide.mpr (show (S.2.1 a = S.2.1 b) ↔ (S.2.1 b = S.2.1 a) from ⟨Eq.symm, Eq.symm⟩)]
def ovs (S : SC) (n : Nat) : Nat := fo (fun a s => s + cn (ov S a) a) n 0
def ovc (S : SC) (k n : Nat) : Nat := fo (fun a s => s + (cn (ov S a) n - cn (ov S a) (a + 1))) k 0
theorem cn_mono (f : Nat → Bool) (a : Nat) : ∀ m, cn f a ≤ cn f (a + m)
  | 0 => Nat.le_refl _
  | m + 1 => by
    have := cn_mono f a m
    show cn f a ≤ cn f (a + m) + cond (f (a + m)) 1 0
    omega
theorem ovc_s (S : SC) (n : Nat) : ∀ k, k ≤ n → ovc S k (n + 1) = ovc S k n + cn (fun a => ov S a n) k
  | 0, _ => rfl
  | k + 1, h => by
    have ih := ovc_s S n k (by omega)
    have hm := cn_mono (ov S k) (k + 1) (n - (k + 1))
    rw [show k + 1 + (n - (k + 1)) = n by omega] at hm
    show ovc S k (n + 1) + (cn (ov S k) n + cond (ov S k n) 1 0 - cn (ov S k) (k + 1)) = ovc S k n + (cn (ov S k) n - cn (ov S k) (k + 1)) + (cn (fun a => ov S a n) k + cond (ov S k n) 1 0)
    rw [ih]; omega
theorem cn_congr {f g : Nat → Bool} : ∀ n, (∀ k, k < n → f k = g k) → cn f n = cn g n
  | 0, _ => rfl
  | n + 1, h => by
    show cn f n + cond (f n) 1 0 = cn g n + cond (g n) 1 0
    rw [cn_congr n (fun k hk => h k (by omega)), h n (by omega)]
theorem ov_eq (S : SC) : ∀ n, ovc S n n = ovs S n
  | 0 => rfl
  | n + 1 => by
    show ovc S n (n + 1) + (cn (ov S n) (n + 1) - cn (ov S n) (n + 1)) = ovs S n + cn (ov S n) n
    rw [ovc_s S n n (Nat.le_refl n), ov_eq S n, Nat.sub_self, Nat.add_zero, cn_congr (f := fun a => ov S a n) (g := ov S n) n (fun k _ => ov_comm S k n)]
theorem ovs_le (S : SC) : ∀ n, n ≤ 8 → ovs S n ≤ 8 * n
  | 0, _ => Nat.le_refl _
  | n + 1, h => by
    have := ovs_le S n (by omega)
    have := cn_le (ov S n) n
    show ovs S n + cn (ov S n) n ≤ 8 * (n + 1)
    omega
theorem c_isOver {s a b : Nat} {S : SC} (hs : s < 8) (es : I 81 24 = Int32.ofNat s) (hS : S = scO I s) (g : gS I s) (ha : a < S.1) (hb : b < S.1) : Cl X (d + 2) 267 [vr 81, vi (Int32.ofNat a), vi (Int32.ofNat b)] (pm_mm al D I L) = some (some (vi (b01 (ov S a b))), pm_mm al D I L) := by
  subst hS
  obtain ⟨⟨g1, g2⟩, g3, g4⟩ := g
  have g1' : (scO I s).1 ≤ 8 := g1
  rw [Cl_s]
  show Rn X (d + 1) co_Mo_isOver (0, [some (vr 81), some (vi (Int32.ofNat a)), some (vi (Int32.ofNat b)), none, none], [], pm_mm al D I L) = _
  obtain ⟨x1, x2, x3⟩ := g4 a ha
  obtain ⟨y1, y2, y3⟩ := g4 b hb
  have qa := g2 a ha
  have qb := g2 b hb
  have a0 : Cl X (d + 1) 199 [vr 81, vi (Int32.ofNat a), vi 0] (pm_mm al D I L) = some (some (vi (Int32.ofNat ((scO I s).2.1 a))), pm_mm al D I L) := by rw [← show I 88 (25 * s + 1 + 3 * a + 0) = Int32.ofNat ((scO I s).2.1 a) from n_of x1]; exact c_noteOf (w := 0) hs (by omega) (by omega) es
  have a1 : Cl X (d + 1) 199 [vr 81, vi (Int32.ofNat a), vi 1] (pm_mm al D I L) = some (some (vi (Int32.ofNat ((scO I s).2.2.1 a))), pm_mm al D I L) := by rw [← show I 88 (25 * s + 1 + 3 * a + 1) = Int32.ofNat ((scO I s).2.2.1 a) from n_of x2]; exact c_noteOf (w := 1) hs (by omega) (by omega) es
  have a2 : Cl X (d + 1) 199 [vr 81, vi (Int32.ofNat a), vi 2] (pm_mm al D I L) = some (some (vi (Int32.ofNat ((scO I s).2.2.2 a))), pm_mm al D I L) := by rw [← show I 88 (25 * s + 1 + 3 * a + 2) = Int32.ofNat ((scO I s).2.2.2 a) from n_of x3]; exact c_noteOf (w := 2) hs (by omega) (by omega) es
  have b0 : Cl X (d + 1) 199 [vr 81, vi (Int32.ofNat b), vi 0] (pm_mm al D I L) = some (some (vi (Int32.ofNat ((scO I s).2.1 b))), pm_mm al D I L) := by rw [← show I 88 (25 * s + 1 + 3 * b + 0) = Int32.ofNat ((scO I s).2.1 b) from n_of y1]; exact c_noteOf (w := 0) hs (by omega) (by omega) es
  have b1 : Cl X (d + 1) 199 [vr 81, vi (Int32.ofNat b), vi 1] (pm_mm al D I L) = some (some (vi (Int32.ofNat ((scO I s).2.2.1 b))), pm_mm al D I L) := by rw [← show I 88 (25 * s + 1 + 3 * b + 1) = Int32.ofNat ((scO I s).2.2.1 b) from n_of y2]; exact c_noteOf (w := 1) hs (by omega) (by omega) es
  have b2 : Cl X (d + 1) 199 [vr 81, vi (Int32.ofNat b), vi 2] (pm_mm al D I L) = some (some (vi (Int32.ofNat ((scO I s).2.2.2 b))), pm_mm al D I L) := by rw [← show I 88 (25 * s + 1 + 3 * b + 2) = Int32.ofNat ((scO I s).2.2.2 b) from n_of y3]; exact c_noteOf (w := 2) hs (by omega) (by omega) es
  generalize scO I s = S at *
  simp (disch := omega) only [sg_Mo_isOver_0, a1, Option.bind_some, pm_ai, sg_Mo_isOver_6, a2, sg_Mo_isOver_12, b1, n_add, sg_Mo_isOver_19, sg_Mo_isOver_27, sg_Mo_isOver_34, b2, sg_Mo_isOver_40, sg_Mo_isOver_47, sg_Mo_isOver_55, a0, sg_Mo_isOver_63, b0, sg_Mo_isOver_69, sg_Mo_isOver_85, sg_Mo_isOver_86, n_dlt, n_deq, ov]
  by_cases c1 : S.2.2.1 a + S.2.2.2 a ≤ S.2.2.1 b
  · rw [df (show ¬ S.2.2.1 b < S.2.2.1 a + S.2.2.2 a by omega), dt c1]
    cases decide (S.2.2.1 a < S.2.2.1 b + S.2.2.2 b) <;> cases decide (S.2.1 a = S.2.1 b) <;> rfl
  · rw [dt (show S.2.2.1 b < S.2.2.1 a + S.2.2.2 a by omega), df c1]
    by_cases c2 : S.2.2.1 b + S.2.2.2 b ≤ S.2.2.1 a
    · rw [df (show ¬ S.2.2.1 a < S.2.2.1 b + S.2.2.2 b by omega), dt c2]
      cases decide (S.2.1 a = S.2.1 b) <;> rfl
    · rw [dt (show S.2.2.1 a < S.2.2.1 b + S.2.2.2 b by omega), df c2]
      cases decide (S.2.1 a = S.2.1 b) <;> rfl
theorem c_overs {s : Nat} (hs : s < 8) (es : I 81 24 = Int32.ofNat s) (g : gS I s) : Cl X (d + 3) 268 [vr 81] (pm_mm al D I L) = some (some (vi (Int32.ofNat (ovs (scO I s) (scO I s).1))), pm_mm al D I L) := by
  have g1 : (scO I s).1 ≤ 8 := g.1.1
  have eN : I 88 (25 * s) = Int32.ofNat (scO I s).1 := n_of g.2.1
  have hno := c_notes (X := X) (d := d + 1) (al := al) (D := D) (L := L) (I := I) hs es
  have hov := fun a b (ha : a < (scO I s).1) (hb : b < (scO I s).1) => c_isOver (X := X) (d := d) (al := al) (D := D) (L := L) (I := I) hs es rfl g ha hb
  rw [Cl_s]
  show Rn X (d + 2) co_Mo_overs (0, [some (vr 81), none, none, none], [], pm_mm al D I L) = _
  rw [sg_Mo_overs_0]
  generalize scO I s = S at *
  obtain ⟨q, e1, e2⟩ := lp (σ := Nat × Option pm_V) S.1 (fun a q => Rn X (d + 2) co_Mo_overs (4, [some (vr 81), some (vi (Int32.ofNat q.1)), some (vi (Int32.ofNat a)), q.2], [], pm_mm al D I L)) (fun a q => q.1 = ovs S a) (fun a q ha hq => by
    refine ⟨(q.1 + cn (ov S a) a, some (vi (Int32.ofNat a))), ?_, by show _ = ovs S a + cn (ov S a) a; rw [← hq]⟩
    show Rn X (d + 2) co_Mo_overs _ = Rn X (d + 2) co_Mo_overs _
    have hin := lf a (fun b (_ : Unit) => Rn X (d + 2) co_Mo_overs (14, [some (vr 81), some (vi (Int32.ofNat (q.1 + cn (ov S a) b))), some (vi (Int32.ofNat a)), some (vi (Int32.ofNat b))], [], pm_mm al D I L)) (fun _ q => q) (fun b _ hb => by
      show Rn X (d + 2) co_Mo_overs _ = Rn X (d + 2) co_Mo_overs _
      have e : cn (ov S a) (b + 1) = cn (ov S a) b + cond (ov S a b) 1 0 := rfl
      rw [sg_Mo_overs_14, e]
      simp (disch := omega) only [n_dle, df, cond_false, hov a b ha (by omega), Option.bind_some, pm_ai, sg_Mo_overs_26, b01_ne, sg_Mo_overs_34, n_s]
      cases ov S a b
      · simp only [Bool.not_false, cond_true, Int32.add_zero, cond_false, Nat.add_zero]
      · simp only [Bool.not_true, cond_true, cond_false, n_s, Nat.add_assoc]) ()
    rw [sg_Mo_overs_4, hno]
    simp (disch := omega) only [Option.bind_some, pm_ai, sg_Mo_overs_9, eN, n_dle, df, cond_false]
    refine Eq.trans hin ?_
    show Rn X (d + 2) co_Mo_overs _ = Rn X (d + 2) co_Mo_overs _
    rw [sg_Mo_overs_14]
    simp (disch := omega) only [n_dle, dt, cond_true, n_s]) 0 (0, none) (by omega) rfl
  refine Eq.trans e1 ?_
  show Rn X (d + 2) co_Mo_overs _ = _
  rw [sg_Mo_overs_4, hno]
  simp (disch := omega) only [Option.bind_some, pm_ai, sg_Mo_overs_9, eN, n_dle, dt, cond_true, e2]
theorem c_densest : Cl X (d + 3) 269 [vr 81] (pm_mm al D I L) = some (some (vi (Int32.ofNat (lou (I 93)))), pm_mm al D I L) := by
  rw [Cl_s]
  show Rn X (d + 2) co_Mo_densest (0, [some (vr 81), none, none], [], pm_mm al D I L) = _
  rw [sg_Mo_densest_0]
  obtain ⟨b, e1, e2⟩ := lp 11 (fun k b => Rn X (d + 2) co_Mo_densest (4, [some (vr 81), some (vi (Int32.ofNat b)), some (vi (Int32.ofNat (k + 1)))], [], pm_mm al D I L)) (fun k b => b = fo (lou1 (I 93)) k 0) (fun k b hk hq => by
    have hb : b ≤ k := by rw [hq]; exact lou_le _ k
    refine ⟨lou1 (I 93) k b, ?_, by rw [hq]; rfl⟩
    show Rn X (d + 2) co_Mo_densest _ = Rn X (d + 2) co_Mo_densest _
    rw [sg_Mo_densest_4]
    simp (disch := omega) only [a0, a1, a2, a3, a4, a5, a6, a7, a8, a9, a10, a11, a12, a13, a20, a24, a60, a64, a84, a99, a100, a600, a720, a4096, a1000000, df, n_in, dt, n_tn, cond_true, cond_false, c_ones, Option.bind_some, pm_ai, sg_Mo_densest_19, sg_Mo_densest_28, sg_Mo_densest_36, n_s, lou1]
    by_cases h : on (I 93 (k + 1)) ≤ on (I 93 b)
    · rw [decide_eq_true h, if_pos h]; rfl
    · rw [decide_eq_false h, if_neg h]; rfl) 0 0 (by omega) rfl
  refine Eq.trans e1 ?_
  show Rn X (d + 2) co_Mo_densest _ = _
  rw [sg_Mo_densest_4, e2]; rfl
def ds1 (w : Nat → Int32) (t : Nat) (s : Int32 × Int32) : Int32 × Int32 := (cond (decide (w t = 0)) s.1 (Int32.ofNat t), s.2 ||| w t)
def dss (w : Nat → Int32) : Int32 × Int32 := fo (ds1 w) 12 (-1, 0)
def vDns (S : SC) (what : Int32) : Int32 := cond (decide (what = 0)) (Int32.ofNat (ovs S S.1)) (cond (decide (what = 1)) (Int32.ofNat (lou (wn S))) (cond (decide (what = 2)) (on (wn S (lou (wn S)))) (cond (decide (what = 3)) (dss (wn S)).1 (cond (decide (what = 4)) (dss (wn S)).2 (-2)))))
def vDense (I : Nat → Nat → Int32) (m : Nat → Nat) (s what : Int32) : Int32 := cond (pm_in s (m 1)) (vDns (scO I s.toNatClampNeg) what) (-2)
theorem r_dense {m : Nat → Nat} (s what : Int32) (g : rG I m) : ∃ J, Cl X (d + 4) 270 [vr 81, vi s, vi what] (pm_mm al D I L) = some (some (vi (vDense I m s what)), pm_mm al D J L) ∧ rF I J := by
  rw [Cl_s]
  show ∃ J, Rn X (d + 3) co_Mo_dense (0, [some (vr 81), some (vi s), some (vi what), none, none, none], [], pm_mm al D I L) = _ ∧ _
  obtain ⟨m1, e1⟩ := g.1 1 (by omega)
  have h : Cl X (d + 3) 200 [vr 81, vi s] (pm_mm al D (pm_up I 81 0 0) L) = _ := c_hasScore (m := m 1) s (by omega) e1
  rw [sg_Mo_dense_0, h, vDense]
  simp only [Option.bind_some, pm_ai, sg_Mo_dense_10, b01_ne]
  have hF : rF I (pm_up (pm_up I 81 0 0) 81 24 s) := rF_code.trans (fun a h1 h2 => up_rw h1)
  cases hs : pm_in s (m 1) with
  | false => exact ⟨_, rfl, hF⟩
  | true =>
    obtain ⟨s', hs', es⟩ := in_nat hs
    have gs := g.2.2.1 s' hs'
    have e88 : (pm_up (pm_up I 81 0 0) 81 24 s) 88 = I 88 := by rw [up_rw (by omega), up_rw (by omega)]
    have hl := c_layNotes (X := X) (d := d) (al := al) (D := D) (L := L) (I := pm_up (pm_up I 81 0 0) 81 24 s) (s := s') (by omega) (by rw [up_eq, es]) (by rw [gS_up e88]; exact gs)
    rw [scO_up e88] at hl
    simp only [Bool.not_true, cond_false, cond_true]
    rw [hl]
    simp only [Option.bind_some, pm_av, sg_Mo_dense_20]
    generalize hK : pm_ups (pm_up (pm_up I 81 0 0) 81 24 s) 93 (fun t => if t < 12 then wn (scO I s') t else (pm_up (pm_up I 81 0 0) 81 24 s) 93 t) = K
    have hF2 : rF I K := hF.trans (fun a h1 h2 => by rw [← hK, ups_rw (by omega)])
    have K93 : ∀ t, t < 12 → K 93 t = wn (scO I s') t := fun t ht => by rw [← hK, ups_eq, if_pos ht]
    have K24 : K 81 24 = Int32.ofNat s' := by rw [← hK, ups_ne (by omega), up_eq, es]
    have K88 : K 88 = I 88 := by rw [← hK, ups_rw (by omega), e88]
    have hov := c_overs (X := X) (d := d) (al := al) (D := D) (L := L) (I := K) (s := s') (by omega) K24 (by rw [gS_up K88]; exact gs)
    rw [scO_up K88] at hov
    have hlo := lou_le (K 93) 11
    have h12 := lf 12 (fun t (q : Unit) => Rn X (d + 3) co_Mo_dense (28, [some (vr 81), some (vi s), some (vi what), some (vi (fo (ds1 (wn (scO I s'))) t (-1, 0)).1), some (vi (fo (ds1 (wn (scO I s'))) t (-1, 0)).2), some (vi (Int32.ofNat t))], [], pm_mm al D K L)) (fun _ q => q) (fun t _ ht => by
      show Rn X (d + 3) co_Mo_dense _ = Rn X (d + 3) co_Mo_dense _
      rw [fo]
      generalize fo (ds1 (wn (scO I s'))) t (-1, 0) = q
      rw [sg_Mo_dense_28, ds1]
      simp (disch := omega) only [a0, a1, a2, a3, a4, a5, a6, a7, a8, a9, a10, a11, a12, a13, a20, a24, a60, a64, a84, a99, a100, a600, a720, a4096, a1000000, df, cond_false, n_in, dt, cond_true, n_tn, K93 t ht, sg_Mo_dense_51, n_s]
      cases decide (wn (scO I s') t = 0) <;> rfl) ()
    refine ⟨K, Eq.trans h12 ?_, hF2⟩
    show Rn X (d + 3) co_Mo_dense _ = _
    rw [sg_Mo_dense_28, show decide ((12 : Int32) ≤ Int32.ofNat 12) = true from rfl, cond_true, hov, c_densest, es, n_tn (by omega), vDns]
    have h93 : lou (K 93) = lou (wn (scO I s')) := lou_congr K93
    have hlo : lou (wn (scO I s')) ≤ 11 := by rw [← h93]; exact hlo
    rw [h93]
    simp (disch := omega) only [Option.bind_some, pm_ai, sg_Mo_dense_108, sg_Mo_dense_113, sg_Mo_dense_122, n_in, dt, cond_true, n_tn, K93 (lou (wn (scO I s'))) (by omega), c_ones, sg_Mo_dense_126]
    cases decide (what = 0) <;> cases decide (what = 1) <;> cases decide (what = 2) <;> cases decide (what = 3) <;> cases decide (what = 4) <;> rfl
end
