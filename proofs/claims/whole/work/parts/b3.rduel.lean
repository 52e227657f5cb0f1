section
variable {X : Nat × (Nat → Int32)} {d : Nat} {al : List Nat} {D : Nat → Bool} {I : Nat → Nat → Int32} {L : Nat → Nat → Int64}
abbrev DS : Type := Int32 × Int32 × Int32
def sg (t : Nat) (x : Int32) : Int32 := cond (decide (t % 2 = 0)) x (-x)
def mv (B : DB) (t v : Nat) (s : DS) : Option DS := cond (lg B s.1 s.2.1 v) (some (cond (decide (v = 6)) (mn B.1 (s.1 + B.2.1), s.2.1, s.2.2) (s.1 - B.2.2.2.1 v, s.2.1 ||| (1 <<< (Int32.ofNat v &&& 31)), s.2.2 + sg t (B.2.2.2.2 v)))) none
def pre (B : DB) : Nat → Nat → Option DS
  | 0, _ => some (B.1, 0, 0)
  | t + 1, q => (pre B t (q / 7)).bind (mv B t (q % 7))
def ev : Option DS → Int32
  | none => -9999
  | some s => s.2.2
theorem pre_none {B : DB} {t q : Nat} : ∀ k, pre B t (q / 7 ^ k) = none → pre B (t + k) q = none
  | 0, h => by rw [Nat.pow_zero, Nat.div_one] at h; exact h
  | k + 1, h => by
    have : pre B (t + k) (q / 7) = none := pre_none k (by rw [Nat.div_div_eq_div_mul, Nat.mul_comm, ← Nat.pow_succ]; exact h)
    rw [← Nat.add_assoc, pre, this]; rfl
theorem c_sevens {n : Nat} (hn : n ≤ 4) : Cl X (d + 1) 236 [vi (Int32.ofNat n)] (pm_mm al D I L) = some (some (vi (Int32.ofNat (7 ^ n))), pm_mm al D I L) := by
  rw [Cl_s]
  show Rn X d co_Mo_sevens (0, [some (vi (Int32.ofNat n)), none, none], [], pm_mm al D I L) = _
  rw [sg_Mo_sevens_0]
  have h := lf n (fun k (_ : Unit) => Rn X d co_Mo_sevens (4, [some (vi (Int32.ofNat n)), some (vi (Int32.ofNat (7 ^ k))), some (vi (Int32.ofNat k))], [], pm_mm al D I L)) (fun _ q => q) (fun k _ hk => by
    show Rn X d co_Mo_sevens _ = Rn X d co_Mo_sevens _
    rw [sg_Mo_sevens_4]
    simp (disch := omega) only [n_dle, df, cond_false, lm0, lm1, lm2, lm3, lm4, lm5, lm6, lm7, lm8, lm9, lm10, lm11, lm12, lm13, lm20, lm24, lm60, lm64, lm84, lm99, lm100, lm600, lm720, lm4096, lm1000000, n_s, Nat.pow_succ]) ()
  refine Eq.trans h ?_
  show Rn X d co_Mo_sevens _ = _
  rw [sg_Mo_sevens_4]
  simp (disch := omega) only [n_dle, dt, cond_true]
def dbR (I : Nat → Nat → Int32) (b n : Nat) : DB := (I 87 (29 * b + 1), I 87 (29 * b + 3), n, fun p => I 87 (29 * b + (5 + p)), fun p => I 87 (29 * b + (11 + p)))
theorem c_endOf {b n N q : Nat} (hb : b < 8) (eb : I 81 23 = Int32.ofNat b) (hn : n ≤ 6) (en : I 81 25 = Int32.ofNat n) (hN : N ≤ 4) (hq : q < 7 ^ N) :
    Cl X (d + 3) 237 [vr 81, vi (Int32.ofNat N), vi (Int32.ofNat q)] (pm_mm al D I L) = some (some (vi (ev (pre (dbR I b n) N q))), pm_mm al D I L) := by
  rw [Cl_s]
  show Rn X (d + 2) co_Mo_endOf (0, [some (vr 81), some (vi (Int32.ofNat N)), some (vi (Int32.ofNat q)), none, none, none, none, none, none], [], pm_mm al D I L) = _
  have hof := fun k (hk : k < 29) => c_of (X := X) (d := d + 1) (al := al) (D := D) (L := L) (I := I) hb (k := k) hk eb
  have o1 : Cl X (d + 2) 195 [vr 81, vi 1] (pm_mm al D I L) = some (some (vi (dbR I b n).1), pm_mm al D I L) := hof 1 (by omega)
  have o3 : Cl X (d + 2) 195 [vr 81, vi 3] (pm_mm al D I L) = some (some (vi (dbR I b n).2.1), pm_mm al D I L) := hof 3 (by omega)
  have h74 : ∀ k, k ≤ 4 → 7 ^ k ≤ 2401 ∧ 1 ≤ 7 ^ k := fun k hk => ⟨Nat.pow_le_pow_right (n := 7) (by decide) hk, Nat.one_le_pow k 7 (by decide)⟩
  have hq2 : q < 2401 := Nat.lt_of_lt_of_le hq (h74 N hN).1
  rw [sg_Mo_endOf_0, o1]
  simp only [Option.bind_some, pm_ai, sg_Mo_endOf_5]
  rw [c_sevens (d := d + 1) hN]
  simp only [Option.bind_some, pm_ai, sg_Mo_endOf_16]
  suffices h : ∀ k t s o8, t + k = N → pre (dbR I b n) t (q / 7 ^ k) = some s → Rn X (d + 2) co_Mo_endOf (21, [some (vr 81), some (vi (Int32.ofNat N)), some (vi (Int32.ofNat q)), some (vi s.1), some (vi s.2.1), some (vi s.2.2), some (vi (Int32.ofNat (7 ^ k))), some (vi (Int32.ofNat t)), o8], [], pm_mm al D I L) = some (some (vi (ev (pre (dbR I b n) N q))), pm_mm al D I L) from
    h N 0 ((dbR I b n).1, 0, 0) none (by omega) rfl
  intro k
  induction k with
  | zero =>
    intro t s o8 ht hs
    obtain rfl : t = N := by omega
    rw [Nat.pow_zero, Nat.div_one] at hs
    rw [sg_Mo_endOf_21, hs]
    simp (disch := omega) only [n_dle, dt, cond_true]; rfl
  | succ k ih =>
    intro t s o8 ht hs
    have hk7 := h74 k (by omega)
    have e7 : 7 ^ (k + 1) / 7 = 7 ^ k := by rw [Nat.pow_succ]; exact Nat.mul_div_cancel _ (by omega)
    have hk8 := h74 (k + 1) (by omega)
    have hdv : q / 7 ^ k ≤ q := Nat.div_le_self _ _
    have hpre : pre (dbR I b n) (t + 1) (q / 7 ^ k) = mv (dbR I b n) t (q / 7 ^ k % 7) s := by
      rw [pre, Nat.div_div_eq_div_mul, ← Nat.pow_succ, hs]; rfl
    have hvl : q / 7 ^ k % 7 < 7 := Nat.mod_lt _ (by omega)
    have x1 : Int32.ofNat (7 ^ (k + 1)) / 7 = Int32.ofNat (7 ^ k) := by
      have := n_div (a := 7 ^ (k + 1)) (b := 7) (by omega) (by omega) (by omega)
      rw [e7] at this; exact this
    have x2 : Int32.ofNat q / Int32.ofNat (7 ^ k) = Int32.ofNat (q / 7 ^ k) := n_div (by omega) (by omega) (by omega)
    have x3 : Int32.ofNat (q / 7 ^ k) - Int32.ofNat (q / 7 ^ k) / 7 * 7 = Int32.ofNat (q / 7 ^ k % 7) := n_rem (a := q / 7 ^ k) (b := 7) (by omega) (by omega) (by omega)
    have xz : decide (Int32.ofNat (7 ^ k) = (0 : Int32)) = false := (n_deq (b := 0) (by omega) (by omega)).trans (df (by omega))
    rw [sg_Mo_endOf_21, n_dle (by omega) (by omega), df (show ¬ N ≤ t by omega), cond_false, x1, x2, x3, xz, Bool.not_false, cond_true]
    generalize hv : q / 7 ^ k % 7 = v at hpre hvl
    have fail : mv (dbR I b n) t v s = none → ev (pre (dbR I b n) N q) = -9999 := fun hm => by
      have : pre (dbR I b n) (t + 1 + k) q = none := pre_none k (hpre.trans hm)
      rw [show N = t + 1 + k by omega, this]; rfl
    have wrong : mv (dbR I b n) t v s = none → Rn X (d + 2) co_Mo_endOf (100, [some (vr 81), some (vi (Int32.ofNat N)), some (vi (Int32.ofNat q)), some (vi s.1), some (vi s.2.1), some (vi s.2.2), some (vi (Int32.ofNat (7 ^ k))), some (vi (Int32.ofNat t)), some (vi (Int32.ofNat v))], [], pm_mm al D I L) = some (some (vi (ev (pre (dbR I b n) N q))), pm_mm al D I L) := fun hm => by
      rw [sg_Mo_endOf_100, fail hm]
    by_cases h6 : v = 6
    · subst h6
      have hm : mv (dbR I b n) t 6 s = some (mn (dbR I b n).1 (s.1 + (dbR I b n).2.1), s.2.1, s.2.2) := rfl
      rw [show decide (Int32.ofNat 6 = 6) = true from rfl, cond_true, o1]
      simp only [Option.bind_some, pm_ai, sg_Mo_endOf_55]
      rw [o3]
      simp only [Option.bind_some, pm_ai, sg_Mo_endOf_61, c_lesser, sg_Mo_endOf_65, sg_Mo_endOf_158, n_s]
      exact ih (t + 1) _ _ (by omega) (hpre.trans hm)
    · have hd6 : decide (Int32.ofNat v = 6) = false := (n_deq (b := 6) (by omega) (by omega)).trans (df h6)
      have hlg : lg (dbR I b n) s.1 s.2.1 v = (decide (v < n) && (!tb s.2.1 v && decide ((dbR I b n).2.2.2.1 v ≤ s.1))) := by rw [lg, df h6, Bool.false_or]; rfl
      rw [hd6, cond_false, en, n_dle (by omega) (by omega)]
      by_cases hvn : v < n
      · rw [df (show ¬ n ≤ v by omega), cond_false, c_has, hs_tb _ (by omega)]
        rw [dt hvn, Bool.true_and] at hlg
        have o5 : Cl X (d + 2) 195 [vr 81, vi (5 + Int32.ofNat v)] (pm_mm al D I L) = some (some (vi ((dbR I b n).2.2.2.1 v)), pm_mm al D I L) := by
          rw [show (5 : Int32) + Int32.ofNat v = Int32.ofNat (5 + v) from n_add 5 v]; exact hof (5 + v) (by omega)
        have o11 : Cl X (d + 2) 195 [vr 81, vi (11 + Int32.ofNat v)] (pm_mm al D I L) = some (some (vi ((dbR I b n).2.2.2.2 v)), pm_mm al D I L) := by
          rw [show (11 : Int32) + Int32.ofNat v = Int32.ofNat (11 + v) from n_add 11 v]; exact hof (11 + v) (by omega)
        simp only [Option.bind_some, pm_ai, sg_Mo_endOf_85, b01_ne, o5, sg_Mo_endOf_97]
        cases hbit : tb s.2.1 v with
        | true =>
          rw [hbit] at hlg
          exact wrong (by rw [mv, hlg]; rfl)
        | false =>
          rw [hbit, Bool.not_false, Bool.true_and] at hlg
          simp only [Bool.not_false, cond_true]
          cases hdw : decide ((dbR I b n).2.2.2.1 v ≤ s.1) with
          | false =>
            rw [hdw] at hlg
            exact wrong (by rw [mv, hlg]; rfl)
          | true =>
            rw [hdw] at hlg
            have hm : mv (dbR I b n) t v s = some (s.1 - (dbR I b n).2.2.2.1 v, s.2.1 ||| (1 <<< (Int32.ofNat v &&& 31)), s.2.2 + sg t ((dbR I b n).2.2.2.2 v)) := by rw [mv, hlg, df h6]; rfl
            have x4 : Int32.ofNat t - Int32.ofNat t / 2 * 2 = Int32.ofNat (t % 2) := n_rem (a := t) (b := 2) (by omega) (by omega) (by omega)
            have x5 : decide (Int32.ofNat (t % 2) = 0) = decide (t % 2 = 0) := n_deq (b := 0) (by omega) (by omega)
            simp only [cond_true, sg_Mo_endOf_122, x4, x5, o11, Option.bind_some, pm_ai, sg_Mo_endOf_142, sg_Mo_endOf_154, sg_Mo_endOf_155, sg_Mo_endOf_158, n_s]
            have ih' := ih (t + 1) _ (some (vi (Int32.ofNat v))) (by omega) (hpre.trans hm)
            simp only [sg] at ih'
            cases h2 : decide (t % 2 = 0) with
            | true => rw [h2] at ih'; exact ih'
            | false => rw [h2] at ih'; exact ih'
      · rw [dt (show n ≤ v by omega), cond_true]
        refine wrong ?_
        rw [mv, hlg, df hvn]; rfl
/-- the best of seven -/
def rf1 (most : Bool) (x : Nat → Int32) (v : Nat) (s : Int32 × Int32) : Int32 × Int32 := cond (decide (x v = -9999)) s (cond (decide (s.1 = -9999)) (x v, Int32.ofNat v) (cond most (cond (decide (x v ≤ s.1)) s (x v, Int32.ofNat v)) (cond (decide (s.1 ≤ x v)) s (x v, Int32.ofNat v))))
def rfo (most : Bool) (x : Nat → Int32) : Int32 × Int32 := fo (rf1 most x) 7 (-9999, -1)
theorem up_up {α : Type} {f : Nat → Nat → α} {a j : Nat} {x y : α} : pm_up (pm_up f a j x) a j y = pm_up f a j y := by
  funext b k; rw [pm_up, pm_up, pm_up]; split <;> rfl
theorem c_fold {at' : Nat} (most : Bool) (ha : at' + 7 ≤ 2401) : Cl X (d + 1) 238 [vr 81, vi (Int32.ofNat at'), vi (b01 most)] (pm_mm al D I L) = some (some (vi (rfo most (fun v => I 105 (at' + v))).1), pm_mm al D (pm_up I 81 48 (rfo most (fun v => I 105 (at' + v))).2) L) := by
  rw [Cl_s]
  show Rn X d co_Mo_fold (0, [some (vr 81), some (vi (Int32.ofNat at')), some (vi (b01 most)), none, none, none], [], pm_mm al D I L) = _
  rw [sg_Mo_fold_0]
  obtain ⟨⟨q, o⟩, e1, e2⟩ := lp (σ := (Int32 × Int32) × Option pm_V) 7 (fun v s => Rn X d co_Mo_fold (12, [some (vr 81), some (vi (Int32.ofNat at')), some (vi (b01 most)), some (vi s.1.1), some (vi (Int32.ofNat v)), s.2], [], pm_mm al D (pm_up I 81 48 s.1.2) L)) (fun v s => s.1 = fo (rf1 most (fun v => I 105 (at' + v))) v (-9999, -1)) (fun v s hv hq => by
    obtain ⟨⟨a, w⟩, o⟩ := s
    simp only at hq
    refine ⟨(rf1 most (fun v => I 105 (at' + v)) v (a, w), some (vi (I 105 (at' + v)))), ?_, by show _ = rf1 _ _ v (fo _ v _); rw [← hq]⟩
    show Rn X d co_Mo_fold _ = Rn X d co_Mo_fold _
    have u105 : ∀ x j, pm_up I 81 48 x 105 j = I 105 j := fun x j => up_ne (by omega)
    rw [sg_Mo_fold_12]
    simp (disch := omega) only [a0, a1, a2, a3, a4, a5, a6, a7, a8, a9, a10, a11, a12, a13, a20, a24, a60, a64, a84, a99, a100, a600, a720, a4096, a1000000, df, cond_false, n_add, n_in, dt, cond_true, n_tn, u105, sg_Mo_fold_64, sg_Mo_fold_73, up_up, b01_ne, n_s, rf1]
    cases decide (I 105 (at' + v) = -9999) with
    | true => rfl
    | false =>
      cases decide (a = -9999) with
      | true => rfl
      | false =>
        cases most with
        | true => cases decide (I 105 (at' + v) ≤ a) <;> rfl
        | false => cases decide (a ≤ I 105 (at' + v)) <;> rfl) 0 ((-9999, -1), none) (by omega) rfl
  simp only at e2
  refine Eq.trans e1 ?_
  show Rn X d co_Mo_fold _ = _
  rw [sg_Mo_fold_12, show decide ((7 : Int32) ≤ Int32.ofNat 7) = true from rfl, cond_true, e2]; rfl
theorem rf_spec {most : Bool} {x : Nat → Int32} {l : Nat → Bool} {y : Nat → Int32} (hx : ∀ v, v < 7 → x v = cond (l v) (y v) (-9999)) (hy : ∀ v, v < 7 → l v = true → -100 ≤ (y v).toInt ∧ (y v).toInt ≤ 100) :
    ∀ k, k ≤ 7 → ((∀ v, v < k → l v = false) ∧ fo (rf1 most x) k (-9999, -1) = (-9999, -1)) ∨ (∃ u, u < k ∧ l u = true ∧ fo (rf1 most x) k (-9999, -1) = (y u, Int32.ofNat u) ∧ (∀ v, v < k → l v = true → cond most ((y v).toInt ≤ (y u).toInt) ((y u).toInt ≤ (y v).toInt)) ∧ ∀ v, v < u → l v = true → cond most ((y v).toInt < (y u).toInt) ((y u).toInt < (y v).toInt))
  | 0, _ => Or.inl ⟨fun v h => absurd h (Nat.not_lt_zero v), rfl⟩
  | k + 1, hk => by
    have ih := rf_spec (most := most) hx hy k (by omega)
    rw [fo]
    have hxk := hx k (by omega)
    have e9 : (-9999 : Int32).toInt = -9999 := rfl
    cases hl : l k with
    | false =>
      rw [hl, cond_false] at hxk
      have hst : ∀ s, rf1 most x k s = s := fun s => by rw [rf1, hxk, dt rfl, cond_true]
      rw [hst]
      rcases ih with ⟨h1, h2⟩ | ⟨u, hu, hlu, e, h3, h4⟩
      · left
        refine ⟨fun v hv => ?_, h2⟩
        by_cases hvk : v = k
        · subst hvk; exact hl
        · exact h1 v (by omega)
      · right
        refine ⟨u, by omega, hlu, e, fun v hv hlv => ?_, h4⟩
        by_cases hvk : v = k
        · subst hvk; rw [hl] at hlv; cases hlv
        · exact h3 v (by omega) hlv
    | true =>
      rw [hl, cond_true] at hxk
      have hyk := hy k (by omega) hl
      have hne : ¬ y k = -9999 := fun c => by rw [c, e9] at hyk; omega
      right
      rcases ih with ⟨h1, h2⟩ | ⟨u, hu, hlu, e, h3, h4⟩
      · refine ⟨k, by omega, hl, ?_, fun v hv hlv => ?_, fun v hv hlv => ?_⟩
        · rw [h2, rf1, hxk, df hne, cond_false, dt rfl, cond_true]
        · have hvk : v = k := by
            by_cases hvk : v = k
            · exact hvk
            · have := h1 v (by omega); rw [this] at hlv; cases hlv
          subst hvk; cases most <;> exact Int.le_refl _
        · have := h1 v hv; rw [this] at hlv; cases hlv
      · have hyu := hy u (by omega) hlu
        have hneu : ¬ y u = -9999 := fun c => by rw [c, e9] at hyu; omega
        rw [e, rf1, hxk, df hne, cond_false, df hneu, cond_false]
        cases most with
        | true =>
          simp only [cond_true]
          by_cases hc : y k ≤ y u
          · rw [dt hc, cond_true]
            refine ⟨u, by omega, hlu, rfl, fun v hv hlv => ?_, fun v hv hlv => h4 v hv hlv⟩
            by_cases hvk : v = k
            · subst hvk; exact t_le.mp hc
            · exact h3 v (by omega) hlv
          · rw [df hc, cond_false]
            have hc' : ¬ (y k).toInt ≤ (y u).toInt := fun q => hc (t_le.mpr q)
            refine ⟨k, by omega, hl, rfl, fun v hv hlv => ?_, fun v hv hlv => ?_⟩
            · by_cases hvk : v = k
              · subst hvk; exact Int.le_refl _
              · have h3v : (y v).toInt ≤ (y u).toInt := h3 v (by omega) hlv
                omega
            · have h3v : (y v).toInt ≤ (y u).toInt := h3 v (by omega) hlv
              omega
        | false =>
          simp only [cond_false]
          by_cases hc : y u ≤ y k
          · rw [dt hc, cond_true]
            refine ⟨u, by omega, hlu, rfl, fun v hv hlv => ?_, fun v hv hlv => h4 v hv hlv⟩
            by_cases hvk : v = k
            · subst hvk; exact t_le.mp hc
            · exact h3 v (by omega) hlv
          · rw [df hc, cond_false]
            have hc' : ¬ (y u).toInt ≤ (y k).toInt := fun q => hc (t_le.mpr q)
            refine ⟨k, by omega, hl, rfl, fun v hv hlv => ?_, fun v hv hlv => ?_⟩
            · by_cases hvk : v = k
              · subst hvk; exact Int.le_refl _
              · have h3v : (y u).toInt ≤ (y v).toInt := h3 v (by omega) hlv
                omega
            · have h3v : (y u).toInt ≤ (y v).toInt := h3 v (by omega) hlv
              omega
end
