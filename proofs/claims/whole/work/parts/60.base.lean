theorem n_tn {k : Nat} (h : k < 2147483648) : (Int32.ofNat k).toNatClampNeg = k := Int32.toNatClampNeg_ofNat_of_lt h
theorem n_ti {k : Nat} (h : k < 2147483648) : (Int32.ofNat k).toInt = k := Int32.toInt_ofNat_of_lt h
theorem n_lt {a b : Nat} (ha : a < 2147483648) (hb : b < 2147483648) : (Int32.ofNat a < Int32.ofNat b) ↔ a < b := Int32.ofNat_lt_iff_lt ha hb
theorem n_le {a b : Nat} (ha : a < 2147483648) (hb : b < 2147483648) : (Int32.ofNat a ≤ Int32.ofNat b) ↔ a ≤ b := Int32.ofNat_le_iff_le ha hb
theorem n_eq {a b : Nat} (ha : a < 2147483648) (hb : b < 2147483648) : (Int32.ofNat a = Int32.ofNat b) ↔ a = b :=
  ⟨fun h => by have := congrArg Int32.toNatClampNeg h; rwa [n_tn ha, n_tn hb] at this, fun h => h ▸ rfl⟩
theorem n_dlt {a b : Nat} (ha : a < 2147483648) (hb : b < 2147483648) : decide (Int32.ofNat a < Int32.ofNat b) = decide (a < b) := decide_eq_decide.mpr (n_lt ha hb)
theorem n_dle {a b : Nat} (ha : a < 2147483648) (hb : b < 2147483648) : decide (Int32.ofNat a ≤ Int32.ofNat b) = decide (a ≤ b) := decide_eq_decide.mpr (n_le ha hb)
theorem n_deq {a b : Nat} (ha : a < 2147483648) (hb : b < 2147483648) : decide (Int32.ofNat a = Int32.ofNat b) = decide (a = b) := decide_eq_decide.mpr (n_eq ha hb)
theorem n_in {k n : Nat} (h : k < 2147483648) : pm_in (Int32.ofNat k) n = decide (k < n) := by
  have h0 : decide ((0 : Int32) ≤ Int32.ofNat k) = true := decide_eq_true ((n_le (by decide) h).mpr (Nat.zero_le k))
  rw [pm_in, h0, n_tn h, Bool.true_and]
theorem n_s (k : Nat) : Int32.ofNat k + 1 = Int32.ofNat (k + 1) := (Int32.ofNat_add k 1).symm
theorem n_add (a b : Nat) : Int32.ofNat a + Int32.ofNat b = Int32.ofNat (a + b) := (Int32.ofNat_add a b).symm
theorem Cl_s (X : Nat × (Nat → Int32)) (d m : Nat) (as : List pm_V) (V : pm_M) : Cl X (d + 1) m as V = cond (Nat.ble (pm_wd as) (pm_mx m)) (Rn X d (pm_co m) (0, pm_ent (pm_mx m) as, [], V)) none := pm_Cal_succ _ _ _ d m as V
/-- loops: an invariant carries -/
theorem lp {σ ρ : Type} (n : Nat) (F : Nat → σ → ρ) (Q : Nat → σ → Prop) (hs : ∀ k s, k < n → Q k s → ∃ s', F k s = F (k + 1) s' ∧ Q (k + 1) s') : ∀ (j : Nat) (s : σ), j ≤ n → Q j s → ∃ s', F j s = F n s' ∧ Q n s' := by
  intro j s hj hq
  obtain ⟨i, hi⟩ := Nat.le.dest hj
  clear hj
  induction i generalizing j s with
  | zero => exact ⟨s, by have : j = n := by omega
                         subst this; exact ⟨rfl, hq⟩⟩
  | succ i ih =>
    obtain ⟨s1, e1, q1⟩ := hs j s (by omega) hq
    obtain ⟨s2, e2, q2⟩ := ih (j + 1) s1 q1 (by omega)
    exact ⟨s2, e1.trans e2, q2⟩
/-- loops as folds -/
def fo {σ : Type} (f : Nat → σ → σ) : Nat → σ → σ
  | 0, s => s
  | n + 1, s => f n (fo f n s)
theorem lf {σ ρ : Type} (n : Nat) (F : Nat → σ → ρ) (f : Nat → σ → σ) (hs : ∀ k s, k < n → F k s = F (k + 1) (f k s)) (s : σ) : F 0 s = F n (fo f n s) := by
  suffices h : ∀ j, j ≤ n → F 0 s = F j (fo f j s) from h n (Nat.le_refl n)
  intro j
  induction j with
  | zero => intro _; rfl
  | succ j ih => intro hj; rw [ih (by omega), hs j _ (by omega)]; rfl
/-- the reference's small ones -/
theorem c_in (X : Nat × (Nat → Int32)) (d : Nat) (x y z : Int32) (al : List Nat) (D : Nat → Bool) (I : Nat → Nat → Int32) (L : Nat → Nat → Int64) : Cl X (d + 1) 165 [vi x, vi y, vi z] (pm_mm al D I L) = some (some (vi (if y ≤ x ∧ x ≤ z then 1 else 0)), pm_mm al D I L) := by
  rw [Cl_s]
  show Rn X d co_Mo_in (0, [some (vi x), some (vi y), some (vi z)], [], pm_mm al D I L) = _
  rw [sg_Mo_in_0]
  by_cases h1 : x < y
  · have h2 : ¬ (y ≤ x ∧ x ≤ z) := fun h => Int32.not_lt.mpr h.1 h1
    rw [decide_eq_true h1, cond_true, sg_Mo_in_14, sg_Mo_in_15, if_neg h2]; rfl
  · by_cases h3 : z < x
    · have h2 : ¬ (y ≤ x ∧ x ≤ z) := fun h => Int32.not_lt.mpr h.2 h3
      rw [decide_eq_false h1, cond_false, decide_eq_true h3, cond_true, sg_Mo_in_14, sg_Mo_in_15, if_neg h2]; rfl
    · rw [decide_eq_false h1, cond_false, decide_eq_false h3, cond_false, sg_Mo_in_15, if_pos ⟨Int32.not_lt.mp h1, Int32.not_lt.mp h3⟩]; rfl
/-- bits: a set has k -/
def hs (x k : Int32) : Bool := decide ((x >>> (k &&& 31)) &&& 1 = 1)
def b01 (b : Bool) : Int32 := cond b 1 0
theorem b01_ne (b : Bool) : decide (b01 b = 0) = !b := by cases b <;> rfl
theorem p01 (b : Bool) : pm_01 (b01 b) = true := by cases b <;> rfl
theorem c_has (X : Nat × (Nat → Int32)) (d : Nat) (x y : Int32) (al : List Nat) (D : Nat → Bool) (I : Nat → Nat → Int32) (L : Nat → Nat → Int64) : Cl X (d + 1) 166 [vi x, vi y] (pm_mm al D I L) = some (some (vi (b01 (hs x y))), pm_mm al D I L) := by
  rw [Cl_s]
  show Rn X d co_Mo_has (0, [some (vi x), some (vi y)], [], pm_mm al D I L) = _
  rw [sg_Mo_has_0]
  show cond (hs x y) _ _ = _
  cases hs x y <;> (simp only [cond_true, cond_false, sg_Mo_has_14]; rfl)
theorem c_greater (X : Nat × (Nat → Int32)) (d : Nat) (x y : Int32) (al : List Nat) (D : Nat → Bool) (I : Nat → Nat → Int32) (L : Nat → Nat → Int64) : Cl X (d + 1) 167 [vi x, vi y] (pm_mm al D I L) = some (some (vi (if y < x then x else y)), pm_mm al D I L) := by
  rw [Cl_s]
  show Rn X d co_Mo_greater (0, [some (vi x), some (vi y)], [], pm_mm al D I L) = _
  rw [sg_Mo_greater_0]
  by_cases h : y < x
  · have h2 : ¬ x ≤ y := Int32.not_le.mpr h
    simp only [h, h2, decide_true, decide_false, cond_true, cond_false, sg_Mo_greater_10, if_true]
  · have h2 : x ≤ y := Int32.not_lt.mp h
    simp only [h, h2, decide_true, decide_false, cond_true, cond_false, sg_Mo_greater_10, if_false]
/-- how many of twelve -/
def on1 (x : Int32) (k : Nat) (n : Int32) : Int32 := n + b01 (hs x (Int32.ofNat k))
def on (x : Int32) : Int32 := fo (on1 x) 12 0
theorem c_ones (X : Nat × (Nat → Int32)) (d : Nat) (x : Int32) (al : List Nat) (D : Nat → Bool) (I : Nat → Nat → Int32) (L : Nat → Nat → Int64) : Cl X (d + 2) 169 [vi x] (pm_mm al D I L) = some (some (vi (on x)), pm_mm al D I L) := by
  rw [Cl_s]
  show Rn X (d + 1) co_Mo_ones (0, [some (vi x), none, none], [], pm_mm al D I L) = _
  rw [sg_Mo_ones_0]
  have h := lf 12 (fun k n => Rn X (d + 1) co_Mo_ones (4, [some (vi x), some (vi n), some (vi (Int32.ofNat k))], [], pm_mm al D I L)) (on1 x) (fun k n hk => by
    show Rn X (d + 1) co_Mo_ones (4, [some (vi x), some (vi n), some (vi (Int32.ofNat k))], [], pm_mm al D I L) = Rn X (d + 1) co_Mo_ones (4, [some (vi x), some (vi (on1 x k n)), some (vi (Int32.ofNat (k + 1)))], [], pm_mm al D I L)
    have h0 : decide ((12 : Int32) ≤ Int32.ofNat k) = false := (n_dle (a := 12) (by decide) (by omega)).trans (decide_eq_false (by omega))
    rw [sg_Mo_ones_4, h0, cond_false, c_has]
    simp only [Option.bind_some, pm_ai, sg_Mo_ones_16, b01_ne, sg_Mo_ones_24, n_s, on1]
    cases hs x (Int32.ofNat k) <;> rfl) 0
  exact h.trans (by rw [sg_Mo_ones_4]; rfl)
section
variable {X : Nat × (Nat → Int32)} {d : Nat} {al : List Nat} {D : Nat → Bool} {I : Nat → Nat → Int32} {L : Nat → Nat → Int64}
def mn (x y : Int32) : Int32 := if x < y then x else y
theorem c_lesser (x y : Int32) : Cl X (d + 1) 168 [vi x, vi y] (pm_mm al D I L) = some (some (vi (mn x y)), pm_mm al D I L) := by
  rw [Cl_s]
  show Rn X d co_Mo_lesser (0, [some (vi x), some (vi y)], [], pm_mm al D I L) = _
  rw [sg_Mo_lesser_0]
  unfold mn
  by_cases h : x < y
  · have h2 : ¬ y ≤ x := Int32.not_le.mpr h
    simp only [h, h2, decide_true, decide_false, cond_true, cond_false, sg_Mo_lesser_10, if_true]
  · have h2 : y ≤ x := Int32.not_lt.mp h
    simp only [h, h2, decide_true, decide_false, cond_true, cond_false, sg_Mo_lesser_10, if_false]
theorem c_of {b k : Nat} (hb : b < 8) (hk : k < 29) (e : I 81 23 = Int32.ofNat b) : Cl X (d + 1) 195 [vr 81, vi (Int32.ofNat k)] (pm_mm al D I L) = some (some (vi (I 87 (29 * b + k))), pm_mm al D I L) := by
  rw [Cl_s]
  show Rn X d co_Mo_of (0, [some (vr 81), some (vi (Int32.ofNat k))], [], pm_mm al D I L) = _
  have h : (29 : Int32) * I 81 23 + Int32.ofNat k = Int32.ofNat (29 * b + k) := by
    rw [e, Int32.ofNat_add, Int32.ofNat_mul]; rfl
  rw [sg_Mo_of_0, h, n_in (by omega), n_tn (by omega), decide_eq_true (by omega), cond_true]
/-- one pipe draws: left, sounds, silent, stolen -/
def dr1 (w f br : Int32) (dw : Int32 → Int32) (rw : Nat → Int32) (i : Nat) (s : Int32 × Int32 × Int32 × Int32) : Int32 × Int32 × Int32 × Int32 :=
  if (!hs w (rw i)) || hs f (rw i) then s
  else if dw (rw i) ≤ s.1 then (s.1 - dw (rw i), s.2.1 ||| (1 <<< (rw i &&& 31)), s.2.2.1, s.2.2.2)
  else (s.1, s.2.1, s.2.2.1 ||| (1 <<< (rw i &&& 31)), s.2.2.2 ||| (if dw (rw i) ≤ br then 1 <<< (rw i &&& 31) else 0))
def dr (w f br : Int32) (dw : Int32 → Int32) (rw : Nat → Int32) (n : Nat) : Int32 × Int32 × Int32 × Int32 := fo (dr1 w f br dw rw) n (br, 0, 0, 0)
def nf3 (I : Nat → Nat → Int32) (t : Nat) (a b c : Int32) : Nat → Nat → Int32 := pm_up (pm_up (pm_up I 97 t a) 98 t b) 99 t c
theorem nf3_a (I : Nat → Nat → Int32) (t : Nat) (a b c x : Int32) : pm_up (nf3 I t a b c) 97 t x = nf3 I t x b c := by
  funext p q; simp only [nf3, pm_up]; split <;> simp_all
theorem nf3_b (I : Nat → Nat → Int32) (t : Nat) (a b c x : Int32) : pm_up (nf3 I t a b c) 98 t x = nf3 I t a x c := by
  funext p q; simp only [nf3, pm_up]; split <;> simp_all
theorem nf3_c (I : Nat → Nat → Int32) (t : Nat) (a b c x : Int32) : pm_up (nf3 I t a b c) 99 t x = nf3 I t a b x := by
  funext p q; simp only [nf3, pm_up]; split <;> simp_all
theorem nf3_o (I : Nat → Nat → Int32) (t : Nat) (a b c : Int32) (p q : Nat) (h : p < 97) : nf3 I t a b c p q = I p q := by
  simp only [nf3, pm_up]; rw [if_neg (by omega), if_neg (by omega), if_neg (by omega)]
theorem nf3_1 (I : Nat → Nat → Int32) (t : Nat) (a b c : Int32) : nf3 I t a b c 97 t = a := by simp [nf3, pm_up]
theorem nf3_2 (I : Nat → Nat → Int32) (t : Nat) (a b c : Int32) : nf3 I t a b c 98 t = b := by simp [nf3, pm_up]
theorem nf3_3 (I : Nat → Nat → Int32) (t : Nat) (a b c : Int32) : nf3 I t a b c 99 t = c := by simp [nf3, pm_up]
/-- the reference's draw of a pipe -/
def dwR (I : Nat → Nat → Int32) (b : Nat) (p : Int32) : Int32 := I 87 (29 * b + (5 + p.toNatClampNeg))
theorem c_draws {b n t : Nat} (br f : Int32) (hb : b < 8) (eb : I 81 23 = Int32.ofNat b) (hn : n ≤ 6) (en : I 81 25 = Int32.ofNat n) (ht : t < 12)
    (hr : ∀ i, i < n → ∃ p, p < 6 ∧ I 94 i = Int32.ofNat p) :
    Cl X (d + 2) 208 [vr 81, vi (Int32.ofNat t), vi br, vi f] (pm_mm al D I L) =
      some (some (vi (dr (I 93 t) f br (dwR I b) (I 94) n).1), pm_mm al D (nf3 I t (dr (I 93 t) f br (dwR I b) (I 94) n).2.1 (dr (I 93 t) f br (dwR I b) (I 94) n).2.2.1 (dr (I 93 t) f br (dwR I b) (I 94) n).2.2.2) L) := by
  rw [Cl_s]
  show Rn X (d + 1) co_Mo_draws (0, [some (vr 81), some (vi (Int32.ofNat t)), some (vi br), some (vi f), none, none, none, none], [], pm_mm al D I L) = _
  have hin : pm_in (Int32.ofNat t) 12 = true := (n_in (by omega)).trans (decide_eq_true ht)
  have htn : (Int32.ofNat t).toNatClampNeg = t := n_tn (by omega)
  rw [sg_Mo_draws_0]
  simp only [hin, htn, cond_true]
  have h := lp (σ := (Int32 × Int32 × Int32 × Int32) × Option pm_V × Option pm_V) n
    (fun i s => Rn X (d + 1) co_Mo_draws (27, [some (vr 81), some (vi (Int32.ofNat t)), some (vi br), some (vi f), some (vi s.1.1), some (vi (Int32.ofNat i)), s.2.1, s.2.2], [], pm_mm al D (nf3 I t s.1.2.1 s.1.2.2.1 s.1.2.2.2) L))
    (fun i s => s.1 = fo (dr1 (I 93 t) f br (dwR I b) (I 94)) i (br, 0, 0, 0))
    (fun i s hi hq => by
      obtain ⟨⟨s1, s2, s3, s4⟩, o6, o7⟩ := s
      obtain ⟨p, hp, ep⟩ := hr i hi
      refine ⟨(dr1 (I 93 t) f br (dwR I b) (I 94) i (s1, s2, s3, s4), some (vi (Int32.ofNat p)), some (vi (dwR I b (Int32.ofNat p)))), ?_, by show _ = dr1 _ _ _ _ _ i (fo _ i _); rw [← hq]⟩
      have h0 : decide (Int32.ofNat n ≤ Int32.ofNat i) = false := (n_dle (by omega) (by omega)).trans (decide_eq_false (by omega))
      have hi6 : pm_in (Int32.ofNat i) 6 = true := (n_in (by omega)).trans (decide_eq_true (by omega))
      have h5 : (5 : Int32) + Int32.ofNat p = Int32.ofNat (5 + p) := n_add 5 p
      have hofp := c_of (X := X) (d := d) (al := al) (D := D) (L := L) (I := nf3 I t s2 s3 s4) hb (k := 5 + p) (by omega) (by rw [nf3_o _ _ _ _ _ _ _ (by decide)]; exact eb)
      have hdw : dwR I b (Int32.ofNat p) = I 87 (29 * b + (5 + p)) := by rw [dwR, n_tn (by omega)]
      show Rn X (d + 1) co_Mo_draws _ = Rn X (d + 1) co_Mo_draws _
      rw [sg_Mo_draws_27]
      simp only [nf3_o I t s2 s3 s4 81 _ (by decide), nf3_o I t s2 s3 s4 94 _ (by decide), en, h0, cond_false, hi6, cond_true, n_tn (show i < 2147483648 by omega), ep, h5, hofp, Option.bind_some, pm_ai,
        sg_Mo_draws_53, hin, htn, nf3_o I t s2 s3 s4 93 _ (by decide), nf3_o I t s2 s3 s4 87 _ (by decide), c_has, sg_Mo_draws_66, b01_ne, dr1, hdw]
      cases h1 : hs (I 93 t) (Int32.ofNat p) with
      | false => simp only [Bool.not_false, cond_true, sg_Mo_draws_147, n_s, Bool.true_or, if_true]
      | true =>
        simp only [Bool.not_true, cond_false, Option.bind_some, pm_ai, c_has, sg_Mo_draws_75, b01_ne, Bool.false_or]
        cases h2 : hs f (Int32.ofNat p) with
        | true => simp only [Bool.not_true, cond_false, sg_Mo_draws_147, n_s, if_true]
        | false =>
          simp only [Bool.not_false, cond_true, hin, htn]
          by_cases h3 : s1 < I 87 (29 * b + (5 + p))
          · have h3' : ¬ I 87 (29 * b + (5 + p)) ≤ s1 := Int32.not_le.mpr h3
            by_cases h4 : br < I 87 (29 * b + (5 + p))
            · have h4' : ¬ I 87 (29 * b + (5 + p)) ≤ br := Int32.not_le.mpr h4
              simp [-Int32.ofNat_add, h3, h3', h4, h4', sg_Mo_draws_145, sg_Mo_draws_147, hin, htn, n_s, nf3_a, nf3_b, nf3_c, nf3_1, nf3_2, nf3_3]
            · have h4' : I 87 (29 * b + (5 + p)) ≤ br := Int32.not_lt.mp h4
              simp [-Int32.ofNat_add, h3, h3', h4, h4', sg_Mo_draws_145, sg_Mo_draws_147, hin, htn, n_s, nf3_a, nf3_b, nf3_c, nf3_1, nf3_2, nf3_3]
          · have h3' : I 87 (29 * b + (5 + p)) ≤ s1 := Int32.not_lt.mp h3
            simp [-Int32.ofNat_add, h3, h3', sg_Mo_draws_145, sg_Mo_draws_147, hin, htn, n_s, nf3_a, nf3_b, nf3_c, nf3_1, nf3_2, nf3_3])
    0 ((br, 0, 0, 0), none, none) (Nat.zero_le n) rfl
  obtain ⟨⟨s, o6, o7⟩, e1, e2⟩ := h
  simp only at e2
  refine Eq.trans ?_ (e1.trans ?_)
  · rfl
  · simp only [sg_Mo_draws_27, nf3_o _ _ _ _ _ 81 _ (by decide), en, Int32.le_refl, decide_true, cond_true]
    rw [e2]; rfl
end
