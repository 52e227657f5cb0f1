section
variable {X : Nat × (Nat → Int32)} {d : Nat} {al : List Nat} {D : Nat → Bool} {I : Nat → Nat → Int32} {L : Nat → Nat → Int64}
/-- the greatest of n -/
def mxs (f : Nat → Nat) (n : Nat) : Nat := fo (fun c a => max a (f c)) n 0
theorem mxs_s (f : Nat → Nat) (n : Nat) : mxs f (n + 1) = max (mxs f n) (f n) := rfl
theorem mxs_le {f : Nat → Nat} {b : Nat} (h : ∀ c, f c ≤ b) : ∀ n, mxs f n ≤ b
  | 0 => Nat.zero_le _
  | n + 1 => by rw [mxs_s]; exact Nat.max_le.mpr ⟨mxs_le h n, h n⟩
theorem mxs_ge {f : Nat → Nat} {c : Nat} : ∀ n, c < n → f c ≤ mxs f n
  | 0, h => absurd h (Nat.not_lt_zero c)
  | n + 1, h => by
    rw [mxs_s]
    by_cases e : c = n
    · subst e; exact Nat.le_max_right _ _
    · exact Nat.le_trans (mxs_ge n (by omega)) (Nat.le_max_left _ _)
theorem gt_n {x y : Nat} (hx : x < 2147483648) (hy : y < 2147483648) : (if Int32.ofNat y < Int32.ofNat x then Int32.ofNat x else Int32.ofNat y) = Int32.ofNat (max x y) := by
  by_cases h : y < x
  · rw [if_pos ((n_lt hy hx).mpr h), Nat.max_eq_left (by omega)]
  · rw [if_neg (fun c => h ((n_lt hy hx).mp c)), Nat.max_eq_right (by omega)]
/-- the beat that divides best -/
def nxF (f : Nat → Nat) : Nat → Int32 × Nat
  | 0 => (-1, 1000000)
  | t + 1 => (cond (decide (f t < (nxF f t).2)) (Int32.ofNat t) (nxF f t).1, min (nxF f t).2 (f t))
theorem nxF_le (f : Nat → Nat) : ∀ t, (nxF f t).2 ≤ 1000000
  | 0 => Nat.le_refl _
  | t + 1 => Nat.le_trans (Nat.min_le_left _ _) (nxF_le f t)
theorem fS_le (h : Nat → Bool) (S : Nat → Nat → Nat) (t c n : Nat) : fS h S t c n ≤ 1 * n := su_bd (fun k => by cases h k && decide (S k t = c) <;> simp) n
theorem c_next {N : Nat} {f : Nat → Nat → Nat} (hN : N ≤ 4096) (hf : ∀ t c, f t c ≤ 4096) (e52 : I 81 52 = Int32.ofNat N) (e109 : ∀ t c, t < 12 → c < 7 → I 109 (7 * t + c) = Int32.ofNat (f t c)) : Cl X (d + 2) 249 [vr 81] (pm_mm al D I L) = some (some (vi (cond (decide (N = 0)) (-1) (nxF (fun t => mxs (f t) 7) 12).1)), pm_mm al D I L) := by
  rw [Cl_s]
  show Rn X (d + 1) co_Mo_next (0, [some (vr 81), none, none, none, none, none], [], pm_mm al D I L) = _
  rw [sg_Mo_next_0]
  by_cases hz : N = 0
  · rw [sg_Mo_next_8, e52, hz, show decide ((12 : Int32) ≤ 0) = false from rfl, cond_false, show decide (Int32.ofNat 0 ≤ 0) = true from rfl, cond_true, sg_Mo_next_84, dt rfl, cond_true]
  · obtain ⟨⟨o4, o5⟩, h, _⟩ := lp (σ := Option pm_V × Option pm_V) 12 (fun t q => Rn X (d + 1) co_Mo_next (8, [some (vr 81), some (vi (nxF (fun t => mxs (f t) 7) t).1), some (vi (Int32.ofNat (nxF (fun t => mxs (f t) 7) t).2)), some (vi (Int32.ofNat t)), q.1, q.2], [], pm_mm al D I L)) (fun _ _ => True) (fun t q ht _ => by
      obtain ⟨o4, o5⟩ := q
      refine ⟨(some (vi (Int32.ofNat (mxs (f t) 7))), some (vi (Int32.ofNat 7))), ?_, trivial⟩
      show Rn X (d + 1) co_Mo_next _ = Rn X (d + 1) co_Mo_next _
      have hm := mxs_le (hf t) 7
      have hl := nxF_le (fun t => mxs (f t) 7) t
      have i := lf (σ := Unit) 7 (fun c _ => Rn X (d + 1) co_Mo_next (27, [some (vr 81), some (vi (nxF (fun t => mxs (f t) 7) t).1), some (vi (Int32.ofNat (nxF (fun t => mxs (f t) 7) t).2)), some (vi (Int32.ofNat t)), some (vi (Int32.ofNat (mxs (f t) c))), some (vi (Int32.ofNat c))], [], pm_mm al D I L)) (fun _ q => q) (fun c _ hc => by
        show Rn X (d + 1) co_Mo_next _ = Rn X (d + 1) co_Mo_next _
        have h1 := mxs_le (hf t) c
        have h2 := hf t c
        have h7 : (7 : Int32) * Int32.ofNat t = Int32.ofNat (7 * t) := n_mul 7 t
        rw [sg_Mo_next_27, show decide ((7 : Int32) ≤ Int32.ofNat c) = false from (n_dle (a := 7) (by omega) (by omega)).trans (df (by omega)), cond_false, h7, n_add (7 * t) c, n_in (by omega), dt (by omega), cond_true, n_tn (by omega), e109 t c ht hc, c_greater, gt_n (by omega) (by omega)]
        simp only [Option.bind_some, pm_ai]
        rw [sg_Mo_next_51, n_s, mxs_s]) ()
      have i : Rn X (d + 1) co_Mo_next (27, [some (vr 81), some (vi (nxF (fun t => mxs (f t) 7) t).1), some (vi (Int32.ofNat (nxF (fun t => mxs (f t) 7) t).2)), some (vi (Int32.ofNat t)), some (vi 0), some (vi 0)], [], pm_mm al D I L) = Rn X (d + 1) co_Mo_next (27, [some (vr 81), some (vi (nxF (fun t => mxs (f t) 7) t).1), some (vi (Int32.ofNat (nxF (fun t => mxs (f t) 7) t).2)), some (vi (Int32.ofNat t)), some (vi (Int32.ofNat (mxs (f t) 7))), some (vi (Int32.ofNat 7))], [], pm_mm al D I L) := i
      rw [sg_Mo_next_8, e52, show decide ((12 : Int32) ≤ Int32.ofNat t) = false from (n_dle (a := 12) (by omega) (by omega)).trans (df (by omega)), cond_false, show decide (Int32.ofNat N ≤ 0) = false from (n_dle (b := 0) (by omega) (by omega)).trans (df (by omega)), cond_false, i, sg_Mo_next_27, show decide ((7 : Int32) ≤ Int32.ofNat 7) = true from rfl, cond_true, n_dle (by omega) (by omega), sg_Mo_next_70, sg_Mo_next_70, c_lesser, mn_n (by omega) (by omega)]
      simp only [Option.bind_some, pm_ai]
      rw [sg_Mo_next_77, sg_Mo_next_77, n_s]
      have hs : nxF (fun t => mxs (f t) 7) (t + 1) = (cond (decide (mxs (f t) 7 < (nxF (fun t => mxs (f t) 7) t).2)) (Int32.ofNat t) (nxF (fun t => mxs (f t) 7) t).1, min (nxF (fun t => mxs (f t) 7) t).2 (mxs (f t) 7)) := rfl
      rw [hs]
      generalize nxF (fun t => mxs (f t) 7) t = q
      generalize mxs (f t) 7 = y
      by_cases c : q.2 ≤ y
      · rw [dt c, df (by omega), cond_true, cond_false]
      · rw [df c, dt (by omega), cond_false, cond_true]) 0 (none, none) (Nat.zero_le _) trivial
    refine Eq.trans h ?_
    rw [sg_Mo_next_8, show decide ((12 : Int32) ≤ Int32.ofNat 12) = true from rfl, cond_true, sg_Mo_next_84, df hz, cond_false]
/-- the set that has k that fit ahead of it, and fits -/
def kt (h : Nat → Bool) (k : Nat) : Nat → Nat → Int32
  | 0, _ => -2
  | r + 1, x => cond (h x && decide (fN h x = k)) (Int32.ofNat x) (kt h k r (x + 1))
theorem c_kth {k : Nat} {H : Nat → Bool} (hk : k < 2147483648) (e : ∀ x, x < 4096 → I 108 x = b01 (H x)) : Cl X (d + 1) 250 [vr 81, vi (Int32.ofNat k)] (pm_mm al D I L) = some (some (vi (kt H k 4096 0)), pm_mm al D I L) := by
  rw [Cl_s]
  show Rn X d co_Mo_kth (0, [some (vr 81), some (vi (Int32.ofNat k)), none, none], [], pm_mm al D I L) = _
  rw [sg_Mo_kth_0]
  suffices h : ∀ r x, x + r = 4096 → Rn X d co_Mo_kth (4, [some (vr 81), some (vi (Int32.ofNat k)), some (vi (Int32.ofNat (fN H x))), some (vi (Int32.ofNat x))], [], pm_mm al D I L) = some (some (vi (kt H k r x)), pm_mm al D I L) by
    have h0 := h 4096 0 rfl
    rw [show fN H 0 = 0 by rw [fN, su]] at h0
    exact h0
  intro r
  induction r with
  | zero =>
    intro x hx
    rw [show x = 4096 by omega, sg_Mo_kth_4, show decide ((4096 : Int32) ≤ Int32.ofNat 4096) = true from rfl, cond_true, kt]
  | succ r ih =>
    intro x hx
    have hN := fN_le H x
    have ihx := ih (x + 1) (by omega)
    rw [fN_s] at ihx
    rw [sg_Mo_kth_4, show decide ((4096 : Int32) ≤ Int32.ofNat x) = false from (n_dle (a := 4096) (by omega) (by omega)).trans (df (by omega)), cond_false, n_in (by omega), dt (by omega), cond_true, n_tn (by omega), e x (by omega), b01_ne, n_deq (by omega) hk, sg_Mo_kth_30, sg_Mo_kth_30, n_s, n_s, kt]
    cases hH : H x with
    | false =>
      rw [hH] at ihx
      rw [Bool.not_false, cond_true, Bool.false_and, cond_false]; exact ihx
    | true =>
      rw [hH] at ihx
      rw [Bool.not_true, cond_false, Bool.true_and]
      cases decide (fN H x = k) with
      | true => rw [cond_true, cond_true]
      | false => rw [cond_false, cond_false]; exact ihx
def ft2 (what : Int32) (N : Nat) (U X K : Int32) : Int32 := cond (decide (what < 10)) (cond (decide (what = 0)) (Int32.ofNat N) (cond (decide (what = 1)) (cond (decide (N = 0)) (-1) U) (cond (decide (what = 2)) X (-2)))) K
def ftH (h : Nat → Bool) (S : Nat → Nat → Nat) (what : Int32) : Int32 := ft2 what (fN h 4096) (fU h 4096) (cond (decide (fN h 4096 = 0)) (-1) (nxF (fun t => mxs (fun c => fS h S t c 4096) 7) 12).1) (kt h (what - 10).toNatClampNeg 4096 0)
def vFits (I : Nat → Nat → Int32) (m : Nat → Nat) (b s l what : Int32) : Int32 := cond (okL m b s l) (ftH (lgH I b.toNatClampNeg s.toNatClampNeg l.toNatClampNeg) (lgW I b.toNatClampNeg s.toNatClampNeg) what) (-2)
theorem ge10 {what : Int32} (h : ¬ what < 10) : what - 10 = Int32.ofNat (what - 10).toNatClampNeg ∧ (what - 10).toNatClampNeg < 2147483648 := by
  have e10 : (10 : Int32).toInt = 10 := rfl
  have e0 : (0 : Int32).toInt = 0 := rfl
  rw [t_lt] at h
  have hr := t_rg what
  have hs : (what - 10).toInt = what.toInt - 10 := by rw [t_sub (by omega) (by omega), e10]
  exact ⟨n_of (t_le.mpr (by omega)), by rw [t_tn]; omega⟩
theorem r_fits {m : Nat → Nat} (b s l what : Int32) (g : rG I m) : ∃ J, Cl X (d + 6) 251 [vr 81, vi b, vi s, vi l, vi what] (pm_mm al D I L) = some (some (vi (vFits I m b s l what)), pm_mm al D J L) ∧ rF I J := by
  rw [Cl_s]
  show ∃ J, Rn X (d + 5) co_Mo_fits (0, [some (vr 81), some (vi b), some (vi s), some (vi l), some (vi what)], [], pm_mm al D I L) = _ ∧ _
  obtain ⟨J, e1, e2, e3⟩ := c_layLog (X := X) (d := d) (al := al) (D := D) (L := L) b s l g
  refine ⟨J, ?_, e2⟩
  rw [sg_Mo_fits_0, e1, vFits]
  simp only [Option.bind_some, pm_ai]
  rw [sg_Mo_fits_12, b01_ne]
  cases hok : okL m b s l with
  | false => rw [Bool.not_false, cond_true, cond_false]
  | true =>
    obtain ⟨b', s', l', eb, es, el, hb', hs', hl', n1, n2, n3, n4, n5, n6, n7⟩ := e3 hok
    have m0 := (g.1 0 (by omega)).1; have m1 := (g.1 1 (by omega)).1; have m3 := (g.1 3 (by omega)).1
    subst eb es el
    rw [Bool.not_true, cond_false, cond_true, n_tn (by omega), n_tn (by omega), n_tn (by omega)]
    have hN := fN_le (lgH I b' s' l') 4096
    generalize lgH I b' s' l' = H at n1 n2 n3 n4 n5 n6 n7 hN ⊢
    generalize lgW I b' s' = S at n6 ⊢
    have hX := c_next (X := X) (d := d + 3) (al := al) (D := D) (L := L) (I := J) (N := fN H 4096) (f := fun t c => fS H S t c 4096) (by omega) (fun t c => by have := fS_le H S t c 4096; omega) n1 n6
    rw [ftH, ft2]
    generalize (nxF (fun t => mxs (fun c => fS H S t c 4096) 7) 12).1 = V at hX ⊢
    by_cases h10 : what < 10
    · rw [dt h10, cond_true, cond_true, hX, n1, n4]
      simp only [Option.bind_some, pm_ai]
      rw [sg_Mo_fits_84, sg_Mo_fits_84, sg_Mo_fits_89]
      generalize fN H 4096 = N at hN ⊢
      generalize fU H 4096 = U
      rw [show decide (Int32.ofNat N = 0) = decide (N = 0) from n_deq (b := 0) (by omega) (by omega)]
      cases decide (what = 0) with
      | true => rw [cond_true, cond_true]
      | false =>
        rw [cond_false, cond_false]
        cases decide (what = 1) with
        | true =>
          rw [cond_true, cond_true]
          cases decide (N = 0) with
          | true => rw [cond_true, cond_true]
          | false => rw [cond_false, cond_false]
        | false =>
          rw [cond_false, cond_false]
          cases decide (what = 2) with
          | true => rw [cond_true, cond_true]
          | false => rw [cond_false, cond_false]
    · obtain ⟨w1, w2⟩ := ge10 h10
      have hK := c_kth (X := X) (d := d + 4) (al := al) (D := D) (L := L) (I := J) (H := H) w2 n7
      rw [← w1] at hK
      rw [df h10, cond_false, cond_false, hK]
      simp only [Option.bind_some, pm_ai]
      rw [sg_Mo_fits_34]
end
