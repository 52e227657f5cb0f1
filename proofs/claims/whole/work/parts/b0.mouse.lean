section
variable {X : Nat × (Nat → Int32)} {d : Nat} {al : List Nat} {D : Nat → Bool} {I : Nat → Nat → Int32} {L : Nat → Nat → Int64}
/-- sums -/
def su (f : Nat → Nat) : Nat → Nat
  | 0 => 0
  | n + 1 => su f n + f n
theorem su_congr {f g : Nat → Nat} : ∀ n, (∀ k, k < n → f k = g k) → su f n = su g n
  | 0, _ => rfl
  | n + 1, h => by rw [su, su, su_congr n (fun k hk => h k (by omega)), h n (by omega)]
theorem su_add (f g : Nat → Nat) : ∀ n, su (fun k => f k + g k) n = su f n + su g n
  | 0 => rfl
  | n + 1 => by rw [su, su, su, su_add f g n]; omega
theorem su_mul (f : Nat → Nat) (c : Nat) : ∀ n, su (fun k => f k * c) n = su f n * c
  | 0 => by rw [su, su, Nat.zero_mul]
  | n + 1 => by rw [su, su, su_mul f c n, Nat.add_mul]
theorem su_zero : ∀ n, su (fun _ => 0) n = 0
  | 0 => rfl
  | n + 1 => by rw [su, su_zero n]
theorem su_swap (f : Nat → Nat → Nat) (n : Nat) : ∀ m, su (fun j => su (fun i => f i j) n) m = su (fun i => su (fun j => f i j) m) n
  | 0 => by simp only [su]; exact (su_zero n).symm
  | m + 1 => by rw [su, su_swap f n m, ← su_add]; rfl
theorem su_one (x c : Nat) (h : Nat → Nat) : ∀ n, x < n → su (fun b => (if x = b then c else 0) * h b) n = c * h x
  | 0, hx => absurd hx (Nat.not_lt_zero x)
  | n + 1, hx => by
    rw [su]
    by_cases hn : x = n
    · subst hn
      have : su (fun b => (if x = b then c else 0) * h b) x = 0 := by
        rw [su_congr (g := fun _ => 0) x (fun k hk => by rw [if_neg (by omega), Nat.zero_mul]), su_zero]
      rw [this, if_pos rfl, Nat.zero_add]
    · rw [su_one x c h n (by omega), if_neg hn, Nat.zero_mul, Nat.add_zero]
theorem su_le (f : Nat → Nat) {k : Nat} : ∀ n, k < n → f k ≤ su f n
  | 0, h => absurd h (Nat.not_lt_zero k)
  | n + 1, h => by
    rw [su]
    by_cases hk : k = n
    · subst hk; omega
    · have := su_le f (k := k) n (by omega); omega
theorem su_split (f : Nat → Nat) (a : Nat) : ∀ m, su f (a + m) = su f a + su (fun k => f (a + k)) m
  | 0 => rfl
  | m + 1 => by rw [su, ← Nat.add_assoc, su, su_split f a m]; omega
/-- the breath by chance: how much weight each breath has -/
def mw (size leak A B : Nat) : Nat → Nat → Nat
  | 0, b => if b = size then 1 else 0
  | k + 1, x => su (fun b => (if b - leak = x then mw size leak A B k b * A else 0) + (if b - leak - 5 = x then mw size leak A B k b * B else 0)) 100
def oN (k set : Nat) : Nat := cn (fun i => set.testBit i) k
def wt (A B k set : Nat) : Nat := B ^ oN k set * A ^ (k - oN k set)
theorem oN_hi {k set : Nat} (h : set < 2 ^ k) : oN (k + 1) (2 ^ k + set) = oN k set + 1 := by
  show cn (fun i => (2 ^ k + set).testBit i) k + cond ((2 ^ k + set).testBit k) 1 0 = _
  rw [Nat.testBit_two_pow_add_eq, Nat.testBit_lt_two_pow h, cn_congr (g := fun i => set.testBit i) k (fun i hi => Nat.testBit_two_pow_add_gt hi set)]; rfl
theorem oN_lo {k set : Nat} (h : set < 2 ^ k) : oN (k + 1) set = oN k set := by
  show cn (fun i => set.testBit i) k + cond (set.testBit k) 1 0 = _
  rw [Nat.testBit_lt_two_pow h]; rfl
theorem mw_sum {size leak A B : Nat} (hs : size < 100) : ∀ k (h : Nat → Nat), su (fun b => mw size leak A B k b * h b) 100 = su (fun set => wt A B k set * h (size - k * leak - 5 * oN k set)) (2 ^ k)
  | 0, h => by
    rw [su_congr (g := fun b => (if size = b then 1 else 0) * h b) 100 (fun b _ => by
      rw [mw]
      by_cases e : b = size
      · rw [if_pos e, if_pos e.symm]
      · rw [if_neg e, if_neg (fun c => e c.symm)]), su_one size 1 h 100 hs]
    show 1 * h size = 0 + wt A B 0 0 * h (size - 0 * leak - 5 * oN 0 0)
    have e : wt A B 0 0 = 1 := by show B ^ 0 * A ^ 0 = 1; rw [Nat.pow_zero, Nat.pow_zero]
    have e2 : oN 0 0 = 0 := rfl
    rw [e, e2, Nat.zero_mul, Nat.mul_zero, Nat.sub_zero, Nat.sub_zero, Nat.zero_add]
  | k + 1, h => by
    have ih := mw_sum (leak := leak) (A := A) (B := B) hs k (fun b => A * h (b - leak) + B * h (b - leak - 5))
    have e1 : su (fun x => mw size leak A B (k + 1) x * h x) 100 = su (fun b => mw size leak A B k b * (A * h (b - leak) + B * h (b - leak - 5))) 100 := by
      rw [su_congr (g := fun x => su (fun b => (if b - leak = x then mw size leak A B k b * A else 0) * h x + (if b - leak - 5 = x then mw size leak A B k b * B else 0) * h x) 100) 100 (fun x _ => by
        rw [mw, ← su_mul]
        exact su_congr 100 (fun b _ => Nat.add_mul _ _ _))]
      rw [su_swap (fun b x => (if b - leak = x then mw size leak A B k b * A else 0) * h x + (if b - leak - 5 = x then mw size leak A B k b * B else 0) * h x) 100 100]
      refine su_congr 100 (fun b hb => ?_)
      rw [su_add, su_one (b - leak) _ h 100 (by omega), su_one (b - leak - 5) _ h 100 (by omega), Nat.mul_add, Nat.mul_assoc, Nat.mul_assoc]
    rw [e1, ih]
    have hp : 2 ^ (k + 1) = 2 ^ k + 2 ^ k := by rw [Nat.pow_succ]; omega
    rw [hp, su_split, ← su_add]
    refine su_congr _ (fun set hset => ?_)
    have ho := cn_le (fun i => set.testBit i) k
    have ho : oN k set ≤ k := ho
    have w1 : wt A B (k + 1) set = wt A B k set * A := by
      rw [wt, wt, oN_lo hset, show k + 1 - oN k set = k - oN k set + 1 by omega, Nat.pow_succ, Nat.mul_assoc]
    have w2 : wt A B (k + 1) (2 ^ k + set) = wt A B k set * B := by
      rw [wt, wt, oN_hi hset, show k + 1 - (oN k set + 1) = k - oN k set by omega, Nat.pow_succ, Nat.mul_assoc, Nat.mul_comm B, ← Nat.mul_assoc]
    rw [w1, w2, oN_lo hset, oN_hi hset, Nat.mul_add, ← Nat.mul_assoc, ← Nat.mul_assoc]
    have x1 : size - k * leak - 5 * oN k set - leak = size - (k + 1) * leak - 5 * oN k set := by rw [Nat.add_mul]; omega
    have x2 : size - k * leak - 5 * oN k set - leak - 5 = size - (k + 1) * leak - 5 * (oN k set + 1) := by rw [Nat.add_mul]; omega
    rw [x2, x1]
theorem wt_sum (A B : Nat) : ∀ k, su (fun set => wt A B k set) (2 ^ k) = (A + B) ^ k
  | 0 => by
    show 0 + wt A B 0 0 = _
    show 0 + B ^ 0 * A ^ 0 = _
    rw [Nat.pow_zero, Nat.pow_zero, Nat.pow_zero]
  | k + 1 => by
    have ih := wt_sum A B k
    have hp : 2 ^ (k + 1) = 2 ^ k + 2 ^ k := by rw [Nat.pow_succ]; omega
    rw [hp, su_split, ← su_add, Nat.pow_succ, ← ih, ← su_mul]
    refine su_congr _ (fun set hset => ?_)
    have ho : oN k set ≤ k := cn_le (fun i => set.testBit i) k
    have w1 : wt A B (k + 1) set = wt A B k set * A := by
      rw [wt, wt, oN_lo hset, show k + 1 - oN k set = k - oN k set + 1 by omega, Nat.pow_succ, Nat.mul_assoc]
    have w2 : wt A B (k + 1) (2 ^ k + set) = wt A B k set * B := by
      rw [wt, wt, oN_hi hset, show k + 1 - (oN k set + 1) = k - oN k set by omega, Nat.pow_succ, Nat.mul_assoc, Nat.mul_comm B, ← Nat.mul_assoc]
    rw [w1, w2, Nat.mul_add]
/-- how likely the breath is 0 in the end -/
def mz (size leak A B n : Nat) : Nat := su (fun set => wt A B n set * (if size - n * leak - 5 * oN n set = 0 then 1 else 0)) (2 ^ n)
theorem mw_mz {size leak A B : Nat} (hs : size < 100) (n : Nat) : mw size leak A B n 0 = mz size leak A B n := by
  have := mw_sum (leak := leak) (A := A) (B := B) hs n (fun b => if b = 0 then 1 else 0)
  rw [mz, ← this]
  rw [su_congr (g := fun b => (if 0 = b then mw size leak A B n 0 else 0) * 1) 100 (fun b _ => by
    by_cases e : b = 0
    · subst e; rw [if_pos rfl, if_pos rfl]
    · rw [if_neg e, if_neg (fun c => e c.symm), Nat.mul_zero, Nat.zero_mul]), su_one 0 _ (fun _ => 1) 100 (by omega), Nat.mul_one]
theorem mz_le (size leak A B n : Nat) : mz size leak A B n ≤ (A + B) ^ n := by
  rw [← wt_sum, mz]
  generalize 2 ^ n = N
  induction N with
  | zero => exact Nat.le_refl _
  | succ N ih =>
    rw [su, su]
    have : wt A B n N * (if size - n * leak - 5 * oN n N = 0 then 1 else 0) ≤ wt A B n N := by split <;> omega
    omega
theorem pwr_n (p : Nat) : ∀ s, pwr (Int64.ofNat p) s = Int64.ofNat (p ^ s)
  | 0 => rfl
  | s + 1 => by rw [pwr, pwr_n p s, un_mul, Nat.pow_succ]
def vMouse (I : Nat → Nat → Int32) (m : Nat → Nat) (b p n : Int32) (under : Bool) : Int64 := cond (pm_in p 11 && pm_in n 10 && pm_in b (m 0))
  (pa (Int64.ofNat (mz (I 87 (29 * b.toNatClampNeg + 1)).toNatClampNeg (I 87 (29 * b.toNatClampNeg + 2)).toNatClampNeg (10 - p.toNatClampNeg) p.toNatClampNeg n.toNatClampNeg)) (Int64.ofNat (10 ^ n.toNatClampNeg)) under) (-1)
theorem ten_le {n : Nat} (h : n ≤ 9) : 10 ^ n ≤ 1000000000 ∧ 1 ≤ 10 ^ n := ⟨Nat.pow_le_pow_right (n := 10) (by decide) h, Nat.one_le_pow n 10 (by decide)⟩
theorem gr0 (a c : Nat) (ha : a < 1000) (hc : c < 1000) : (if Int32.ofNat a - Int32.ofNat c < 0 then (0 : Int32) else Int32.ofNat a - Int32.ofNat c) = Int32.ofNat (a - c) := by
  have e0 : (0 : Int32).toInt = 0 := rfl
  have h1 := n_ti (show a < 2147483648 by omega)
  have h2 := n_ti (show c < 2147483648 by omega)
  have hs : (Int32.ofNat a - Int32.ofNat c).toInt = a - c := by rw [t_sub (by omega) (by omega), h1, h2]
  by_cases h : a < c
  · rw [if_pos (t_lt.mpr (by omega)), show a - c = 0 by omega]; rfl
  · rw [if_neg (fun x => by rw [t_lt] at x; omega)]; exact n_sub (by omega)
def mL (L K : Nat → Nat → Int64) : Prop := ∀ a j, a ≠ 106 → a ≠ 107 → K a j = L a j
theorem r_mouse {m : Nat → Nat} (b p n : Int32) (under : Bool) (g : rG I m) : ∃ J K, Cl X (d + 4) 241 [vr 81, vi b, vi p, vi n, vi (b01 under)] (pm_mm al D I L) = some (some (vl (vMouse I m b p n under)), pm_mm al D J K) ∧ rF I J ∧ mL L K := by
  rw [Cl_s]
  show ∃ J K, Rn X (d + 3) co_Mo_mouse (0, [some (vr 81), some (vi b), some (vi p), some (vi n), some (vi (b01 under)), none, none, none], [], pm_mm al D I L) = _ ∧ _
  obtain ⟨m0, e0⟩ := g.1 0 (by omega)
  have h10 : (if 0 ≤ p ∧ p ≤ 10 then (1 : Int32) else 0) = b01 (pm_in p 11) := in_m (m := 11) (by omega)
  have h9 : (if 0 ≤ n ∧ n ≤ 9 then (1 : Int32) else 0) = b01 (pm_in n 10) := in_m (m := 10) (by omega)
  rw [sg_Mo_mouse_0, vMouse]
  simp only [c_in, h10, h9, Option.bind_some, pm_ai, sg_Mo_mouse_12, b01_ne, sg_Mo_mouse_33, sg_Mo_mouse_22]
  cases hp : pm_in p 11 with
  | false => exact ⟨_, L, rfl, rF_code, fun _ _ _ _ => rfl⟩
  | true =>
    cases hn : pm_in n 10 with
    | false => exact ⟨_, L, rfl, rF_code, fun _ _ _ _ => rfl⟩
    | true =>
      simp only [Bool.not_true, cond_false, Bool.true_and]
      cases hb : pm_in b (m 0) with
      | false =>
        rw [c_hand_f (d := d) (I := pm_up I 81 0 0) m0 e0 hb]
        simp only [Option.bind_some, pm_ai, sg_Mo_mouse_30, sg_Mo_mouse_33]
        exact ⟨_, L, rfl, rF_code, fun _ _ _ _ => rfl⟩
      | true =>
        obtain ⟨b', hb', eb⟩ := in_nat hb
        obtain ⟨p', hp', ep⟩ := in_nat hp
        obtain ⟨n', hn', en⟩ := in_nat hn
        obtain ⟨J, e1, e2, e3⟩ := c_hand_t (X := X) (d := d) (al := al) (D := D) (L := L) (I := pm_up I 81 0 0) m0 e0 hb'
        have hF : rF I J := rF_code.trans (fun a h1 h2 => by funext j; exact e2 a j (by unfold hdS; omega))
        have J87 : ∀ j, J 87 j = I 87 j := fun j => (e2 87 j (by unfold hdS; omega)).trans (up_ne (by omega))
        obtain ⟨_, _, gs, gl, _⟩ := g.2.1 b' hb'
        have e00 : (0 : Int32).toInt = 0 := rfl
        have es : I 87 (29 * b' + 1) = Int32.ofNat (I 87 (29 * b' + 1)).toNatClampNeg := n_of (t_le.mpr (by have := gs.1; omega))
        have el : I 87 (29 * b' + 2) = Int32.ofNat (I 87 (29 * b' + 2)).toNatClampNeg := n_of (t_le.mpr (by have := gl.1; omega))
        have hs100 : (I 87 (29 * b' + 1)).toNatClampNeg < 100 := by rw [t_tn]; have := gs.2; omega
        have hl10 : (I 87 (29 * b' + 2)).toNatClampNeg < 10 := by rw [t_tn]; have := gl.2; omega
        subst eb ep en
        rw [e1, n_tn (by omega), n_tn (by omega), n_tn (by omega)]
        generalize (I 87 (29 * b' + 1)).toNatClampNeg = size at es hs100
        generalize (I 87 (29 * b' + 2)).toNatClampNeg = leak at el hl10
        have o1 : ∀ K : Nat → Nat → Int64, Cl X (d + 3) 195 [vr 81, vi 1] (pm_mm al D J K) = some (some (vi (Int32.ofNat size)), pm_mm al D J K) := fun K => by
          have := c_of (X := X) (d := d + 2) (al := al) (D := D) (L := K) (I := J) (b := b') (k := 1) (by omega) (by omega) e3.1
          rw [J87, es] at this; exact this
        have o2 : ∀ K : Nat → Nat → Int64, Cl X (d + 3) 195 [vr 81, vi 2] (pm_mm al D J K) = some (some (vi (Int32.ofNat leak)), pm_mm al D J K) := fun K => by
          have := c_of (X := X) (d := d + 2) (al := al) (D := D) (L := K) (I := J) (b := b') (k := 2) (by omega) (by omega) e3.1
          rw [J87, el] at this; exact this
        have e10 : (10 : Int32) - Int32.ofNat p' = Int32.ofNat (10 - p') := n_sub (a := 10) (b := p') (by omega)
        generalize hA : 10 - p' = A at e10
        -- the first weights
        have ini : ∃ K, Rn X (d + 3) co_Mo_mouse (40, [some (vr 81), some (vi (Int32.ofNat b')), some (vi (Int32.ofNat p')), some (vi (Int32.ofNat n')), some (vi (b01 under)), some (vi 0), none, none], [], pm_mm al D J L) = Rn X (d + 3) co_Mo_mouse (78, [some (vr 81), some (vi (Int32.ofNat b')), some (vi (Int32.ofNat p')), some (vi (Int32.ofNat n')), some (vi (b01 under)), some (vi (Int32.ofNat 0)), none, none], [], pm_mm al D J K) ∧ mL L K ∧ ∀ x, x < 100 → K 106 x = Int64.ofNat (mw size leak A p' 0 x) := by
          obtain ⟨K, k1, k2, k3⟩ := lp (σ := Nat → Nat → Int64) 100 (fun x K => Rn X (d + 3) co_Mo_mouse (40, [some (vr 81), some (vi (Int32.ofNat b')), some (vi (Int32.ofNat p')), some (vi (Int32.ofNat n')), some (vi (b01 under)), some (vi (Int32.ofNat x)), none, none], [], pm_mm al D J K)) (fun k K => mL L K ∧ ∀ x, x < k → K 106 x = Int64.ofNat (mw size leak A p' 0 x)) (fun x K hx hq => by
            refine ⟨pm_up K 106 x (Int64.ofNat (mw size leak A p' 0 x)), ?_, fun a j a1 a2 => by rw [up_ne (by omega)]; exact hq.1 a j a1 a2, fun y hy => ?_⟩
            · show Rn X (d + 3) co_Mo_mouse _ = Rn X (d + 3) co_Mo_mouse _
              rw [sg_Mo_mouse_40]
              simp (disch := omega) only [c0, c1, c2, c3, c4, c5, c6, c7, c8, c9, c10, c11, c12, c13, c20, c24, c60, c64, c84, c99, c100, c600, c720, c4096, c1000000, df, cond_false, o1, Option.bind_some, pm_ai, sg_Mo_mouse_60, n_deq, sg_Mo_mouse_68, n_in, dt, cond_true, n_tn, n_s, mw]
              by_cases hxs : x = size
              · rw [dt hxs, if_pos hxs]; rfl
              · rw [df hxs, if_neg hxs]; rfl
            · by_cases hyx : y = x
              · subst hyx; rw [up_eq]
              · rw [up_ne (by omega)]; exact hq.2 y (by omega)) 0 L (by omega) ⟨fun _ _ _ _ => rfl, fun x hx => absurd hx (Nat.not_lt_zero x)⟩
          refine ⟨K, Eq.trans k1 ?_, k2, k3⟩
          show Rn X (d + 3) co_Mo_mouse _ = _
          rw [sg_Mo_mouse_40]; rfl
        obtain ⟨K0, i1, i2, i3⟩ := ini
        -- a beat
        have beat : ∀ k K o6 o7, k < n' → mL L K → (∀ x, x < 100 → K 106 x = Int64.ofNat (mw size leak A p' k x)) → ∃ M p6 p7, Rn X (d + 3) co_Mo_mouse (78, [some (vr 81), some (vi (Int32.ofNat b')), some (vi (Int32.ofNat p')), some (vi (Int32.ofNat n')), some (vi (b01 under)), some (vi (Int32.ofNat k)), o6, o7], [], pm_mm al D J K) = Rn X (d + 3) co_Mo_mouse (78, [some (vr 81), some (vi (Int32.ofNat b')), some (vi (Int32.ofNat p')), some (vi (Int32.ofNat n')), some (vi (b01 under)), some (vi (Int32.ofNat (k + 1))), p6, p7], [], pm_mm al D J M) ∧ mL L M ∧ ∀ x, x < 100 → M 106 x = Int64.ofNat (mw size leak A p' (k + 1) x) := by
          intro k K o6 o7 hk hK h106
          -- zeros
          obtain ⟨Z, z1, z2, z3, z4⟩ := lp (σ := Nat → Nat → Int64) 100 (fun x Z => Rn X (d + 3) co_Mo_mouse (87, [some (vr 81), some (vi (Int32.ofNat b')), some (vi (Int32.ofNat p')), some (vi (Int32.ofNat n')), some (vi (b01 under)), some (vi (Int32.ofNat k)), some (vi (Int32.ofNat x)), o7], [], pm_mm al D J Z)) (fun q Z => mL L Z ∧ (∀ x, Z 106 x = K 106 x) ∧ ∀ x, x < q → Z 107 x = 0) (fun x Z hx hq => by
            refine ⟨pm_up Z 107 x 0, ?_, fun a j a1 a2 => by rw [up_ne (by omega)]; exact hq.1 a j a1 a2, fun y => by rw [up_ne (by omega)]; exact hq.2.1 y, fun y hy => ?_⟩
            · show Rn X (d + 3) co_Mo_mouse _ = Rn X (d + 3) co_Mo_mouse _
              rw [sg_Mo_mouse_87]
              simp (disch := omega) only [c0, c1, c2, c3, c4, c5, c6, c7, c8, c9, c10, c11, c12, c13, c20, c24, c60, c64, c84, c99, c100, c600, c720, c4096, c1000000, df, cond_false, n_in, dt, cond_true, n_tn, n_s]
            · by_cases hyx : y = x
              · subst hyx; rw [up_eq]
              · rw [up_ne (by omega)]; exact hq.2.2 y (by omega)) 0 K (by omega) ⟨hK, fun _ => rfl, fun x hx => absurd hx (Nat.not_lt_zero x)⟩
          -- the weights go on
          have step := lp (σ := (Nat → Nat → Int64) × Option pm_V) 100 (fun y Q => Rn X (d + 3) co_Mo_mouse (111, [some (vr 81), some (vi (Int32.ofNat b')), some (vi (Int32.ofNat p')), some (vi (Int32.ofNat n')), some (vi (b01 under)), some (vi (Int32.ofNat k)), some (vi (Int32.ofNat y)), Q.2], [], pm_mm al D J Q.1)) (fun q Q => mL L Q.1 ∧ (∀ x, Q.1 106 x = K 106 x) ∧ ∀ x, x < 100 → Q.1 107 x = Int64.ofNat (su (fun b => (if b - leak = x then mw size leak A p' k b * A else 0) + (if b - leak - 5 = x then mw size leak A p' k b * p' else 0)) q)) (fun y Q hy hq => by
            obtain ⟨Q, o⟩ := Q
            obtain ⟨q1, q2, q3⟩ := hq
            simp only at q1 q2 q3
            have hleft : y - leak < 100 := by omega
            have r106 : Q 106 y = Int64.ofNat (mw size leak A p' k y) := (q2 y).trans (h106 y hy)
            refine ⟨(pm_up (pm_up Q 107 (y - leak) (Q 107 (y - leak) + Q 106 y * Int64.ofNat A)) 107 (y - leak - 5) (pm_up Q 107 (y - leak) (Q 107 (y - leak) + Q 106 y * Int64.ofNat A) 107 (y - leak - 5) + Q 106 y * Int64.ofNat p'), some (vi (Int32.ofNat (y - leak)))), ?_, fun a j a1 a2 => by simp only; rw [up_ne (by omega), up_ne (by omega)]; exact q1 a j a1 a2, fun x => by simp only; rw [up_ne (by omega), up_ne (by omega)]; exact q2 x, fun x hx => ?_⟩
            · show Rn X (d + 3) co_Mo_mouse _ = Rn X (d + 3) co_Mo_mouse _
              have g1 := gr0 y leak (by omega) (by omega)
              have g2 := gr0 (y - leak) 5 (by omega) (by omega)
              have g2 : (if Int32.ofNat (y - leak) - 5 < 0 then (0 : Int32) else Int32.ofNat (y - leak) - 5) = _ := g2
              have eA : (Int32.ofNat A).toInt64 = Int64.ofNat A := i64_n (by omega)
              have eP : (Int32.ofNat p').toInt64 = Int64.ofNat p' := i64_n (by omega)
              have u106 : ∀ v : Int64, pm_up Q 107 (y - leak) v 106 y = Q 106 y := fun v => up_ne (by omega)
              rw [sg_Mo_mouse_111]
              simp (disch := omega) only [c0, c1, c2, c3, c4, c5, c6, c7, c8, c9, c10, c11, c12, c13, c20, c24, c60, c64, c84, c99, c100, c600, c720, c4096, c1000000, df, cond_false, o2, Option.bind_some, pm_ai, sg_Mo_mouse_126, c_greater, g1, sg_Mo_mouse_130, n_in, dt, cond_true, n_tn, g2, e10, eA, sg_Mo_mouse_167, eP, u106, n_s]
            · simp only
              rw [su]
              have base := q3 x hx
              by_cases h5 : y - leak - 5 = x
              · rw [if_pos h5, ← h5, up_eq, h5]
                by_cases h0 : y - leak = x
                · rw [if_pos h0, ← h0, up_eq, h0, base, r106, un_mul, un_mul, un_add, un_add, Nat.add_assoc]
                · rw [if_neg h0, up_ne (by omega), base, r106, un_mul, un_add, Nat.zero_add]
              · rw [if_neg h5, up_ne (by omega)]
                by_cases h0 : y - leak = x
                · rw [if_pos h0, ← h0, up_eq, h0, base, r106, un_mul, un_add, Nat.add_zero]
                · rw [if_neg h0, up_ne (by omega), base, Nat.add_zero]) 0 (Z, o7) (by omega) ⟨z2, z3, fun x hx => z4 x hx⟩
          obtain ⟨⟨Q, oo⟩, s1, s2, s3, s4⟩ := step
          simp only at s2 s3 s4
          obtain ⟨M, t1, t2, t3, t4⟩ := lp (σ := Nat → Nat → Int64) 100 (fun x M => Rn X (d + 3) co_Mo_mouse (190, [some (vr 81), some (vi (Int32.ofNat b')), some (vi (Int32.ofNat p')), some (vi (Int32.ofNat n')), some (vi (b01 under)), some (vi (Int32.ofNat k)), some (vi (Int32.ofNat x)), oo], [], pm_mm al D J M)) (fun q M => mL L M ∧ (∀ x, M 107 x = Q 107 x) ∧ ∀ x, x < q → M 106 x = Q 107 x) (fun x M hx hq => by
            refine ⟨pm_up M 106 x (M 107 x), ?_, fun a j a1 a2 => by rw [up_ne (by omega)]; exact hq.1 a j a1 a2, fun y => by rw [up_ne (by omega)]; exact hq.2.1 y, fun y hy => ?_⟩
            · show Rn X (d + 3) co_Mo_mouse _ = Rn X (d + 3) co_Mo_mouse _
              rw [sg_Mo_mouse_190]
              simp (disch := omega) only [c0, c1, c2, c3, c4, c5, c6, c7, c8, c9, c10, c11, c12, c13, c20, c24, c60, c64, c84, c99, c100, c600, c720, c4096, c1000000, df, cond_false, n_in, dt, cond_true, n_tn, n_s]
            · by_cases hyx : y = x
              · subst hyx; rw [up_eq]; exact hq.2.1 y
              · rw [up_ne (by omega)]; exact hq.2.2 y (by omega)) 0 Q (by omega) ⟨s2, fun _ => rfl, fun x hx => absurd hx (Nat.not_lt_zero x)⟩
          refine ⟨M, some (vi (Int32.ofNat 100)), oo, ?_, t2, fun x hx => ?_⟩
          · have z1 : Rn X (d + 3) co_Mo_mouse (87, [some (vr 81), some (vi (Int32.ofNat b')), some (vi (Int32.ofNat p')), some (vi (Int32.ofNat n')), some (vi (b01 under)), some (vi (Int32.ofNat k)), some (vi 0), o7], [], pm_mm al D J K) = Rn X (d + 3) co_Mo_mouse (87, [some (vr 81), some (vi (Int32.ofNat b')), some (vi (Int32.ofNat p')), some (vi (Int32.ofNat n')), some (vi (b01 under)), some (vi (Int32.ofNat k)), some (vi (Int32.ofNat 100)), o7], [], pm_mm al D J Z) := z1
            have s1 : Rn X (d + 3) co_Mo_mouse (111, [some (vr 81), some (vi (Int32.ofNat b')), some (vi (Int32.ofNat p')), some (vi (Int32.ofNat n')), some (vi (b01 under)), some (vi (Int32.ofNat k)), some (vi 0), o7], [], pm_mm al D J Z) = Rn X (d + 3) co_Mo_mouse (111, [some (vr 81), some (vi (Int32.ofNat b')), some (vi (Int32.ofNat p')), some (vi (Int32.ofNat n')), some (vi (b01 under)), some (vi (Int32.ofNat k)), some (vi (Int32.ofNat 100)), oo], [], pm_mm al D J Q) := s1
            have t1 : Rn X (d + 3) co_Mo_mouse (190, [some (vr 81), some (vi (Int32.ofNat b')), some (vi (Int32.ofNat p')), some (vi (Int32.ofNat n')), some (vi (b01 under)), some (vi (Int32.ofNat k)), some (vi 0), oo], [], pm_mm al D J Q) = Rn X (d + 3) co_Mo_mouse (190, [some (vr 81), some (vi (Int32.ofNat b')), some (vi (Int32.ofNat p')), some (vi (Int32.ofNat n')), some (vi (b01 under)), some (vi (Int32.ofNat k)), some (vi (Int32.ofNat 100)), oo], [], pm_mm al D J M) := t1
            rw [sg_Mo_mouse_78, n_dle (by omega) (by omega), df (by omega), cond_false, z1, sg_Mo_mouse_87, show decide ((99 : Int32) < Int32.ofNat 100) = true from rfl, cond_true, s1, sg_Mo_mouse_111, show decide ((99 : Int32) < Int32.ofNat 100) = true from rfl, cond_true, t1, sg_Mo_mouse_190, show decide ((99 : Int32) < Int32.ofNat 100) = true from rfl, cond_true, n_s]
          · rw [t4 x hx, s4 x hx, mw]
        obtain ⟨⟨K, o6, o7⟩, f1, f2, f3⟩ := lp (σ := (Nat → Nat → Int64) × Option pm_V × Option pm_V) n' (fun k Q => Rn X (d + 3) co_Mo_mouse (78, [some (vr 81), some (vi (Int32.ofNat b')), some (vi (Int32.ofNat p')), some (vi (Int32.ofNat n')), some (vi (b01 under)), some (vi (Int32.ofNat k)), Q.2.1, Q.2.2], [], pm_mm al D J Q.1)) (fun k Q => mL L Q.1 ∧ ∀ x, x < 100 → Q.1 106 x = Int64.ofNat (mw size leak A p' k x)) (fun k Q hk hq => by
          obtain ⟨M, p6, p7, h1, h2, h3⟩ := beat k Q.1 Q.2.1 Q.2.2 hk hq.1 hq.2
          exact ⟨(M, p6, p7), h1, h2, h3⟩) 0 (K0, none, none) (by omega) ⟨i2, i3⟩
        simp only at f2 f3
        have f1 : Rn X (d + 3) co_Mo_mouse (78, [some (vr 81), some (vi (Int32.ofNat b')), some (vi (Int32.ofNat p')), some (vi (Int32.ofNat n')), some (vi (b01 under)), some (vi (Int32.ofNat 0)), none, none], [], pm_mm al D J K0) = Rn X (d + 3) co_Mo_mouse (78, [some (vr 81), some (vi (Int32.ofNat b')), some (vi (Int32.ofNat p')), some (vi (Int32.ofNat n')), some (vi (b01 under)), some (vi (Int32.ofNat n')), o6, o7], [], pm_mm al D J K) := f1
        have ht := ten_le (n := n') (by omega)
        have hmz := mz_le size leak A p' n'
        rw [show A + p' = 10 by omega] at hmz
        have hpw : Cl X (d + 3) 240 [vl 10, vi (Int32.ofNat n')] (pm_mm al D J K) = some (some (vl (Int64.ofNat (10 ^ n'))), pm_mm al D J K) := by
          rw [← pwr_n]; exact c_power (d := d + 2) (Int64.ofNat 10) (by omega)
        have hpt := c_part (X := X) (d := d + 1) (al := al) (D := D) (I := J) (L := K) (up := Int64.ofNat (mz size leak A p' n')) (down := Int64.ofNat (10 ^ n')) under (by rw [u_ti (by omega)]; omega) (by rw [u_ti (by omega)]; omega)
        refine ⟨J, K, ?_, hF, f2⟩
        simp only [Option.bind_some, pm_ai, sg_Mo_mouse_30, show decide ((1 : Int32) = 0) = false from rfl, cond_false]
        rw [i1, f1, sg_Mo_mouse_78, n_dle (by omega) (by omega), dt (Nat.le_refl _), cond_true, hpw, f3 0 (by omega), mw_mz hs100]
        simp only [Option.bind_some, pm_al, sg_Mo_mouse_236, hpt, sg_Mo_mouse_241, cond_true]
end
