section
variable {X : Nat × (Nat → Int32)} {d : Nat} {al : List Nat} {D : Nat → Bool} {I : Nat → Nat → Int32} {L : Nat → Nat → Int64}
def lv (P : Nat → Int32 × Int32) (n : Nat) (set : Int32) : Int32 × (Nat → Nat) := lth P n set n 0 0 (fun _ => 6)
theorem tb_ofNat {v k : Nat} (hk : k < 32) : tb (Int32.ofNat v) k = v.testBit k := by
  show (BitVec.ofNat 32 v).getLsbD k = _
  rw [BitVec.getLsbD_ofNat, dt hk, Bool.true_and]
theorem bits_in {x : Int32} {n : Nat} (h : pm_in x (2 ^ n) = true) (hn : n ≤ 12) : ∀ k, k < 32 → tb x k = true → k < n := fun k hk hb => by
  obtain ⟨v, hv, e⟩ := in_nat h
  rw [e, tb_ofNat hk] at hb
  rcases Nat.lt_or_ge k n with h1 | h1
  · exact h1
  · rw [Nat.testBit_lt_two_pow (Nat.lt_of_lt_of_le hv (Nat.pow_le_pow_right (by decide) h1))] at hb; cases hb
theorem p2_le {n : Nat} (hn : n ≤ 6) : 2 ^ n ≤ 64 := Nat.pow_le_pow_right (n := 2) (by omega) hn
/-- the reference's leather, its band at hand -/
theorem c_leatherB {m : Nat → Nat} {b : Nat} {J : Nat → Nat → Int32} (set : Int32) (g : rG I m) (hb : b < m 0) (h : hdP I J b) (h87 : ∀ j, J 87 j = I 87 j) (hs : ∀ k, k < 32 → tb set k = true → k < (I 87 (29 * b)).toNatClampNeg) :
    ∃ K, Cl X (d + 5) 229 [vr 81, vi set] (pm_mm al D J L) = some (some (vi (lv (PT I b (J 81 44) (J 81 45)) (I 87 (29 * b)).toNatClampNeg set).1), pm_mm al D K L) ∧ (∀ a j, a ≠ 104 → K a j = J a j) ∧ ∀ p, p < 6 → tb set p = true → K 104 p = Int32.ofNat ((lv (PT I b (J 81 44) (J 81 45)) (I 87 (29 * b)).toNatClampNeg set).2 p) := by
  have m0 := (g.1 0 (by omega)).1
  have e : PT J b (J 81 44) (J 81 45) = PT I b (J 81 44) (J 81 45) := by funext a; rw [PT, PT, h87, h87]
  have := c_leatherOf (X := X) (d := d) (al := al) (D := D) (L := L) (I := J) (b := b) (n := (I 87 (29 * b)).toNatClampNeg) set (by omega) h.1 (g.2.1 b hb).1 (h.2.1.trans (n_of (g.2.1 b hb).2.1)) hs
  rw [e] at this
  exact this
def leF (J K : Nat → Nat → Int32) : Prop := ∀ a j, a ≠ 104 → K a j = J a j
theorem hdP_le {J K : Nat → Nat → Int32} {b : Nat} (h : hdP I J b) (e : ∀ a j, a ≠ 104 → ¬ (a = 81 ∧ (j = 44 ∨ j = 45)) → K a j = J a j) : hdP I K b := by
  obtain ⟨h1, h2, h3, h4, h5, h6⟩ := h
  exact ⟨(e _ _ (by omega) (by omega)).trans h1, (e _ _ (by omega) (by omega)).trans h2, (e _ _ (by omega) (by omega)).trans h3, (e _ _ (by omega) (by omega)).trans h4, (e _ _ (by omega) (by omega)).trans h5, fun p hp => (e _ _ (by omega) (by omega)).trans (h6 p hp)⟩
def vLeather (I : Nat → Nat → Int32) (m : Nat → Nat) (b x : Int32) : Int32 := cond (pm_in b (m 0) && pm_in x (2 ^ (I 87 (29 * b.toNatClampNeg)).toNatClampNeg)) (lv (PT I b.toNatClampNeg 0 0) (I 87 (29 * b.toNatClampNeg)).toNatClampNeg x).1 (-1)
theorem r_leather {m : Nat → Nat} (b x : Int32) (g : rG I m) : ∃ J, Cl X (d + 6) 231 [vr 81, vi b, vi x] (pm_mm al D I L) = some (some (vi (vLeather I m b x)), pm_mm al D J L) ∧ rF I J := by
  rw [Cl_s]
  show ∃ J, Rn X (d + 5) co_Mo_leather (0, [some (vr 81), some (vi b), some (vi x)], [], pm_mm al D I L) = _ ∧ _
  obtain ⟨m0, e0⟩ := g.1 0 (by omega)
  rw [sg_Mo_leather_0, vLeather]
  cases hb : pm_in b (m 0) with
  | false =>
    rw [c_handHome_f (d := d + 1) (I := pm_up I 81 0 0) m0 e0 hb]
    simp only [Option.bind_some, pm_ai, sg_Mo_leather_10, sg_Mo_leather_37, sg_Mo_leather_38]
    exact ⟨_, rfl, rF_code.trans (fun a h1 h2 => by rw [up_rw h1, up_rw h1])⟩
  | true =>
    obtain ⟨b', hb', eb⟩ := in_nat hb
    obtain ⟨J, e1, e2, e3, e44, e45⟩ := c_handHome_t (X := X) (d := d + 1) (al := al) (D := D) (L := L) (I := pm_up I 81 0 0) m0 e0 hb'
    have hF : rF I J := rF_code.trans (rF_hh e2)
    have J87 : ∀ j, J 87 j = I 87 j := fun j => (e2 87 j (by unfold hhS hdS; omega)).trans (up_ne (by omega))
    have n6 : (I 87 (29 * b')).toNatClampNeg ≤ 6 := (g.2.1 b' hb').1
    have J25 : J 81 25 = Int32.ofNat (I 87 (29 * b')).toNatClampNeg := e3.2.1.trans (n_of (g.2.1 b' hb').2.1)
    subst eb
    rw [e1, n_tn (by omega)]
    have hp2 := p2_le n6
    have hin := in_m (k := x) (m := 2 ^ (I 87 (29 * b')).toNatClampNeg) (by omega)
    simp (disch := omega) only [Option.bind_some, pm_ai, sg_Mo_leather_10, sg_Mo_leather_37, sg_Mo_leather_38, J25, pw_shl, c_in, hin, sg_Mo_leather_26, b01_ne, show decide ((1 : Int32) = 0) = false from rfl, cond_false, Bool.true_and]
    cases hx : pm_in x (2 ^ (I 87 (29 * b')).toNatClampNeg) with
    | false => exact ⟨J, rfl, hF⟩
    | true =>
      obtain ⟨K, k1, k2, k3⟩ := c_leatherB (X := X) (d := d) (al := al) (D := D) (L := L) (I := I) (J := J) x g hb' e3 J87 (bits_in hx (by omega))
      rw [e44, e45] at k1
      simp only [Bool.not_true, cond_false, cond_true, k1, Option.bind_some, pm_ai, sg_Mo_leather_34, sg_Mo_leather_38]
      exact ⟨K, rfl, hF.trans (fun a h1 h2 => by funext j; exact k2 a j (by omega))⟩
theorem q_leather {m : Nat → Nat} (b x : Int32) (g : rG I m) (r : RL I m) : ∃ J, Cl X (d + 5) 142 [vr 1, vi b, vi x] (pm_mm al D I L) = some (some (vi (vLeather I m b x)), pm_mm al D J L) ∧ cF I J := by
  rw [Cl_s]
  show ∃ J, Rn X (d + 4) co_Ch_leather (0, [some (vr 1), some (vi b), some (vi x), none], [], pm_mm al D I L) = _ ∧ _
  have m0 := (g.1 0 (by omega)).1
  have h1 : Cl X (d + 4) 93 [vr 2, vi 0, vi b] (pm_mm al D I L) = _ := k_has (d := d + 3) (s := 0) (m := m 0) b (by omega) m0 ((r.1 0 (by omega)).trans (g.1 0 (by omega)).2)
  rw [sg_Ch_leather_x_0, h1, vLeather]
  simp only [Option.bind_some, pm_ai]
  cases hb : pm_in b (m 0) with
  | false => exact ⟨I, sg_Ch_leather_x0_9 .., cF_refl⟩
  | true =>
    obtain ⟨b', hb', eb⟩ := in_nat hb
    subst eb
    have hb2 : b' < 2 := by omega
    rw [n_tn (by omega)]
    have n6 := (g.2.1 b' hb').1
    have hp2 := p2_le n6
    have hc := cP_of (sx := 0) (sy := 0) g r hb'
    have c9 := sgb_Ch_leather_9 (b := b') hb2 X (d + 4) x none 1 al D I L
    have hin := in_two (k := x) (n := 2 ^ (I 87 (29 * b')).toNatClampNeg) (by omega)
    rw [show b01 true = 1 from rfl, c9, show decide ((1 : Int32) = 0) = false from rfl, cond_false, hc.1, pw_shl (by omega), hin]
    cases hk1 : decide (x < 0) with
    | true => exact ⟨I, sgb_Ch_leather_38 .., cF_refl⟩
    | false =>
      cases hk2 : decide (x < Int32.ofNat (2 ^ (I 87 (29 * b')).toNatClampNeg)) with
      | false => exact ⟨I, sgb_Ch_leather_38 .., cF_refl⟩
      | true =>
        rw [hk1, hk2] at hin
        obtain ⟨K, k1, k2, k3⟩ := k_lay (X := X) (d := d) (al := al) (D := D) (L := L) (I := I) (P := PT I b' 0 0) x 0 0 hb2 n6 hc rfl (bits_in hin (by omega))
        simp only [cond_false, cond_true, k1, Option.bind_some, pm_ai, sgb_Ch_leather_51]
        exact ⟨K, rfl, fun a a1 a2 => by funext j; exact k2 a j (by omega) (by omega), k2 _ _ (by omega) (by omega), k2 _ _ (by omega) (by omega), by funext j; exact k2 _ j (by omega) (by omega)⟩
theorem cF_la {J : Nat → Nat → Int32} (k2 : laF I J) : cF I J := ⟨fun a a1 a2 => by funext j; exact k2 a j (by omega) (by omega), k2 _ _ (by omega) (by omega), k2 _ _ (by omega) (by omega), by funext j; exact k2 _ j (by omega) (by omega)⟩
def vJoined (I : Nat → Nat → Int32) (m : Nat → Nat) (b x : Int32) : Int32 := cond (pm_in b (m 0) && pm_in x (I 87 (29 * b.toNatClampNeg)).toNatClampNeg) (Int32.ofNat ((lv (PT I b.toNatClampNeg 0 0) (I 87 (29 * b.toNatClampNeg)).toNatClampNeg (mk1 (Int32.ofNat (I 87 (29 * b.toNatClampNeg)).toNatClampNeg))).2 x.toNatClampNeg)) (-1)
theorem mk_bits {n : Nat} (hn : n ≤ 6) : ∀ k, k < 32 → tb (mk1 (Int32.ofNat n)) k = true → k < n := fun k hk h => by
  rw [tb_mk hn hk, decide_eq_true_iff] at h; exact h
theorem r_joined {m : Nat → Nat} (b x : Int32) (g : rG I m) : ∃ J, Cl X (d + 6) 272 [vr 81, vi b, vi x] (pm_mm al D I L) = some (some (vi (vJoined I m b x)), pm_mm al D J L) ∧ rF I J := by
  rw [Cl_s]
  show ∃ J, Rn X (d + 5) co_Mo_joined (0, [some (vr 81), some (vi b), some (vi x)], [], pm_mm al D I L) = _ ∧ _
  obtain ⟨m0, e0⟩ := g.1 0 (by omega)
  rw [sg_Mo_joined_0, vJoined]
  cases hb : pm_in b (m 0) with
  | false =>
    rw [c_handHome_f (d := d + 1) (I := pm_up I 81 0 0) m0 e0 hb]
    simp only [Option.bind_some, pm_ai, sg_Mo_joined_10, sg_Mo_joined_21]
    exact ⟨_, rfl, rF_code.trans (fun a h1 h2 => by rw [up_rw h1, up_rw h1])⟩
  | true =>
    obtain ⟨b', hb', eb⟩ := in_nat hb
    obtain ⟨J, e1, e2, e3, e44, e45⟩ := c_handHome_t (X := X) (d := d + 1) (al := al) (D := D) (L := L) (I := pm_up I 81 0 0) m0 e0 hb'
    have hF : rF I J := rF_code.trans (rF_hh e2)
    have J87 : ∀ j, J 87 j = I 87 j := fun j => (e2 87 j (by unfold hhS hdS; omega)).trans (up_ne (by omega))
    have n6 : (I 87 (29 * b')).toNatClampNeg ≤ 6 := (g.2.1 b' hb').1
    have J25 : J 81 25 = Int32.ofNat (I 87 (29 * b')).toNatClampNeg := e3.2.1.trans (n_of (g.2.1 b' hb').2.1)
    subst eb
    rw [e1, n_tn (by omega)]
    have hip := c_isPipe (X := X) (d := d + 3) (al := al) (D := D) (L := L) (I := J) x (by omega) J25
    simp only [Option.bind_some, pm_ai, sg_Mo_joined_10, sg_Mo_joined_21, hip, sg_Mo_joined_18, b01_ne, show decide ((1 : Int32) = 0) = false from rfl, cond_false, Bool.true_and]
    cases hx : pm_in x (I 87 (29 * b')).toNatClampNeg with
    | false => exact ⟨J, rfl, hF⟩
    | true =>
      obtain ⟨x', hx', ex⟩ := in_nat hx
      obtain ⟨K, k1, k2, k3⟩ := c_leatherB (X := X) (d := d) (al := al) (D := D) (L := L) (I := I) (J := J) (mk1 (Int32.ofNat (I 87 (29 * b')).toNatClampNeg)) g hb' e3 J87 (mk_bits n6)
      rw [e44, e45] at k3
      subst ex
      have k1 : Cl X (d + 5) 229 [vr 81, vi ((1 <<< (Int32.ofNat (I 87 (29 * b')).toNatClampNeg &&& 31)) - 1)] (pm_mm al D J L) = _ := k1
      simp only [Bool.not_true, cond_false, cond_true]
      rw [J25, k1]
      simp (disch := omega) only [Option.bind_some, pm_ai, sg_Mo_joined_35, n_in, dt, cond_true, n_tn]
      rw [k3 x' (by omega) (by rw [tb_mk n6 (by omega), dt hx'])]
      exact ⟨K, rfl, hF.trans (fun a h1 h2 => by funext j; exact k2 a j (by omega))⟩
theorem q_joined {m : Nat → Nat} (b x : Int32) (g : rG I m) (r : RL I m) : ∃ J, Cl X (d + 5) 144 [vr 1, vi b, vi x] (pm_mm al D I L) = some (some (vi (vJoined I m b x)), pm_mm al D J L) ∧ cF I J := by
  rw [Cl_s]
  show ∃ J, Rn X (d + 4) co_Ch_joined (0, [some (vr 1), some (vi b), some (vi x), none], [], pm_mm al D I L) = _ ∧ _
  have m0 := (g.1 0 (by omega)).1
  have h1 : Cl X (d + 4) 93 [vr 2, vi 0, vi b] (pm_mm al D I L) = _ := k_has (d := d + 3) (s := 0) (m := m 0) b (by omega) m0 ((r.1 0 (by omega)).trans (g.1 0 (by omega)).2)
  rw [sg_Ch_joined_x_0, h1, vJoined]
  simp only [Option.bind_some, pm_ai]
  cases hb : pm_in b (m 0) with
  | false => exact ⟨I, (sg_Ch_joined_x0_9 ..).trans (sgb_Ch_joined_32 ..), cF_refl⟩
  | true =>
    obtain ⟨b', hb', eb⟩ := in_nat hb
    subst eb
    have hb2 : b' < 2 := by omega
    rw [n_tn (by omega)]
    have n6 := (g.2.1 b' hb').1
    have hc := cP_of (sx := 0) (sy := 0) g r hb'
    have c9 := sgb_Ch_joined_9 (b := b') hb2 X (d + 4) x none 1 al D I L
    have hin := in_two (k := x) (n := (I 87 (29 * b')).toNatClampNeg) (by omega)
    rw [show b01 true = 1 from rfl, c9, show decide ((1 : Int32) = 0) = false from rfl, cond_false, hc.1, hin]
    cases hk1 : decide (x < 0) with
    | true => exact ⟨I, sgb_Ch_joined_32 .., cF_refl⟩
    | false =>
      cases hk2 : decide (x < Int32.ofNat (I 87 (29 * b')).toNatClampNeg) with
      | false => exact ⟨I, sgb_Ch_joined_32 .., cF_refl⟩
      | true =>
        rw [hk1, hk2] at hin
        obtain ⟨x', hx', ex⟩ := in_nat hin
        subst ex
        obtain ⟨K, k1, k2, k3⟩ := k_lay (X := X) (d := d) (al := al) (D := D) (L := L) (I := I) (P := PT I b' 0 0) (mk1 (Int32.ofNat (I 87 (29 * b')).toNatClampNeg)) 0 0 hb2 n6 hc rfl (mk_bits n6)
        have k1 : Cl X (d + 4) 32 [vr 73, vr (9 + 5 * b'), vi ((1 <<< (Int32.ofNat (I 87 (29 * b')).toNatClampNeg &&& 31)) - 1), vi 0, vi 0] (pm_mm al D I L) = _ := k1
        simp (disch := omega) only [cond_false, cond_true, k1, Option.bind_some, pm_ai, sgb_Ch_joined_62, n_in, dt, n_tn]
        rw [k3 x' hx' (by rw [tb_mk n6 (by omega), dt hx'])]
        exact ⟨K, rfl, cF_la k2⟩
/-- the tree's length stays small -/
theorem lth_rg {P : Nat → Int32 × Int32} {n : Nat} {set : Int32} (g : gP P n) (hn : n ≤ 6) : ∀ (k : Nat) (J sum : Int32) (fr : Nat → Nat) (c : Nat), c + k ≤ 100 → 0 ≤ sum.toInt → sum.toInt ≤ 18 * (c : Int) → 0 ≤ (lth P n set k J sum fr).1.toInt ∧ (lth P n set k J sum fr).1.toInt ≤ 18 * ((c : Int) + k)
  | 0, J, sum, fr, c, _, h1, h2 => ⟨h1, by show sum.toInt ≤ _; omega⟩
  | k + 1, J, sum, fr, c, hc, h1, h2 => by
    rw [lth]
    have hsp := wh_spec (ky P n J) (fun p => tb set p && !tb J p) n
    have hw' : fo (wh1 (ky P n J) (fun p => tb set p && !tb J p)) n none = whf (ky P n J) (fun p => tb set p && !tb J p) n := rfl
    rw [hw'] at hsp
    cases hw : whf (ky P n J) (fun p => tb set p && !tb J p) n with
    | none => exact ⟨h1, by show sum.toInt ≤ _; omega⟩
    | some p =>
      rw [hw] at hsp
      have hp := (hsp.1 p rfl).1
      have hd := (dst_ti g (Or.inl hp) (nt_le (P := P) (p := p) (J := J) hn)).2
      have e : (sum + ky P n J p).toInt = sum.toInt + (dst P p (nt P n p J)).toInt := t_add (by rw [ky]; omega) (by rw [ky]; omega)
      have := lth_rg (set := set) g hn k (J ||| (1 <<< (Int32.ofNat p &&& 31))) (sum + ky P n J p) (fun q => if q = p then nt P n p J else fr q) (c + 1) (by omega) (by omega) (by omega)
      simp only
      omega
theorem lv_rg {P : Nat → Int32 × Int32} {n : Nat} (set : Int32) (g : gP P n) (hn : n ≤ 6) : 0 ≤ (lv P n set).1.toInt ∧ (lv P n set).1.toInt ≤ 108 := by
  have := lth_rg (set := set) g hn n 0 0 (fun _ => 6) 0 (by omega) (by decide) (by decide)
  rw [lv]; omega
end
