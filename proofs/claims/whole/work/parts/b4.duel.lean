section
variable {X : Nat × (Nat → Int32)} {d : Nat} {al : List Nat} {D : Nat → Bool} {I : Nat → Nat → Int32} {L : Nat → Nat → Int64}
def evn (t : Nat) : Bool := decide (t % 2 = 0)
/-- the values of the tree, k turns ahead of its ends -/
def vv (B : DB) (n : Nat) : Nat → Nat → Int32 × Int32
  | 0, q => (ev (pre B n q), -1)
  | k + 1, q => rfo (evn (n - 1 - k)) (fun v => (vv B n k (7 * q + v)).1)
theorem pre_rg {B : DB} (g : gD B) : ∀ (t q : Nat) (s : DS), t ≤ 4 → pre B t q = some s → -(9 * (t : Int)) ≤ s.2.2.toInt ∧ s.2.2.toInt ≤ 9 * (t : Int)
  | 0, q, s, _, h => by
    cases h
    show -(9 * ((0 : Nat) : Int)) ≤ (0 : Int32).toInt ∧ (0 : Int32).toInt ≤ 9 * ((0 : Nat) : Int)
    exact ⟨by decide, by decide⟩
  | t + 1, q, s, ht, h => by
    rw [pre] at h
    cases hp : pre B t (q / 7) with
    | none => rw [hp] at h; cases h
    | some s0 =>
      rw [hp] at h
      have ih := pre_rg g t (q / 7) s0 (by omega) hp
      have h : mv B t (q % 7) s0 = some s := h
      rw [mv] at h
      cases hl : lg B s0.1 s0.2.1 (q % 7) with
      | false => rw [hl] at h; cases h
      | true =>
        rw [hl, cond_true] at h
        by_cases h6 : q % 7 = 6
        · rw [dt h6, cond_true] at h; cases h; show _ ≤ s0.2.2.toInt ∧ s0.2.2.toInt ≤ _; omega
        · rw [df h6, cond_false] at h
          cases h
          have hvn : q % 7 < B.2.2.1 := by rcases lg_lt hl with h | h; exact absurd h h6; exact h
          obtain ⟨w1, w2⟩ := g.2 _ hvn
          show _ ≤ (s0.2.2 + sg t (B.2.2.2.2 (q % 7))).toInt ∧ (s0.2.2 + sg t (B.2.2.2.2 (q % 7))).toInt ≤ _
          have hsg : (sg t (B.2.2.2.2 (q % 7))).toInt = (B.2.2.2.2 (q % 7)).toInt ∨ (sg t (B.2.2.2.2 (q % 7))).toInt = -(B.2.2.2.2 (q % 7)).toInt := by
            rw [sg]
            cases decide (t % 2 = 0) with
            | true => exact Or.inl rfl
            | false =>
              right; rw [cond_false, Int32.toInt_neg]; exact bm (by omega) (by omega)
          rw [t_add (by omega) (by omega)]; omega
def tv (B : DB) (t k : Nat) : Option DS → Int32
  | none => -9999
  | some s => cond (evn t) (s.2.2 + BL B k s.1 s.2.1) (s.2.2 - BL B k s.1 s.2.1)
theorem vv_step {B : DB} (g : gD B) {n k t : Nat} (hn : n ≤ 4) (ht : t + (k + 1) = n) (q : Nat) (ih : ∀ q, (vv B n k q).1 = tv B (t + 1) k (pre B (t + 1) q)) :
    (pre B t q = none → vv B n (k + 1) q = (-9999, -1)) ∧ ∀ s, pre B t q = some s → ∃ u, u < 7 ∧ lg B s.1 s.2.1 u = true ∧ LB B k s.1 s.2.1 u = BL B (k + 1) s.1 s.2.1 ∧ vv B n (k + 1) q = (tv B t (k + 1) (some s), Int32.ofNat u) ∧ ∀ v, v < u → lg B s.1 s.2.1 v = true → LB B k s.1 s.2.1 v ≠ BL B (k + 1) s.1 s.2.1 := by
  have hch : ∀ v, v < 7 → pre B (t + 1) (7 * q + v) = (pre B t q).bind (mv B t v) := fun v hv => by
    rw [pre, show (7 * q + v) / 7 = q by omega, show (7 * q + v) % 7 = v by omega]
  have het : evn (n - 1 - k) = evn t := by rw [show n - 1 - k = t by omega]
  have he1 : evn (t + 1) = !evn t := by
    rw [evn, evn]
    by_cases h : t % 2 = 0
    · rw [dt h, df (show ¬ (t + 1) % 2 = 0 by omega)]; rfl
    · rw [df h, dt (show (t + 1) % 2 = 0 by omega)]; rfl
  refine ⟨fun hp => ?_, fun s hp => ?_⟩
  · rw [vv, rfo]
    have hx : ∀ v, v < 7 → (vv B n k (7 * q + v)).1 = cond ((fun _ => false : Nat → Bool) v) ((fun _ => 0 : Nat → Int32) v) (-9999) := fun v hv => by
      rw [ih, hch v hv, hp]; rfl
    rcases rf_spec (most := evn (n - 1 - k)) hx (fun v _ h => by cases h) 7 (Nat.le_refl _) with ⟨_, h⟩ | ⟨u, _, hu, _⟩
    · exact h
    · cases hu
  · have hpr := pre_rg g t q s (by omega) hp
    -- a child's value
    have hval : ∀ v, v < 7 → (vv B n k (7 * q + v)).1 = cond (lg B s.1 s.2.1 v) (cond (evn t) (s.2.2 + LB B k s.1 s.2.1 v) (s.2.2 - LB B k s.1 s.2.1 v)) (-9999) := fun v hv => by
      rw [ih, hch v hv, hp]
      show tv B (t + 1) k (mv B t v s) = _
      rw [mv]
      cases hl : lg B s.1 s.2.1 v with
      | false => rfl
      | true =>
        rw [cond_true, cond_true, LB]
        by_cases h6 : v = 6
        · rw [dt h6, cond_true, if_pos h6]
          show cond (evn (t + 1)) (s.2.2 + BL B k (mn B.1 (s.1 + B.2.1)) s.2.1) (s.2.2 - BL B k (mn B.1 (s.1 + B.2.1)) s.2.1) = _
          rw [he1]
          cases evn t
          · show s.2.2 + BL B k (mn B.1 (s.1 + B.2.1)) s.2.1 = s.2.2 - -BL B k (mn B.1 (s.1 + B.2.1)) s.2.1
            rw [Int32.sub_eq_add_neg, Int32.neg_neg]
          · show s.2.2 - BL B k (mn B.1 (s.1 + B.2.1)) s.2.1 = s.2.2 + -BL B k (mn B.1 (s.1 + B.2.1)) s.2.1
            rw [Int32.sub_eq_add_neg]
        · rw [df h6, cond_false, if_neg h6]
          show cond (evn (t + 1)) (s.2.2 + sg t (B.2.2.2.2 v) + BL B k (s.1 - B.2.2.2.1 v) (s.2.1 ||| (1 <<< (Int32.ofNat v &&& 31)))) (s.2.2 + sg t (B.2.2.2.2 v) - BL B k (s.1 - B.2.2.2.1 v) (s.2.1 ||| (1 <<< (Int32.ofNat v &&& 31)))) = _
          generalize BL B k (s.1 - B.2.2.2.1 v) (s.2.1 ||| (1 <<< (Int32.ofNat v &&& 31))) = z
          rw [he1, sg]
          cases he : evn t
          · rw [show decide (t % 2 = 0) = false from he]
            show s.2.2 + -(B.2.2.2.2 v) + z = s.2.2 - (B.2.2.2.2 v - z)
            rw [Int32.sub_eq_add_neg s.2.2, Int32.neg_sub, Int32.sub_eq_add_neg z, Int32.add_comm z, Int32.add_assoc]
          · rw [show decide (t % 2 = 0) = true from he]
            show s.2.2 + B.2.2.2.2 v - z = s.2.2 + (B.2.2.2.2 v - z)
            rw [Int32.sub_eq_add_neg, Int32.sub_eq_add_neg, Int32.add_assoc]
    have hy : ∀ v, v < 7 → lg B s.1 s.2.1 v = true → (cond (evn t) (s.2.2 + LB B k s.1 s.2.1 v) (s.2.2 - LB B k s.1 s.2.1 v)).toInt = cond (evn t) (s.2.2.toInt + (LB B k s.1 s.2.1 v).toInt) (s.2.2.toInt - (LB B k s.1 s.2.1 v).toInt) ∧ -36 ≤ (LB B k s.1 s.2.1 v).toInt ∧ (LB B k s.1 s.2.1 v).toInt ≤ 36 := fun v hv hl => by
      have hr := LB_rg g (t := k) (by omega) hl
      refine ⟨?_, hr⟩
      cases evn t
      · exact t_sub (by omega) (by omega)
      · exact t_add (by omega) (by omega)
    rcases rf_spec (most := evn t) hval (fun v hv hl => by
      obtain ⟨e, h1, h2⟩ := hy v hv hl
      rw [e]; cases evn t
      · show -100 ≤ s.2.2.toInt - _ ∧ s.2.2.toInt - _ ≤ 100; omega
      · show -100 ≤ s.2.2.toInt + _ ∧ s.2.2.toInt + _ ≤ 100; omega) 7 (Nat.le_refl _) with ⟨h1, _⟩ | ⟨u, hu, hlu, e, h3, h4⟩
    · have := h1 6 (by omega)
      rw [show lg B s.1 s.2.1 6 = true from rfl] at this; cases this
    · obtain ⟨⟨w, hw, ew⟩, hall⟩ := BL_max g.1 k s.1 s.2.1
      have hw7 : w < 7 := by rcases lg_lt hw with h | h; omega; have := g.1; omega
      obtain ⟨eu, u1, u2⟩ := hy u hu hlu
      obtain ⟨ew2, w1, w2⟩ := hy w hw7 hw
      have hLB : LB B k s.1 s.2.1 u = BL B (k + 1) s.1 s.2.1 := by
        rw [t_eq]
        have a1 := hall u hlu
        have a2 := h3 w hw7 hw
        rw [eu, ew2] at a2
        rw [ew] at a1 ⊢
        cases he : evn t with
        | true =>
          rw [he] at a2
          have a2 : s.2.2.toInt + (LB B k s.1 s.2.1 w).toInt ≤ s.2.2.toInt + (LB B k s.1 s.2.1 u).toInt := a2
          omega
        | false =>
          rw [he] at a2
          have a2 : s.2.2.toInt - (LB B k s.1 s.2.1 u).toInt ≤ s.2.2.toInt - (LB B k s.1 s.2.1 w).toInt := a2
          omega
      refine ⟨u, hu, hlu, hLB, ?_, fun v hv hlv hc => ?_⟩
      · rw [vv, rfo, het, e, tv, hLB]
      · have a3 := h4 v hv hlv
        obtain ⟨ev2, v1, v2⟩ := hy v (by omega) hlv
        rw [eu, ev2] at a3
        have hc' : (LB B k s.1 s.2.1 v).toInt = (LB B k s.1 s.2.1 u).toInt := by rw [hc, hLB]
        cases he : evn t with
        | true =>
          rw [he] at a3
          have a3 : s.2.2.toInt + (LB B k s.1 s.2.1 v).toInt < s.2.2.toInt + (LB B k s.1 s.2.1 u).toInt := a3
          omega
        | false =>
          rw [he] at a3
          have a3 : s.2.2.toInt - (LB B k s.1 s.2.1 u).toInt < s.2.2.toInt - (LB B k s.1 s.2.1 v).toInt := a3
          omega
theorem vv_tv {B : DB} (g : gD B) {n : Nat} (hn : n ≤ 4) : ∀ k t, t + k = n → ∀ q, (vv B n k q).1 = tv B t k (pre B t q)
  | 0, t, ht, q => by
    obtain rfl : t = n := by omega
    show ev (pre B t q) = _
    cases pre B t q with
    | none => rfl
    | some s =>
      show s.2.2 = cond (evn t) (s.2.2 + BL B 0 s.1 s.2.1) (s.2.2 - BL B 0 s.1 s.2.1)
      rw [BL, Int32.add_zero, Int32.sub_zero]; cases evn t <;> rfl
  | k + 1, t, ht, q => by
    obtain ⟨h1, h2⟩ := vv_step g hn ht q (vv_tv g hn k (t + 1) (by omega))
    cases hp : pre B t q with
    | none => rw [h1 hp]; rfl
    | some s =>
      obtain ⟨u, _, _, _, e, _⟩ := h2 s hp
      rw [e]
theorem fm_eq {B : DB} (hn : B.2.2.1 ≤ 6) {t u : Nat} (hu : u < 7) (hl : lg B B.1 0 u = true) (he : LB B t B.1 0 u = BL B (t + 1) B.1 0) (hb : ∀ v, v < u → lg B B.1 0 v = true → LB B t B.1 0 v ≠ BL B (t + 1) B.1 0) : ∀ k p, p + k = B.2.2.1 → p ≤ u → fm B t p k = u
  | 0, p, hp, hpu => by
    show 6 = u
    rcases lg_lt hl with h | h <;> omega
  | k + 1, p, hp, hpu => by
    rw [fm]
    by_cases h : p = u
    · subst h; rw [hl, dt he]; rfl
    · have : (lg B B.1 0 p && decide (LB B t B.1 0 p = BL B (t + 1) B.1 0)) = false := by
        cases hlp : lg B B.1 0 p with
        | false => rfl
        | true => rw [df (hb p (by omega) hlp)]; rfl
      rw [this, cond_false]; exact fm_eq hn hu hl he hb k (p + 1) (by omega) (by omega)
theorem vv_root {B : DB} (g : gD B) {n : Nat} (hn : n < 4) : vv B (n + 1) (n + 1) 0 = (BL B (n + 1) B.1 0, Int32.ofNat (fm B n 0 B.2.2.1)) := by
  obtain ⟨_, h2⟩ := vv_step g (n := n + 1) (k := n) (t := 0) (by omega) (by omega) 0 (vv_tv g (by omega) n 1 (by omega))
  obtain ⟨u, hu, hl, he, e, hb⟩ := h2 (B.1, 0, 0) rfl
  rw [e, fm_eq g.1 hu hl he hb B.2.2.1 0 (by omega) (by omega)]
  show ((0 : Int32) + BL B (n + 1) B.1 0, _) = _
  rw [Int32.zero_add]
def vDuel (I : Nat → Nat → Int32) (m : Nat → Nat) (b n : Int32) (first : Bool) : Int32 := cond (pm_in n 5 && pm_in b (m 0))
  (let B := dbR I b.toNatClampNeg (I 87 (29 * b.toNatClampNeg)).toNatClampNeg; cond first (cond (decide (n = 0)) (-1) (Int32.ofNat (fm B (n.toNatClampNeg - 1) 0 B.2.2.1))) (BL B n.toNatClampNeg B.1 0)) (-999)
def duF (J K : Nat → Nat → Int32) : Prop := ∀ a j, a ≠ 105 → ¬ (a = 81 ∧ j = 48) → K a j = J a j
theorem gD_R {m : Nat → Nat} {b : Nat} (g : rG I m) (hb : b < m 0) : gD (dbR I b (I 87 (29 * b)).toNatClampNeg) := ⟨(g.2.1 b hb).1, fun p hp => ((g.2.1 b hb).2.2.2.2.2.2 p hp).2.1⟩
theorem r_duel {m : Nat → Nat} (b n : Int32) (first : Bool) (g : rG I m) : ∃ J, Cl X (d + 4) 239 [vr 81, vi b, vi n, vi (b01 first)] (pm_mm al D I L) = some (some (vi (vDuel I m b n first)), pm_mm al D J L) ∧ rF I J := by
  rw [Cl_s]
  show ∃ J, Rn X (d + 3) co_Mo_duel (0, [some (vr 81), some (vi b), some (vi n), some (vi (b01 first)), none, none, none], [], pm_mm al D I L) = _ ∧ _
  obtain ⟨m0, e0⟩ := g.1 0 (by omega)
  have h5 : (if 0 ≤ n ∧ n ≤ 4 then (1 : Int32) else 0) = b01 (pm_in n 5) := in_m (m := 5) (by omega)
  rw [sg_Mo_duel_0, vDuel]
  simp only [c_in, h5, Option.bind_some, pm_ai, sg_Mo_duel_11, b01_ne, sg_Mo_duel_22]
  cases hn : pm_in n 5 with
  | false => exact ⟨_, rfl, rF_code⟩
  | true =>
    simp only [Bool.not_true, cond_false, Bool.true_and]
    cases hb : pm_in b (m 0) with
    | false =>
      rw [c_hand_f (d := d) (I := pm_up I 81 0 0) m0 e0 hb]
      simp only [Option.bind_some, pm_ai, sg_Mo_duel_19, sg_Mo_duel_22]
      exact ⟨_, rfl, rF_code⟩
    | true =>
      obtain ⟨b', hb', eb⟩ := in_nat hb
      obtain ⟨N, hN, eN⟩ := in_nat hn
      obtain ⟨J, e1, e2, e3⟩ := c_hand_t (X := X) (d := d) (al := al) (D := D) (L := L) (I := pm_up I 81 0 0) m0 e0 hb'
      have hF : rF I J := rF_code.trans (fun a h1 h2 => by funext j; exact e2 a j (by unfold hdS; omega))
      have J87 : ∀ j, J 87 j = I 87 j := fun j => (e2 87 j (by unfold hdS; omega)).trans (up_ne (by omega))
      have n6 : (I 87 (29 * b')).toNatClampNeg ≤ 6 := (g.2.1 b' hb').1
      have J25 : J 81 25 = Int32.ofNat (I 87 (29 * b')).toNatClampNeg := e3.2.1.trans (n_of (g.2.1 b' hb').2.1)
      have gd := gD_R g hb'
      subst eb eN
      rw [e1, n_tn (by omega), n_tn (by omega)]
      generalize hBB : dbR I b' (I 87 (29 * b')).toNatClampNeg = B at gd
      have h74 : ∀ k, k ≤ 4 → 7 ^ k ≤ 2401 ∧ 1 ≤ 7 ^ k := fun k hk => ⟨Nat.pow_le_pow_right (n := 7) (by decide) hk, Nat.one_le_pow k 7 (by decide)⟩
      have hN7 := h74 N (by omega)
      have kB : ∀ K, duF J K → dbR K b' (I 87 (29 * b')).toNatClampNeg = B := fun K hK => by
        rw [← hBB]
        have e87 : ∀ j, K 87 j = I 87 j := fun j => (hK 87 j (by omega) (by omega)).trans (J87 j)
        simp only [dbR, e87]
      -- the ends
      obtain ⟨K, k1, k2, k3⟩ := lp (σ := Nat → Nat → Int32) (7 ^ N) (fun q K => Rn X (d + 3) co_Mo_duel (35, [some (vr 81), some (vi (Int32.ofNat b')), some (vi (Int32.ofNat N)), some (vi (b01 first)), some (vi (Int32.ofNat (7 ^ N))), some (vi (Int32.ofNat q)), none], [], pm_mm al D K L)) (fun k K => duF J K ∧ ∀ q, q < k → K 105 q = (vv B N 0 q).1) (fun q K hq hK => by
        refine ⟨pm_up K 105 q (vv B N 0 q).1, ?_, fun a j a1 a2 => by rw [up_ne (by omega)]; exact hK.1 a j a1 a2, fun p hp => ?_⟩
        · show Rn X (d + 3) co_Mo_duel _ = Rn X (d + 3) co_Mo_duel _
          have he := c_endOf (X := X) (d := d) (al := al) (D := D) (L := L) (I := K) (b := b') (n := (I 87 (29 * b')).toNatClampNeg) (N := N) (q := q) (by omega) ((hK.1 81 23 (by omega) (by omega)).trans e3.1) n6 ((hK.1 81 25 (by omega) (by omega)).trans J25) (by omega) hq
          rw [kB K hK.1] at he
          rw [sg_Mo_duel_35]
          simp (disch := omega) only [n_dle, df, cond_false, he, Option.bind_some, pm_ai, sg_Mo_duel_55, n_in, dt, cond_true, n_tn, n_s]
          rfl
        · by_cases hpq : p = q
          · subst hpq; rw [up_eq]
          · rw [up_ne (by omega)]; exact hK.2 p (by omega)) 0 J (Nat.zero_le _) ⟨fun _ _ _ _ => rfl, fun q hq => absurd hq (Nat.not_lt_zero q)⟩
      have k1 : Rn X (d + 3) co_Mo_duel (35, [some (vr 81), some (vi (Int32.ofNat b')), some (vi (Int32.ofNat N)), some (vi (b01 first)), some (vi (Int32.ofNat (7 ^ N))), some (vi 0), none], [], pm_mm al D J L) = Rn X (d + 3) co_Mo_duel (35, [some (vr 81), some (vi (Int32.ofNat b')), some (vi (Int32.ofNat N)), some (vi (b01 first)), some (vi (Int32.ofNat (7 ^ N))), some (vi (Int32.ofNat (7 ^ N))), none], [], pm_mm al D K L) := k1
      -- the turns, backwards
      have turns : ∀ t k K x5 o6, t + k = N → duF J K → (t = 0 → x5 < 0) → (∀ i, t = i + 1 → x5 = Int32.ofNat i) → (∀ q, q < 7 ^ t → K 105 q = (vv B N k q).1) → (1 ≤ k → t = 0 → K 81 48 = (vv B N k 0).2) → (k = 0 → K 81 48 = -1) → ∃ M, Rn X (d + 3) co_Mo_duel (72, [some (vr 81), some (vi (Int32.ofNat b')), some (vi (Int32.ofNat N)), some (vi (b01 first)), some (vi (Int32.ofNat (7 ^ t))), some (vi x5), o6], [], pm_mm al D K L) = some (some (vi (cond first (vv B N N 0).2 (vv B N N 0).1)), pm_mm al D M L) ∧ duF J M := by
        intro t
        induction t with
        | zero =>
          intro k K x5 o6 hk hK h0 _ hv hw hw0
          obtain rfl : k = N := by omega
          refine ⟨K, ?_, hK⟩
          rw [sg_Mo_duel_72, dt (h0 rfl), cond_true, b01_ne]
          simp only [sg_Mo_duel_151]
          cases first with
          | true =>
            show some (some (vi (K 81 48)), pm_mm al D K L) = some (some (vi (vv B k k 0).2), pm_mm al D K L)
            have hw2 : K 81 48 = (vv B k k 0).2 := by
              cases k with
              | zero => rw [hw0 rfl]; rfl
              | succ k => exact hw (by omega) rfl
            rw [hw2]
          | false =>
            show some (some (vi (K 105 0)), pm_mm al D K L) = some (some (vi (vv B k k 0).1), pm_mm al D K L)
            rw [hv 0 (by rw [Nat.pow_zero]; omega)]
        | succ t ih =>
          intro k K x5 o6 hk hK _ hx hv _ _
          have ht7 := h74 t (by omega)
          have ht8 := h74 (t + 1) (by omega)
          have p7 : 7 ^ (t + 1) = 7 * 7 ^ t := by rw [Nat.pow_succ, Nat.mul_comm]
          have x1 : Int32.ofNat (7 ^ (t + 1)) / 7 = Int32.ofNat (7 ^ t) := by
            have := n_div (a := 7 ^ (t + 1)) (b := 7) (by omega) (by omega) (by omega)
            rw [p7, Nat.mul_div_cancel_left _ (by omega)] at this
            rw [p7]; exact this
          have x2 : Int32.ofNat t - Int32.ofNat t / 2 * 2 = Int32.ofNat (t % 2) := n_rem (a := t) (b := 2) (by omega) (by omega) (by omega)
          have x3 : decide (Int32.ofNat (t % 2) = 0) = evn t := n_deq (b := 0) (by omega) (by omega)
          rw [hx t rfl]
          -- one level
          obtain ⟨Q, q1, q2, q3, q4, q5⟩ := lp (σ := Nat → Nat → Int32) (7 ^ t) (fun j Q => Rn X (d + 3) co_Mo_duel (87, [some (vr 81), some (vi (Int32.ofNat b')), some (vi (Int32.ofNat N)), some (vi (b01 first)), some (vi (Int32.ofNat (7 ^ t))), some (vi (Int32.ofNat t)), some (vi (Int32.ofNat j))], [], pm_mm al D Q L)) (fun j Q => duF J Q ∧ (∀ q, q < j → Q 105 q = (vv B N (k + 1) q).1) ∧ (∀ q, j ≤ q → q < 7 ^ (t + 1) → Q 105 q = (vv B N k q).1) ∧ (∀ i, j = i + 1 → Q 81 48 = (vv B N (k + 1) i).2)) (fun j Q hj hq => by
            obtain ⟨a1, a2, a3, a4⟩ := hq
            have hf := c_fold (X := X) (d := d + 2) (al := al) (D := D) (L := L) (I := Q) (at' := 7 * j) (evn t) (by omega)
            have hfv : rfo (evn t) (fun v => Q 105 (7 * j + v)) = vv B N (k + 1) j := by
              rw [vv, show N - 1 - k = t by omega]
              show fo (rf1 (evn t) (fun v => Q 105 (7 * j + v))) 7 (-9999, -1) = fo (rf1 (evn t) (fun v => (vv B N k (7 * j + v)).1)) 7 (-9999, -1)
              exact fo_congr 7 _ (fun v s hv7 => by rw [rf1, rf1, a3 (7 * j + v) (by omega) (by omega)])
            rw [hfv] at hf
            refine ⟨pm_up (pm_up Q 81 48 (vv B N (k + 1) j).2) 105 j (vv B N (k + 1) j).1, ?_, fun a i b1 b2 => by rw [up_ne (by omega), up_ne (by omega)]; exact a1 a i b1 b2, fun q hq2 => ?_, fun q h1 h2 => by rw [up_ne (by omega), up_ne (by omega)]; exact a3 q (by omega) h2, fun i hi => ?_⟩
            · show Rn X (d + 3) co_Mo_duel _ = Rn X (d + 3) co_Mo_duel _
              have s118 : ∀ w : Bool, Rn X (d + 3) co_Mo_duel (118, [some (vr 81), some (vi (Int32.ofNat b')), some (vi (Int32.ofNat N)), some (vi (b01 first)), some (vi (Int32.ofNat (7 ^ t))), some (vi (Int32.ofNat t)), some (vi (Int32.ofNat j))], [vi (b01 w), vi (Int32.ofNat (7 * j)), vr 81, vi (Int32.ofNat j), vr 105], pm_mm al D Q L) = ((Cl X (d + 3) 238 [vr 81, vi (Int32.ofNat (7 * j)), vi (b01 w)] (pm_mm al D Q L)).bind pm_ai).bind (fun r => Rn X (d + 3) co_Mo_duel (121, [some (vr 81), some (vi (Int32.ofNat b')), some (vi (Int32.ofNat N)), some (vi (b01 first)), some (vi (Int32.ofNat (7 ^ t))), some (vi (Int32.ofNat t)), some (vi (Int32.ofNat j))], [vi r.1, vi (Int32.ofNat j), vr 105], r.2)) := fun w => sg_Mo_duel_118 ..
              have hg : ∀ w : Bool, evn t = w → Rn X (d + 3) co_Mo_duel (118, [some (vr 81), some (vi (Int32.ofNat b')), some (vi (Int32.ofNat N)), some (vi (b01 first)), some (vi (Int32.ofNat (7 ^ t))), some (vi (Int32.ofNat t)), some (vi (Int32.ofNat j))], [vi (b01 w), vi (Int32.ofNat (7 * j)), vr 81, vi (Int32.ofNat j), vr 105], pm_mm al D Q L) = Rn X (d + 3) co_Mo_duel (87, [some (vr 81), some (vi (Int32.ofNat b')), some (vi (Int32.ofNat N)), some (vi (b01 first)), some (vi (Int32.ofNat (7 ^ t))), some (vi (Int32.ofNat t)), some (vi (Int32.ofNat (j + 1)))], [], pm_mm al D (pm_up (pm_up Q 81 48 (vv B N (k + 1) j).2) 105 j (vv B N (k + 1) j).1) L) := fun w ew => by
                rw [s118 w, ← ew, hf]
                simp (disch := omega) only [Option.bind_some, pm_ai, sg_Mo_duel_121, n_in, dt, cond_true, n_tn, n_s]
              rw [sg_Mo_duel_87, x2, x3]
              simp (disch := omega) only [n_dle, df, cond_false, rml0, rml1, rml2, rml3, rml4, rml5, rml6, rml7, rml8, rml9, rml10, rml11, rml12, rml13, rml20, rml24, rml60, rml64, rml84, rml99, rml100, rml600, rml720, rml4096, rml1000000]
              cases he : evn t with
              | true => exact hg true he
              | false => exact hg false he
            · by_cases hqj : q = j
              · subst hqj; rw [up_eq]
              · rw [up_ne (by omega), up_ne (by omega)]; exact a2 q (by omega)
            · obtain rfl : i = j := by omega
              rw [up_ne (by omega), up_eq]) 0 K (Nat.zero_le _) ⟨hK, fun q hq => absurd hq (Nat.not_lt_zero q), fun q _ h2 => hv q h2, fun i hi => by omega⟩
          have q1 : Rn X (d + 3) co_Mo_duel (87, [some (vr 81), some (vi (Int32.ofNat b')), some (vi (Int32.ofNat N)), some (vi (b01 first)), some (vi (Int32.ofNat (7 ^ t))), some (vi (Int32.ofNat t)), some (vi 0)], [], pm_mm al D K L) = Rn X (d + 3) co_Mo_duel (87, [some (vr 81), some (vi (Int32.ofNat b')), some (vi (Int32.ofNat N)), some (vi (b01 first)), some (vi (Int32.ofNat (7 ^ t))), some (vi (Int32.ofNat t)), some (vi (Int32.ofNat (7 ^ t)))], [], pm_mm al D Q L) := q1
          have hlt : decide (Int32.ofNat t < 0) = false := (n_dlt (b := 0) (by omega) (by omega)).trans (df (by omega))
          rw [sg_Mo_duel_72, hlt, cond_false, x1, q1, sg_Mo_duel_87]
          simp (disch := omega) only [n_dle, dt, cond_true]
          refine ih (k + 1) Q _ _ (by omega) q2 (fun h => ?_) (fun i h => ?_) q3 (fun _ h => ?_) (fun h => by omega)
          · subst h; decide
          · subst h; exact n_m1 i
          · subst h; exact q5 0 rfl
      have hK2 : duF J (pm_up K 81 48 (-1)) := fun a j a1 a2 => by rw [up_ne (by omega)]; exact k2 a j a1 a2
      obtain ⟨M, f1, f2⟩ := turns N 0 (pm_up K 81 48 (-1)) (Int32.ofNat N - 1) none (by omega) hK2 (fun h => by subst h; decide) (fun i h => by subst h; exact n_sub (a := i + 1) (b := 1) (by omega)) (fun q hq => by rw [up_ne (by omega)]; exact k3 q hq) (fun h => by omega) (fun _ => up_eq)
      refine ⟨M, ?_, hF.trans (fun a h1 h2 => by funext j; exact f2 a j (by omega) (by omega))⟩
      simp only [Option.bind_some, pm_ai, sg_Mo_duel_19, show decide ((1 : Int32) = 0) = false from rfl, cond_false]
      rw [c_sevens (d := d + 2) (by omega)]
      simp only [Option.bind_some, pm_ai, sg_Mo_duel_30]
      rw [k1, sg_Mo_duel_35]
      simp (disch := omega) only [n_dle, dt, cond_true]
      rw [f1]
      cases N with
      | zero =>
        have : vv B 0 0 0 = (0, -1) := rfl
        rw [this]; rfl
      | succ N =>
        rw [vv_root gd (by omega), show decide (Int32.ofNat (N + 1) = 0) = false from (n_deq (b := 0) (by omega) (by omega)).trans (df (by omega))]
        rfl
theorem BL_congr {B C : DB} (h1 : B.1 = C.1) (h2 : B.2.1 = C.2.1) (h3 : B.2.2.1 = C.2.2.1) (h4 : ∀ p, p < C.2.2.1 → B.2.2.2.1 p = C.2.2.2.1 p ∧ B.2.2.2.2 p = C.2.2.2.2 p) : ∀ t br had, BL B t br had = BL C t br had
  | 0, _, _ => rfl
  | t + 1, br, had => by
    have ih := BL_congr h1 h2 h3 h4 t
    rw [BL, BL, h1, h2, h3, ih]
    refine fo_congr _ _ (fun p a hp => ?_)
    rw [bl1, bl1, (h4 p hp).1, (h4 p hp).2, ih]
theorem fm_congr {B C : DB} (hn : C.2.2.1 ≤ 6) (h1 : B.1 = C.1) (h2 : B.2.1 = C.2.1) (h3 : B.2.2.1 = C.2.2.1) (h4 : ∀ p, p < C.2.2.1 → B.2.2.2.1 p = C.2.2.2.1 p ∧ B.2.2.2.2 p = C.2.2.2.2 p) (t : Nat) : ∀ k p, p + k = C.2.2.1 → fm B t p k = fm C t p k
  | 0, _, _ => rfl
  | k + 1, p, hp => by
    have hb := BL_congr h1 h2 h3 h4
    rw [fm, fm, fm_congr hn h1 h2 h3 h4 t k (p + 1) (by omega), lg, lg, LB, LB, hb, hb, hb, h1, h2, h3, (h4 p (by omega)).1, (h4 p (by omega)).2]
theorem q_duel {m : Nat → Nat} (b n : Int32) (first : Bool) (g : rG I m) (r : RL I m) : Cl X (d + 12) 149 [vr 1, vi b, vi n, vi (b01 first)] (pm_mm al D I L) = some (some (vi (vDuel I m b n first)), pm_mm al D I L) := by
  rw [Cl_s]
  show Rn X (d + 11) co_Ch_duel (0, [some (vr 1), some (vi b), some (vi n), some (vi (b01 first)), none], [], pm_mm al D I L) = _
  have m0 := (g.1 0 (by omega)).1
  have h1 : Cl X (d + 11) 93 [vr 2, vi 0, vi b] (pm_mm al D I L) = _ := k_has (d := d + 10) (s := 0) (m := m 0) b (by omega) m0 ((r.1 0 (by omega)).trans (g.1 0 (by omega)).2)
  have e0 : (0 : Int32).toInt = 0 := rfl
  have hn2 : pm_in n 5 = (!decide (n < 0) && decide (n ≤ 4)) := by
    have e1 : (4 : Int32).toInt = 4 := rfl
    rw [Bool.eq_iff_iff, in_iff, Bool.and_eq_true, Bool.not_eq_true', decide_eq_false_iff_not, decide_eq_true_iff, t_lt, t_le]; omega
  rw [sg_Ch_duel_x_0, h1, vDuel]
  simp only [Option.bind_some, pm_ai]
  cases hb : pm_in b (m 0) with
  | false =>
    rw [Bool.and_false]
    exact (sg_Ch_duel_x0_9 ..).trans (sgb_Ch_duel_21 ..)
  | true =>
    obtain ⟨b', hb', eb⟩ := in_nat hb
    subst eb
    have hb2 : b' < 2 := by omega
    have n6 := (g.2.1 b' hb').1
    obtain ⟨r1, r2, r3, r4, r5, r6⟩ := r.2.1 b' hb'
    have en : I (9 + 5 * b') 4 = Int32.ofNat (I 87 (29 * b')).toNatClampNeg := r1.trans (n_of (g.2.1 b' hb').2.1)
    have hq : ∀ p, p < (dbR I b' (I 87 (29 * b')).toNatClampNeg).2.2.1 → (dbC I b' (I 87 (29 * b')).toNatClampNeg).2.2.2.1 p = (dbR I b' (I 87 (29 * b')).toNatClampNeg).2.2.2.1 p ∧ (dbC I b' (I 87 (29 * b')).toNatClampNeg).2.2.2.2 p = (dbR I b' (I 87 (29 * b')).toNatClampNeg).2.2.2.2 p := fun p hp => by
      obtain ⟨a1, a2, _⟩ := r6 p hp
      refine ⟨?_, ?_⟩
      · show I (10 + 5 * b') p = _; rw [show 10 + 5 * b' = 9 + 5 * b' + 1 by omega, a1]; rfl
      · show I (11 + 5 * b') p = _; rw [show 11 + 5 * b' = 9 + 5 * b' + 2 by omega, a2]; rfl
    have hBL := BL_congr (B := dbC I b' (I 87 (29 * b')).toNatClampNeg) (C := dbR I b' (I 87 (29 * b')).toNatClampNeg) r2 r4 rfl hq
    have hfm := fun t => fm_congr (B := dbC I b' (I 87 (29 * b')).toNatClampNeg) (C := dbR I b' (I 87 (29 * b')).toNatClampNeg) n6 r2 r4 rfl hq t (I 87 (29 * b')).toNatClampNeg 0 (Nat.zero_add _)
    refine Eq.trans (sgb_Ch_duel_9 (b := b') hb2 ..) ?_
    rw [show decide (b01 true = 0) = false from rfl, cond_false, hn2, n_tn (show b' < 2147483648 by omega)]
    simp only [sgb_Ch_duel_21]
    cases k3 : decide (n < 0) with
    | true => rfl
    | false =>
      cases k4 : decide (n ≤ 4) with
      | false => rfl
      | true =>
        rw [k3, k4] at hn2
        obtain ⟨N, hN, eN⟩ := in_nat hn2
        subst eN
        simp only [cond_false, cond_true, Bool.not_false, Bool.and_self, b01_ne]
        rw [n_tn (by omega)]
        cases first with
        | false =>
          have hL : Cl X (d + 11) 15 [vr (9 + 5 * b'), vi (Int32.ofNat N)] (pm_mm al D I L) = some (some (vi (BL (dbC I b' (I 87 (29 * b')).toNatClampNeg) N (dbC I b' (I 87 (29 * b')).toNatClampNeg).1 0)), pm_mm al D I L) := by
            rw [Cl_s]
            refine Eq.trans (show _ = Rn X (d + 10) co_Du_lead (0, [some (vr (9 + 5 * b')), some (vi (Int32.ofNat N))], [], pm_mm al D I L) from rfl) ?_
            have := (k_BL (X := X) (d := d + 10 - 2 * N - 1) (al := al) (D := D) (L := L) hb2 n6 en N (by omega)).1 (I (9 + 5 * b') 0) 0
            rw [show d + 10 - 2 * N - 1 + 2 * N + 1 = d + 10 by omega] at this
            rw [sgb_Du_lead_0 hb2, this]
            simp only [Option.bind_some, pm_ai, sgb_Du_lead_10]; rfl
          simp only [Bool.not_false, cond_true, hL, Option.bind_some, pm_ai, sgb_Ch_duel_61, cond_false]
          rw [hBL]
          show some (some (vi (BL (dbR I b' (I 87 (29 * b')).toNatClampNeg) N (I (9 + 5 * b') 0) 0)), pm_mm al D I L) = _
          rw [r2]; rfl
        | true =>
          simp only [Bool.not_true, cond_false, cond_true]
          cases N with
          | zero => rw [show decide (Int32.ofNat 0 = 0) = true from rfl]; simp only [cond_true, sgb_Ch_duel_54]
          | succ N =>
            rw [show decide (Int32.ofNat (N + 1) = 0) = false from (n_deq (b := 0) (by omega) (by omega)).trans (df (by omega)), k_bestMove hb2 n6 en (by omega)]
            simp only [cond_false, Option.bind_some, pm_ai, sgb_Ch_duel_54]
            rw [hfm]; rfl
end
