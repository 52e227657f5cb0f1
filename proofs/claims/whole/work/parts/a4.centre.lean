section
variable {X : Nat × (Nat → Int32)} {d : Nat} {al : List Nat} {D : Nat → Bool} {I : Nat → Nat → Int32} {L : Nat → Nat → Int64}
/-- the least of several, the first of them -/
def cs1 (f : Nat → Int32) (k : Nat) (s : Int32 × Int32) : Int32 × Int32 := cond (decide (s.1 ≤ f k)) s (f k, Int32.ofNat k)
def cs (f : Nat → Int32) (n : Nat) : Int32 × Int32 := fo (cs1 f) n (1000000, -1)
theorem cs_shift {f : Nat → Int32} {M z : Int32} (h1 : f 0 < 1000000) (h2 : f 0 < M) : ∀ n, fo (cs1 f) (n + 1) (M, z) = cs f (n + 1)
  | 0 => by
    rw [cs, fo, fo, fo, fo, cs1, cs1]
    rw [df (Int32.not_le.mpr h1), df (Int32.not_le.mpr h2)]; rfl
  | n + 1 => by
    have := cs_shift (f := f) (z := z) h1 h2 n
    rw [fo, this]; rfl
def ctv (I : Nat → Nat → Int32) (b : Nat) (k : Nat) : Int32 := (lv (PT I b (Int32.ofNat (k / 10)) (Int32.ofNat (k % 10))) (I 87 (29 * b)).toNatClampNeg (mk1 (Int32.ofNat (I 87 (29 * b)).toNatClampNeg))).1
theorem ctv_rg {m : Nat → Nat} {b k : Nat} (g : rG I m) (hb : b < m 0) (hk : k < 100) : 0 ≤ (ctv I b k).toInt ∧ (ctv I b k).toInt ≤ 108 :=
  lv_rg _ (gP_O g hb ⟨by rw [n_ti (by omega)]; omega, by rw [n_ti (by omega)]; omega⟩ ⟨by rw [n_ti (by omega)]; omega, by rw [n_ti (by omega)]; omega⟩) (g.2.1 b hb).1
def vCentre (I : Nat → Nat → Int32) (m : Nat → Nat) (b : Int32) (much : Bool) : Int32 := cond (pm_in b (m 0)) (cond much (cs (ctv I b.toNatClampNeg) 100).1 (cs (ctv I b.toNatClampNeg) 100).2) (-1)
def ceF (J K : Nat → Nat → Int32) : Prop := ∀ a j, a ≠ 104 → ¬ (a = 81 ∧ (j = 44 ∨ j = 45)) → K a j = J a j
theorem r_centre {m : Nat → Nat} (b : Int32) (much : Bool) (g : rG I m) : ∃ J, Cl X (d + 6) 275 [vr 81, vi b, vi (b01 much)] (pm_mm al D I L) = some (some (vi (vCentre I m b much)), pm_mm al D J L) ∧ rF I J := by
  rw [Cl_s]
  show ∃ J, Rn X (d + 5) co_Mo_centre (0, [some (vr 81), some (vi b), some (vi (b01 much)), none, none, none, none], [], pm_mm al D I L) = _ ∧ _
  obtain ⟨m0, e0⟩ := g.1 0 (by omega)
  rw [sg_Mo_centre_0, vCentre]
  cases hb : pm_in b (m 0) with
  | false =>
    rw [c_hand_f (d := d + 2) (I := pm_up I 81 0 0) m0 e0 hb]
    simp only [Option.bind_some, pm_ai, sg_Mo_centre_10]
    exact ⟨_, rfl, rF_code⟩
  | true =>
    obtain ⟨b', hb', eb⟩ := in_nat hb
    obtain ⟨J, e1, e2, e3⟩ := c_hand_t (X := X) (d := d + 2) (al := al) (D := D) (L := L) (I := pm_up I 81 0 0) m0 e0 hb'
    have hF : rF I J := rF_code.trans (fun a h1 h2 => by funext j; exact e2 a j (by unfold hdS; omega))
    have J87 : ∀ j, J 87 j = I 87 j := fun j => (e2 87 j (by unfold hdS; omega)).trans (up_ne (by omega))
    have n6 : (I 87 (29 * b')).toNatClampNeg ≤ 6 := (g.2.1 b' hb').1
    have J25 : J 81 25 = Int32.ofNat (I 87 (29 * b')).toNatClampNeg := e3.2.1.trans (n_of (g.2.1 b' hb').2.1)
    subst eb
    rw [e1, n_tn (by omega)]
    have e3 : hdP I J b' := e3
    have loop : ∀ n k K o6, k + n = 100 → ceF J K → ∃ M, Rn X (d + 5) co_Mo_centre (25, [some (vr 81), some (vi (Int32.ofNat b')), some (vi (b01 much)), some (vi (cs (ctv I b') k).2), some (vi (cs (ctv I b') k).1), some (vi (Int32.ofNat k)), o6], [], pm_mm al D K L) = some (some (vi (cond much (cs (ctv I b') 100).1 (cs (ctv I b') 100).2)), pm_mm al D M L) ∧ ceF J M := by
      intro n
      induction n with
      | zero =>
        intro k K o6 hk hK
        obtain rfl : k = 100 := by omega
        refine ⟨K, ?_, hK⟩
        rw [sg_Mo_centre_25]
        simp only [b01_ne, sg_Mo_centre_103]
        cases much <;> rfl
      | succ n ih =>
        intro k K o6 hk hK
        have K25 : K 81 25 = Int32.ofNat (I 87 (29 * b')).toNatClampNeg := (hK 81 25 (by omega) (by omega)).trans J25
        obtain ⟨M, m1, m2, m3⟩ := c_leatherB (X := X) (d := d) (al := al) (D := D) (L := L) (I := I) (J := pm_up (pm_up K 81 44 (Int32.ofNat (k / 10))) 81 45 (Int32.ofNat (k % 10))) (mk1 (Int32.ofNat (I 87 (29 * b')).toNatClampNeg)) g hb' (hdP_le e3 (fun a j a1 a2 => by rw [up_ne (by omega), up_ne (by omega)]; exact hK a j a1 a2)) (fun j => by rw [up_ne (by omega), up_ne (by omega)]; exact (hK 87 j (by omega) (by omega)).trans (J87 j)) (mk_bits n6)
        rw [up_eq, up_ne (by omega), up_eq] at m1
        have m1 : Cl X (d + 5) 229 [vr 81, vi ((1 <<< (Int32.ofNat (I 87 (29 * b')).toNatClampNeg &&& 31)) - 1)] (pm_mm al D (pm_up (pm_up K 81 44 (Int32.ofNat (k / 10))) 81 45 (Int32.ofNat (k % 10))) L) = some (some (vi (ctv I b' k)), pm_mm al D M L) := m1
        have hM : ceF J M := fun a j a1 a2 => by rw [m2 a j a1, up_ne (by omega), up_ne (by omega)]; exact hK a j a1 a2
        obtain ⟨N, n1, n2⟩ := ih (k + 1) M (some (vi (ctv I b' k))) (by omega) hM
        refine ⟨N, ?_, n2⟩
        rw [← n1]
        rw [sg_Mo_centre_25, K25]
        simp (disch := omega) only [lr1, lr2, lr3, lr4, lr5, lr6, lr7, lr8, lr9, lr10, lr11, lr12, lr13, lr20, lr24, lr60, lr64, lr84, lr99, lr100, lr600, lr720, lr4096, lr1000000]
        simp (disch := omega) only [a0, a1, a2, a3, a4, a5, a6, a7, a8, a9, a10, a11, a12, a13, a20, a24, a60, a64, a84, a99, a100, a600, a720, a4096, a1000000, df, cond_false, ld1, ld2, ld3, ld4, ld5, ld6, ld7, ld8, ld9, ld10, ld11, ld12, ld13, ld20, ld24, ld60, ld64, ld84, ld99, ld100, ld600, ld720, ld4096, ld1000000, m1, Option.bind_some, pm_ai, sg_Mo_centre_62, sg_Mo_centre_77, c_lesser, sg_Mo_centre_85, n_s]
        have hcs : cs (ctv I b') (k + 1) = cs1 (ctv I b') k (cs (ctv I b') k) := rfl
        rw [hcs]
        generalize cs (ctv I b') k = s
        rw [cs1, mn]
        by_cases hc : s.1 ≤ ctv I b' k
        · rw [dt hc, cond_true, cond_true]
          by_cases hlt : s.1 < ctv I b' k
          · rw [if_pos hlt]
          · rw [if_neg hlt, Int32.le_antisymm hc (Int32.not_lt.mp hlt)]
        · rw [df hc, cond_false, cond_false, if_neg (fun c => hc (Int32.le_of_lt c))]
    obtain ⟨M, f1, f2⟩ := loop 100 0 J none rfl (fun _ _ _ _ => rfl)
    simp only [Option.bind_some, pm_ai, sg_Mo_centre_10]
    refine ⟨M, f1, hF.trans (fun a h1 h2 => by funext j; exact f2 a j (by omega) (by omega))⟩
theorem q_centre {m : Nat → Nat} (b : Int32) (much : Bool) (g : rG I m) (r : RL I m) : ∃ J, Cl X (d + 5) 147 [vr 1, vi b, vi (b01 much)] (pm_mm al D I L) = some (some (vi (vCentre I m b much)), pm_mm al D J L) ∧ cF I J := by
  rw [Cl_s]
  show ∃ J, Rn X (d + 4) co_Ch_centre (0, [some (vr 1), some (vi b), some (vi (b01 much)), none, none, none, none, none], [], pm_mm al D I L) = _ ∧ _
  have m0 := (g.1 0 (by omega)).1
  have h1 : Cl X (d + 4) 93 [vr 2, vi 0, vi b] (pm_mm al D I L) = _ := k_has (d := d + 3) (s := 0) (m := m 0) b (by omega) m0 ((r.1 0 (by omega)).trans (g.1 0 (by omega)).2)
  rw [sg_Ch_centre_x_0, h1, vCentre]
  simp only [Option.bind_some, pm_ai]
  cases hb : pm_in b (m 0) with
  | false => exact ⟨I, sg_Ch_centre_x0_9 .., cF_refl⟩
  | true =>
    obtain ⟨b', hb', eb⟩ := in_nat hb
    subst eb
    have hb2 : b' < 2 := by omega
    rw [n_tn (by omega)]
    have n6 := (g.2.1 b' hb').1
    have hc0 := cP_of (sx := 0) (sy := 0) g r hb'
    have loop : ∀ n k K o7, k + n = 100 → laF I K → ∃ M, Rn X (d + 4) co_Ch_centre (35, [some (vr 1), some (vi (Int32.ofNat b')), some (vi (b01 much)), some (vr (9 + 5 * b')), some (vi (fo (cs1 (ctv I b')) k (1000000, 0)).1), some (vi (fo (cs1 (ctv I b')) k (1000000, 0)).2), some (vi (Int32.ofNat k)), o7], [], pm_mm al D K L) = some (some (vi (cond much (fo (cs1 (ctv I b')) 100 (1000000, 0)).1 (fo (cs1 (ctv I b')) 100 (1000000, 0)).2)), pm_mm al D M L) ∧ laF I M := by
      intro n
      induction n with
      | zero =>
        intro k K o7 hk hK
        obtain rfl : k = 100 := by omega
        refine ⟨K, ?_, hK⟩
        rw [sgb_Ch_centre_35 hb2]
        simp only [b01_ne, sgb_Ch_centre_102]
        cases much <;> rfl
      | succ n ih =>
        intro k K o7 hk hK
        have cK : cP K b' (I 87 (29 * b')).toNatClampNeg (PT I b' (Int32.ofNat (k / 10)) (Int32.ofNat (k % 10))) := cP_up (cP_of g r hb') hb2 (fun a j a1 a2 => hK a j (by omega) (by omega))
        obtain ⟨M, m1, m2, m3⟩ := k_lay (X := X) (d := d) (al := al) (D := D) (L := L) (I := K) (mk1 (Int32.ofNat (I 87 (29 * b')).toNatClampNeg)) (Int32.ofNat (k / 10)) (Int32.ofNat (k % 10)) hb2 n6 cK (by rw [PT, if_pos rfl]) (mk_bits n6)
        have m1 : Cl X (d + 4) 32 [vr 73, vr (9 + 5 * b'), vi ((1 <<< (Int32.ofNat (I 87 (29 * b')).toNatClampNeg &&& 31)) - 1), vi (Int32.ofNat (k / 10)), vi (Int32.ofNat (k % 10))] (pm_mm al D K L) = some (some (vi (ctv I b' k)), pm_mm al D M L) := m1
        obtain ⟨N, n1, n2⟩ := ih (k + 1) M (some (vi (ctv I b' k))) (by omega) (fun a j a1 a2 => (m2 a j a1 a2).trans (hK a j a1 a2))
        refine ⟨N, ?_, n2⟩
        rw [← n1]
        rw [sgb_Ch_centre_35 hb2, cK.1]
        simp (disch := omega) only [lr1, lr2, lr3, lr4, lr5, lr6, lr7, lr8, lr9, lr10, lr11, lr12, lr13, lr20, lr24, lr60, lr64, lr84, lr99, lr100, lr600, lr720, lr4096, lr1000000]
        simp (disch := omega) only [a0, a1, a2, a3, a4, a5, a6, a7, a8, a9, a10, a11, a12, a13, a20, a24, a60, a64, a84, a99, a100, a600, a720, a4096, a1000000, df, cond_false, ld1, ld2, ld3, ld4, ld5, ld6, ld7, ld8, ld9, ld10, ld11, ld12, ld13, ld20, ld24, ld60, ld64, ld84, ld99, ld100, ld600, ld720, ld4096, ld1000000, m1, Option.bind_some, pm_ai, sgb_Ch_centre_68 hb2, sgb_Ch_centre_85 hb2, n_s]
        rw [fo]
        generalize fo (cs1 (ctv I b')) k (1000000, 0) = s
        rw [cs1]
        cases decide (s.1 ≤ ctv I b' k) <;> rfl
    obtain ⟨M, f1, f2⟩ := loop 100 0 I none rfl (fun _ _ _ _ => rfl)
    have h0 := (ctv_rg (k := 0) g hb' (by omega)).2
    have hl1 : ctv I b' 0 < 1000000 := by rw [t_lt]; have e : (1000000 : Int32).toInt = 1000000 := rfl; omega
    have hl2 : ctv I b' 0 < 1000000 := by rw [t_lt]; have e : (1000000 : Int32).toInt = 1000000 := rfl; omega
    rw [cs_shift (f := ctv I b') (z := 0) hl1 hl2 99] at f1
    refine ⟨M, ?_, cF_la f2⟩
    refine Eq.trans (sgb_Ch_centre_9 (b := b') hb2 ..) ?_
    exact f1
/-- those who leave -/
def lvf (I : Nat → Nat → Int32) (b k : Nat) : Bool := !decide ((lv (PT I b 0 0) (I 87 (29 * b)).toNatClampNeg (mk1 (Int32.ofNat (I 87 (29 * b)).toNatClampNeg))).1 * on (Int32.ofNat k) ≤ (lv (PT I b 0 0) (I 87 (29 * b)).toNatClampNeg (Int32.ofNat k)).1 * Int32.ofNat (I 87 (29 * b)).toNatClampNeg)
def vLeaves (I : Nat → Nat → Int32) (m : Nat → Nat) (b : Int32) : Int32 := cond (pm_in b (m 0)) (fv (lvf I b.toNatClampNeg) 1 (2 ^ (I 87 (29 * b.toNatClampNeg)).toNatClampNeg - 1)) (-1)
theorem in_nn {v n : Nat} (h : v < n) (hn : n < 2147483648) : pm_in (Int32.ofNat v) n = true := by rw [n_in (by omega), dt h]
theorem r_leaves {m : Nat → Nat} (b : Int32) (g : rG I m) : ∃ J, Cl X (d + 6) 278 [vr 81, vi b] (pm_mm al D I L) = some (some (vi (vLeaves I m b)), pm_mm al D J L) ∧ rF I J := by
  rw [Cl_s]
  show ∃ J, Rn X (d + 5) co_Mo_leaves (0, [some (vr 81), some (vi b), none, none], [], pm_mm al D I L) = _ ∧ _
  obtain ⟨m0, e0⟩ := g.1 0 (by omega)
  rw [sg_Mo_leaves_0, vLeaves]
  cases hb : pm_in b (m 0) with
  | false =>
    rw [c_handHome_f (d := d + 1) (I := pm_up I 81 0 0) m0 e0 hb]
    simp only [Option.bind_some, pm_ai, sg_Mo_leaves_10]
    exact ⟨_, rfl, rF_code.trans (fun a h1 h2 => by rw [up_rw h1, up_rw h1])⟩
  | true =>
    obtain ⟨b', hb', eb⟩ := in_nat hb
    obtain ⟨J, e1, e2, e3, e44, e45⟩ := c_handHome_t (X := X) (d := d + 1) (al := al) (D := D) (L := L) (I := pm_up I 81 0 0) m0 e0 hb'
    have hF : rF I J := rF_code.trans (rF_hh e2)
    have J87 : ∀ j, J 87 j = I 87 j := fun j => (e2 87 j (by unfold hhS hdS; omega)).trans (up_ne (by omega))
    have n6 : (I 87 (29 * b')).toNatClampNeg ≤ 6 := (g.2.1 b' hb').1
    have J25 : J 81 25 = Int32.ofNat (I 87 (29 * b')).toNatClampNeg := e3.2.1.trans (n_of (g.2.1 b' hb').2.1)
    have hp2 := p2_le n6
    have hp1 : 1 ≤ 2 ^ (I 87 (29 * b')).toNatClampNeg := Nat.one_le_two_pow
    subst eb
    rw [e1, n_tn (by omega)]
    have FL : ∀ K, leF J K → ∀ set : Int32, (∀ k, k < 32 → tb set k = true → k < (I 87 (29 * b')).toNatClampNeg) → ∃ M, Cl X (d + 5) 229 [vr 81, vi set] (pm_mm al D K L) = some (some (vi (lv (PT I b' 0 0) (I 87 (29 * b')).toNatClampNeg set).1), pm_mm al D M L) ∧ leF J M := fun K hK set hset => by
      obtain ⟨M, m1, m2, m3⟩ := c_leatherB (X := X) (d := d) (al := al) (D := D) (L := L) (I := I) (J := K) set g hb' (hdP_le (show hdP I J b' from e3) (fun a j a1 a2 => hK a j a1)) (fun j => (hK 87 j (by omega)).trans (J87 j)) hset
      rw [hK 81 44 (by omega), hK 81 45 (by omega), e44, e45] at m1
      exact ⟨M, m1, fun a j a1 => (m2 a j a1).trans (hK a j a1)⟩
    obtain ⟨K, k1, k2⟩ := FL J (fun _ _ _ => rfl) (mk1 (Int32.ofNat (I 87 (29 * b')).toNatClampNeg)) (mk_bits n6)
    have k1 : Cl X (d + 5) 229 [vr 81, vi ((1 <<< (Int32.ofNat (I 87 (29 * b')).toNatClampNeg &&& 31)) - 1)] (pm_mm al D J L) = _ := k1
    have loop : ∀ n k K, k + n = 2 ^ (I 87 (29 * b')).toNatClampNeg → leF J K → ∃ M, Rn X (d + 5) co_Mo_leaves (30, [some (vr 81), pm_nl (some (vi (Int32.ofNat b'))), some (vi (lv (PT I b' 0 0) (I 87 (29 * b')).toNatClampNeg (mk1 (Int32.ofNat (I 87 (29 * b')).toNatClampNeg))).1), some (vi (Int32.ofNat k))], [], pm_mm al D K L) = some (some (vi (fv (lvf I b') k n)), pm_mm al D M L) ∧ leF J M := by
      intro n
      induction n with
      | zero =>
        intro k K hk hK
        refine ⟨K, ?_, hK⟩
        rw [sg_Mo_leaves_30, (hK 81 25 (by omega)).trans J25, pw_shl (by omega)]
        simp (disch := omega) only [n_dle, dt, cond_true, fv]
      | succ n ih =>
        intro k K hk hK
        obtain ⟨M, m1, m2⟩ := FL K hK (Int32.ofNat k) (bits_in (in_nn (by omega) (by omega)) (by omega))
        obtain ⟨N, n1, n2⟩ := ih (k + 1) M (by omega) m2
        have M25 : M 81 25 = Int32.ofNat (I 87 (29 * b')).toNatClampNeg := (m2 81 25 (by omega)).trans J25
        rw [sg_Mo_leaves_30, (hK 81 25 (by omega)).trans J25, pw_shl (by omega)]
        simp (disch := omega) only [n_dle, df, cond_false, m1, Option.bind_some, pm_ai, sg_Mo_leaves_45, c_ones, sg_Mo_leaves_55, M25, n_s, fv, lvf]
        cases decide ((lv (PT I b' 0 0) (I 87 (29 * b')).toNatClampNeg (mk1 (Int32.ofNat (I 87 (29 * b')).toNatClampNeg))).1 * on (Int32.ofNat k) ≤ (lv (PT I b' 0 0) (I 87 (29 * b')).toNatClampNeg (Int32.ofNat k)).1 * Int32.ofNat (I 87 (29 * b')).toNatClampNeg) with
        | true => exact ⟨N, n1, n2⟩
        | false => exact ⟨M, rfl, m2⟩
    obtain ⟨M, f1, f2⟩ := loop (2 ^ (I 87 (29 * b')).toNatClampNeg - 1) 1 K (by omega) k2
    refine ⟨M, ?_, hF.trans (fun a h1 h2 => by funext j; exact f2 a j (by omega))⟩
    simp only [Option.bind_some, pm_ai, sg_Mo_leaves_10, J25, show decide ((1 : Int32) = 0) = false from rfl, cond_false, k1, sg_Mo_leaves_27]
    exact f1
theorem q_leaves {m : Nat → Nat} (b : Int32) (g : rG I m) (r : RL I m) : ∃ J, Cl X (d + 5) 148 [vr 1, vi b] (pm_mm al D I L) = some (some (vi (vLeaves I m b)), pm_mm al D J L) ∧ cF I J := by
  rw [Cl_s]
  show ∃ J, Rn X (d + 4) co_Ch_leaves (0, [some (vr 1), some (vi b), none, none, none], [], pm_mm al D I L) = _ ∧ _
  have m0 := (g.1 0 (by omega)).1
  have h1 : Cl X (d + 4) 93 [vr 2, vi 0, vi b] (pm_mm al D I L) = _ := k_has (d := d + 3) (s := 0) (m := m 0) b (by omega) m0 ((r.1 0 (by omega)).trans (g.1 0 (by omega)).2)
  rw [sg_Ch_leaves_x_0, h1, vLeaves]
  simp only [Option.bind_some, pm_ai]
  cases hb : pm_in b (m 0) with
  | false => exact ⟨I, sg_Ch_leaves_x0_9 .., cF_refl⟩
  | true =>
    obtain ⟨b', hb', eb⟩ := in_nat hb
    subst eb
    have hb2 : b' < 2 := by omega
    rw [n_tn (by omega)]
    have n6 := (g.2.1 b' hb').1
    have hp2 := p2_le n6
    have hp1 : 1 ≤ 2 ^ (I 87 (29 * b')).toNatClampNeg := Nat.one_le_two_pow
    have hc0 := cP_of (sx := 0) (sy := 0) g r hb'
    have FL : ∀ K, laF I K → ∀ set : Int32, (∀ k, k < 32 → tb set k = true → k < (I 87 (29 * b')).toNatClampNeg) → ∃ M, Cl X (d + 4) 32 [vr 73, vr (9 + 5 * b'), vi set, vi 0, vi 0] (pm_mm al D K L) = some (some (vi (lv (PT I b' 0 0) (I 87 (29 * b')).toNatClampNeg set).1), pm_mm al D M L) ∧ laF I M := fun K hK set hset => by
      obtain ⟨M, m1, m2, m3⟩ := k_lay (X := X) (d := d) (al := al) (D := D) (L := L) (I := K) (P := PT I b' 0 0) set 0 0 hb2 n6 (cP_up hc0 hb2 (fun a j a1 a2 => hK a j (by omega) (by omega))) rfl hset
      exact ⟨M, m1, fun a j a1 a2 => (m2 a j a1 a2).trans (hK a j a1 a2)⟩
    obtain ⟨K, k1, k2⟩ := FL I (fun _ _ _ _ => rfl) (mk1 (Int32.ofNat (I 87 (29 * b')).toNatClampNeg)) (mk_bits n6)
    have k1 : Cl X (d + 4) 32 [vr 73, vr (9 + 5 * b'), vi ((1 <<< (Int32.ofNat (I 87 (29 * b')).toNatClampNeg &&& 31)) - 1), vi 0, vi 0] (pm_mm al D I L) = _ := k1
    have loop : ∀ n k K, k + n = 2 ^ (I 87 (29 * b')).toNatClampNeg → laF I K → ∃ M, Rn X (d + 4) co_Ch_leaves (46, [some (vr 1), some (vi (Int32.ofNat b')), some (vr (9 + 5 * b')), some (vi (lv (PT I b' 0 0) (I 87 (29 * b')).toNatClampNeg (mk1 (Int32.ofNat (I 87 (29 * b')).toNatClampNeg))).1), some (vi (Int32.ofNat k))], [], pm_mm al D K L) = some (some (vi (fv (lvf I b') k n)), pm_mm al D M L) ∧ laF I M := by
      intro n
      induction n with
      | zero =>
        intro k K hk hK
        refine ⟨K, ?_, hK⟩
        rw [sgb_Ch_leaves_46 hb2, (hK _ _ (by omega) (by omega)).trans hc0.1, pw_shl (by omega)]
        simp (disch := omega) only [n_dle, dt, cond_true, fv]
      | succ n ih =>
        intro k K hk hK
        obtain ⟨M, m1, m2⟩ := FL K hK (Int32.ofNat k) (bits_in (in_nn (by omega) (by omega)) (by omega))
        obtain ⟨N, n1, n2⟩ := ih (k + 1) M (by omega) m2
        have M4 : M (9 + 5 * b') 4 = Int32.ofNat (I 87 (29 * b')).toNatClampNeg := (m2 _ _ (by omega) (by omega)).trans hc0.1
        have bc := k_bitCount (X := X) (d := d + 3) (al := al) (D := D) (L := L) (I := M) (x := Int32.ofNat k) (by rw [n_ti (by omega)]; omega) (by rw [n_ti (by omega)]; omega)
        rw [sgb_Ch_leaves_46 hb2, (hK _ _ (by omega) (by omega)).trans hc0.1, pw_shl (by omega)]
        simp (disch := omega) only [n_dle, df, cond_false, m1, Option.bind_some, pm_ai, sgb_Ch_leaves_69 hb2, bc, sgb_Ch_leaves_80 hb2, M4, n_s, fv, lvf]
        cases decide ((lv (PT I b' 0 0) (I 87 (29 * b')).toNatClampNeg (mk1 (Int32.ofNat (I 87 (29 * b')).toNatClampNeg))).1 * on (Int32.ofNat k) ≤ (lv (PT I b' 0 0) (I 87 (29 * b')).toNatClampNeg (Int32.ofNat k)).1 * Int32.ofNat (I 87 (29 * b')).toNatClampNeg) with
        | true => exact ⟨N, n1, n2⟩
        | false => exact ⟨M, rfl, m2⟩
    obtain ⟨M, f1, f2⟩ := loop (2 ^ (I 87 (29 * b')).toNatClampNeg - 1) 1 K (by omega) k2
    refine ⟨M, ?_, cF_la f2⟩
    refine Eq.trans (sgb_Ch_leaves_9 (b := b') hb2 ..) ?_
    rw [hc0.1, show decide (b01 true = 0) = false from rfl, cond_false, k1]
    simp only [Option.bind_some, pm_ai, sgb_Ch_leaves_42 hb2]
    exact f1
end
