section
variable {X : Nat × (Nat → Int32)} {d : Nat} {al : List Nat} {D : Nat → Bool} {I : Nat → Nat → Int32} {L : Nat → Nat → Int64}
/-- the first that holds -/
def fv (f : Nat → Bool) : Nat → Nat → Int32
  | _, 0 => -1
  | k, n + 1 => cond (f k) (Int32.ofNat k) (fv f (k + 1) n)
theorem fv_congr {f g : Nat → Bool} : ∀ n k, (∀ j, k ≤ j → j < k + n → f j = g j) → fv f k n = fv g k n
  | 0, _, _ => rfl
  | n + 1, k, e => by rw [fv, fv, e k (by omega) (by omega), fv_congr n (k + 1) (fun j h1 h2 => e j (by omega) (by omega))]
def bdM (B : PB) (what v : Int32) : PB := (cond (decide (what = 0)) v B.1, B.2.1, cond (decide (what = 1)) v B.2.2.1, cond (decide (what = 2)) v B.2.2.2.1, B.2.2.2.2.1, B.2.2.2.2.2.1, B.2.2.2.2.2.2)
def nw (B : PB) (w : Nat → Int32) (set what v : Int32) : Bool := well (fun t => (pst (bdM B what v) w (trd set (cond (decide (what = 3)) v (-1))) (t + 1)).2.2.2.2.1) 0 12
def iwF (I J : Nat → Nat → Int32) : Prop := ∀ a j, ¬ atS a j → ¬ (95 ≤ a ∧ a ≤ 100) → ¬ (a = 81 ∧ 37 ≤ j ∧ j ≤ 39) → J a j = I a j
theorem c_isWellBy {b : Nat} (what v : Int32) (hb : b < 8) (eb : I 81 23 = Int32.ofNat b) (hn : (I 87 (29 * b)).toNatClampNeg ≤ 6) (en : I 81 25 = Int32.ofNat (I 87 (29 * b)).toNatClampNeg) :
    ∃ K, Cl X (d + 4) 259 [vr 81, vi what, vi v] (pm_mm al D I L) = some (some (vi (b01 (nw (bdO I b) (I 93) (I 81 40) what v))), pm_mm al D K L) ∧ iwF I K := by
  rw [Cl_s]
  show ∃ K, Rn X (d + 3) co_Mo_isWellBy (0, [some (vr 81), some (vi what), some (vi v)], [], pm_mm al D I L) = _ ∧ _
  obtain ⟨J, e1, e2, e27, e28, e29, e94⟩ := c_asTold (X := X) (d := d + 1) (al := al) (D := D) (L := L) hb eb
  rw [sg_Mo_isWellBy_0, e1]
  simp only [Option.bind_some, pm_av]
  generalize hM : pm_up (pm_up (pm_up J 81 27 (cond (decide (what = 0)) v (J 81 27))) 81 28 (cond (decide (what = 1)) v (J 81 28))) 81 29 (cond (decide (what = 2)) v (J 81 29)) = M
  have s1 : Rn X (d + 3) co_Mo_isWellBy (4, [some (vr 81), some (vi what), some (vi v)], [], pm_mm al D J L) = Rn X (d + 3) co_Mo_isWellBy (69, [some (vr 81), some (vi what), some (vi v)], [vi (cond (decide (what = 3)) v (-1)), vi (J 81 40), vr 81], pm_mm al D M L) := by
    rw [← hM, sg_Mo_isWellBy_4]
    cases decide (what = 0) <;> simp only [cond_true, cond_false, sg_Mo_isWellBy_17] <;> cases decide (what = 1) <;> simp only [cond_true, cond_false, sg_Mo_isWellBy_34] <;> cases decide (what = 2) <;> simp only [cond_true, cond_false, sg_Mo_isWellBy_51] <;> cases decide (what = 3) <;> rfl
  have kM : ∀ a j, ¬ (a = 81 ∧ 27 ≤ j ∧ j ≤ 29) → M a j = J a j := fun a j h => by
    rw [← hM, up_ne (by omega), up_ne (by omega), up_ne (by omega)]
  have kI : ∀ a j, ¬ atS a j → M a j = I a j := fun a j h => by
    unfold atS at h
    rw [kM a j (by omega), e2 a j (by unfold atS; omega)]
  have m94 : ∀ p, p < 6 → M 94 p = Int32.ofNat p := fun p hp => (kM 94 p (by omega)).trans (e94 p hp)
  obtain ⟨K, f1, f2, f3⟩ := c_plays (X := X) (d := d) (al := al) (D := D) (L := L) (I := M) (n := (I 87 (29 * b)).toNatClampNeg) (J 81 40) (cond (decide (what = 3)) v (-1)) hb ((kI 81 23 (by unfold atS; omega)).trans eb) hn ((kI 81 25 (by unfold atS; omega)).trans en) (fun i hi => ⟨i, by omega, m94 i (by omega)⟩)
  rw [s1, sg_Mo_isWellBy_69, f1]
  simp only [Option.bind_some, pm_av, sg_Mo_isWellBy_72, c_isWell, pm_ai, sg_Mo_isWellBy_76, p01, cond_true]
  refine ⟨K, ?_, fun a j h1 h2 h3 => ?_⟩
  · have e40 : J 81 40 = I 81 40 := e2 81 40 (by unfold atS; omega)
    have hp : ∀ t, t ≤ 12 → pst (PBr M b (I 87 (29 * b)).toNatClampNeg) (M 93) (trd (J 81 40) (cond (decide (what = 3)) v (-1))) t = pst (bdM (bdO I b) what v) (I 93) (trd (I 81 40) (cond (decide (what = 3)) v (-1))) t := fun t ht => by
      refine pst_congr (B := PBr M b (I 87 (29 * b)).toNatClampNeg) (C := bdM (bdO I b) what v) ?_ ?_ ?_ ?_ rfl (fun i hi => ?_) t (fun u hu => kI 93 u (by unfold atS; omega)) (fun _ _ _ => by rw [e40])
      · show M 81 27 = cond (decide (what = 0)) v (I 87 (29 * b + 1))
        rw [← hM, up_ne (by omega), up_ne (by omega), up_eq, e27]
      · exact kI 87 _ (by unfold atS; omega)
      · show M 81 28 = cond (decide (what = 1)) v (I 87 (29 * b + 3))
        rw [← hM, up_ne (by omega), up_eq, e28]
      · show M 81 29 = cond (decide (what = 2)) v (I 87 (29 * b + 4))
        rw [← hM, up_eq, e29]
      · have hi : i < (I 87 (29 * b)).toNatClampNeg := hi
        have e := m94 i (by omega)
        refine ⟨e, ?_⟩
        show dwR M b (M 94 i) = dwR I b (Int32.ofNat i)
        rw [e, dwR, dwR]; exact kI 87 _ (by unfold atS; omega)
    rw [nw, well_congr (g := K 98) 12 0 (fun j _ hj => by rw [(f3.1 j (by omega)).2.2.2.1, hp (j + 1) (by omega)])]
  · rw [f2 a j h2 h3]; exact kI a j h1
def nLo (what : Int32) : Nat := cond (decide (what = 0)) 1 0
def nN (what : Int32) : Nat := cond (decide (what = 0)) 99 (cond (decide (what = 1)) 21 (cond (decide (what = 2)) 13 100))
def vNeed (I : Nat → Nat → Int32) (m : Nat → Nat) (b s u what : Int32) : Int32 :=
  cond (pm_in s (m 1) && pm_in b (m 0) && pm_in u (m 2) && pm_in what 4) (fv (fun v => nw (bdO I b.toNatClampNeg) (wn (scO I s.toNatClampNeg)) (I 89 u.toNatClampNeg) what (Int32.ofNat v)) (nLo what) (nN what)) (-1)
theorem nw_congr {B : PB} {w v : Nat → Int32} (set what x : Int32) (h : ∀ t, t < 12 → w t = v t) : nw B w set what x = nw B v set what x := by
  rw [nw, nw, well_congr 12 0 (fun j _ hj => by rw [pst_congr (B := bdM B what x) (C := bdM B what x) (v := v) (ur := trd set (cond (decide (what = 3)) x (-1))) rfl rfl rfl rfl rfl (fun _ _ => ⟨rfl, rfl⟩) (j + 1) (fun u hu => h u (by omega)) (fun _ _ _ => rfl)])]
theorem r_need {m : Nat → Nat} (b s u what : Int32) (g : rG I m) : ∃ J, Cl X (d + 5) 260 [vr 81, vi b, vi s, vi u, vi what] (pm_mm al D I L) = some (some (vi (vNeed I m b s u what)), pm_mm al D J L) ∧ rF I J := by
  rw [Cl_s]
  show ∃ J, Rn X (d + 4) co_Mo_need (0, [some (vr 81), some (vi b), some (vi s), some (vi u), some (vi what), none, none], [], pm_mm al D I L) = _ ∧ _
  have g' : rG (pm_up I 81 0 0) m := by rw [rG_up m rF_code]; exact g
  obtain ⟨J, e1, e2, e3⟩ := c_layAll (X := X) (d := d) (al := al) (D := D) (L := L) (I := pm_up I 81 0 0) b s u g'
  have h3 : (if 0 ≤ what ∧ what ≤ 3 then (1 : Int32) else 0) = b01 (pm_in what 4) := in_m (m := 4) (by omega)
  rw [sg_Mo_need_0, e1]
  simp only [Option.bind_some, pm_ai, sg_Mo_need_12, b01_ne, vNeed, c_in, h3, sg_Mo_need_22, sg_Mo_need_25]
  cases hok : (pm_in s (m 1) && pm_in b (m 0) && pm_in u (m 2)) with
  | false => exact ⟨J, rfl, rF_code.trans (rF_la e2)⟩
  | true =>
    cases hw : pm_in what 4 with
    | false => exact ⟨J, rfl, rF_code.trans (rF_la e2)⟩
    | true =>
      simp only [Bool.and_eq_true] at hok
      obtain ⟨⟨o1, o2⟩, o3⟩ := hok
      obtain ⟨s', hs', es⟩ := in_nat o1
      obtain ⟨b', hb', eb⟩ := in_nat o2
      obtain ⟨u', hu', eu⟩ := in_nat o3
      have m0 := (g.1 0 (by omega)).1
      have m1 := (g.1 1 (by omega)).1
      have m2 := (g.1 2 (by omega)).1
      obtain ⟨hl, h40⟩ := e3 b' s' u' eb es eu hb' hs' hu'
      have n6 : (I 87 (29 * b')).toNatClampNeg ≤ 6 := (g.2.1 b' hb').1
      have h40 : J 81 40 = I 89 u' := h40
      have J87 : ∀ j, J 87 j = I 87 j := fun j => (e2 87 j (by unfold laS; omega)).trans (up_ne (by omega))
      have J25 : J 81 25 = Int32.ofNat (I 87 (29 * b')).toNatClampNeg := hl.1.2.1.trans (n_of (g.2.1 b' hb').2.1)
      have loop : ∀ n v K, v + n = nLo what + nN what → iwF J K → ∃ M, Rn X (d + 4) co_Mo_need (65, [some (vr 81), some (vi b), some (vi s), some (vi u), some (vi what), some (vi (Int32.ofNat (nLo what + nN what - 1))), some (vi (Int32.ofNat v))], [], pm_mm al D K L) = some (some (vi (fv (fun v => nw (bdO I b') (wn (scO I s')) (I 89 u') what (Int32.ofNat v)) v n)), pm_mm al D M L) ∧ iwF J M := by
        intro n
        have hN : nLo what + nN what ≤ 101 ∧ 1 ≤ nLo what + nN what := by
          unfold nLo nN; cases decide (what = 0) <;> cases decide (what = 1) <;> cases decide (what = 2) <;> decide
        induction n with
        | zero => intro v K hv hK; refine ⟨K, ?_, hK⟩; rw [sg_Mo_need_65]; simp (disch := omega) only [n_dlt, dt, cond_true, fv]
        | succ n ih =>
          intro v K hv hK
          have K87 : ∀ j, K 87 j = I 87 j := fun j => (hK 87 j (by unfold atS; omega) (by omega) (by omega)).trans (J87 j)
          have kb : bdO K b' = bdO I b' := by
            simp only [bdO, K87]
            have : dwR K b' = dwR I b' := by funext p; exact K87 _
            rw [this]
          obtain ⟨M, f1, f2⟩ := c_isWellBy (X := X) (d := d) (al := al) (D := D) (L := L) (I := K) (b := b') what (Int32.ofNat v) (by omega) ((hK 81 23 (by unfold atS; omega) (by omega) (by omega)).trans hl.1.1) (by rw [K87]; exact n6) (by rw [K87]; exact (hK 81 25 (by unfold atS; omega) (by omega) (by omega)).trans J25)
          have hM : iwF J M := fun a j h1 h2 h3 => (f2 a j h1 h2 h3).trans (hK a j h1 h2 h3)
          rw [kb, nw_congr (v := wn (scO I s')) _ _ _ (fun t ht => (hK 93 t (by unfold atS; omega) (by omega) (by omega)).trans (hl.2.2 t ht)), (hK 81 40 (by unfold atS; omega) (by omega) (by omega)).trans h40] at f1
          rw [sg_Mo_need_65]; simp (disch := omega) only [n_dlt, df, cond_false, f1, Option.bind_some, pm_ai, sg_Mo_need_80, b01_ne, n_s, fv]
          cases nw (bdO I b') (wn (scO I s')) (I 89 u') what (Int32.ofNat v) with
          | true => exact ⟨M, rfl, hM⟩
          | false => exact ih (v + 1) M (by omega) hM
      obtain ⟨M, f1, f2⟩ := loop (nN what) (nLo what) J rfl (fun _ _ _ _ _ => rfl)
      refine ⟨M, ?_, rF_code.trans ((rF_la e2).trans (fun a h1 h2 => by funext j; exact f2 a j (by unfold atS; omega) (by omega) (by omega)))⟩
      rw [eb, es, eu, n_tn (by omega), n_tn (by omega), n_tn (by omega)]
      simp only [Bool.not_true, cond_false, Bool.and_self, cond_true]
      rw [← f1, eb, es, eu]
      obtain ⟨w', hw', ew⟩ := in_nat hw
      have : w' = 0 ∨ w' = 1 ∨ w' = 2 ∨ w' = 3 := by omega
      rcases this with rfl | rfl | rfl | rfl <;> subst ew
      · show Rn X (d + 4) co_Mo_need (51, _, [vi 99], _) = _
        rw [sg_Mo_need_51]; show Rn X (d + 4) co_Mo_need (63, _, [vi 1], _) = _; rw [sg_Mo_need_63]; rfl
      · show Rn X (d + 4) co_Mo_need (51, _, [vi 20], _) = _
        rw [sg_Mo_need_51]; show Rn X (d + 4) co_Mo_need (63, _, [vi 0], _) = _; rw [sg_Mo_need_63]; rfl
      · show Rn X (d + 4) co_Mo_need (51, _, [vi 12], _) = _
        rw [sg_Mo_need_51]; show Rn X (d + 4) co_Mo_need (63, _, [vi 0], _) = _; rw [sg_Mo_need_63]; rfl
      · show Rn X (d + 4) co_Mo_need (51, _, [vi 99], _) = _
        rw [sg_Mo_need_51]; show Rn X (d + 4) co_Mo_need (63, _, [vi 0], _) = _; rw [sg_Mo_need_63]; rfl
end
