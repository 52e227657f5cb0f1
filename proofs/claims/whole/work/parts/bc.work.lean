section
variable {X : Nat × (Nat → Int32)} {d : Nat} {al : List Nat} {D : Nat → Bool} {I : Nat → Nat → Int32} {L : Nat → Nat → Int64}
/-- the first of the least sets that play it well -/
def wk1 (f : Nat → Nat) (n : Nat) : Option Nat → Option Nat
  | none => if f n = 0 then some n else none
  | some q => if f n = 0 ∧ oN 12 n < oN 12 q then some n else some q
def wk (f : Nat → Nat) (n : Nat) : Option Nat := fo (wk1 f) n none
theorem wk_0 (f : Nat → Nat) : wk f 0 = none := by rw [wk, fo]
def eB : Option Nat → Int32
  | none => -1
  | some q => Int32.ofNat q
def eF : Option Nat → Int32
  | none => 13
  | some q => Int32.ofNat (oN 12 q)
theorem wk_lt (f : Nat → Nat) : ∀ n q, wk f n = some q → q < n
  | 0, q, h => by rw [wk, fo] at h; cases h
  | n + 1, q, h => by
    have ih := wk_lt f n
    rw [wk, fo] at h
    have h : wk1 f n (wk f n) = some q := h
    cases hw : wk f n with
    | none => rw [hw, wk1] at h; split at h <;> cases h; omega
    | some p =>
      have := ih p hw
      rw [hw, wk1] at h; split at h <;> cases h <;> omega
def eW (which : Bool) : Option Nat → Int32
  | none => -1
  | some q => cond which (Int32.ofNat q) (Int32.ofNat (oN 12 q))
def vWork (I : Nat → Nat → Int32) (m : Nat → Nat) (b s : Int32) (which : Bool) : Int32 := cond (pm_in s (m 1) && pm_in b (m 0)) (eW which (wk (wA (bdO I b.toNatClampNeg) (wn (scO I s.toNatClampNeg))) 4096)) (-1)
theorem r_work {m : Nat → Nat} (b s : Int32) (which : Bool) (g : rG I m) : ∃ J, Cl X (d + 5) 223 [vr 81, vi b, vi s, vi (b01 which)] (pm_mm al D I L) = some (some (vi (vWork I m b s which)), pm_mm al D J L) ∧ rF I J := by
  rw [Cl_s]
  show ∃ J, Rn X (d + 4) co_Mo_work (0, [some (vr 81), some (vi b), some (vi s), some (vi (b01 which)), none, none], [], pm_mm al D I L) = _ ∧ _
  obtain ⟨J, e1, e2, e3⟩ := c_layN (X := X) (d := d) (al := al) (D := D) (L := L) b s g
  rw [sg_Mo_work_0, e1]
  simp only [Option.bind_some, pm_ai, sg_Mo_work_11, b01_ne, vWork]
  cases hok : (pm_in s (m 1) && pm_in b (m 0)) with
  | false => exact ⟨J, rfl, e2⟩
  | true =>
    simp only [Bool.and_eq_true] at hok
    obtain ⟨s', hs', es⟩ := in_nat hok.1
    obtain ⟨b', hb', eb⟩ := in_nat hok.2
    have m0 := (g.1 0 (by omega)).1
    have m1 := (g.1 1 (by omega)).1
    have hl := e3 b' s' eb es hb' hs'
    rw [eb, es, n_tn (by omega), n_tn (by omega)]
    generalize hf : wA (bdO I b') (wn (scO I s')) = f
    have hneg : ∀ q, q < 4096 → decide (Int32.ofNat q = -1) = false := fun q hq => df (fun c => by rw [t_eq, n_ti (by omega), show (-1 : Int32).toInt = -1 from rfl] at c; omega)
    obtain ⟨K, k1, k2⟩ := lp (σ := Nat → Nat → Int32) 4096 (fun n K => Rn X (d + 4) co_Mo_work (22, [some (vr 81), some (vi (Int32.ofNat b')), some (vi (Int32.ofNat s')), some (vi (b01 which)), some (vi (eB (wk f n))), some (vi (Int32.ofNat n))], [], pm_mm al D K L)) (fun _ K => ldP I K b' s') (fun n K hn hK => by
      have hwn : wk f (n + 1) = wk1 f n (wk f n) := by rw [wk, wk, fo]
      have hlt := wk_lt f n
      have h0 : decide ((4096 : Int32) ≤ Int32.ofNat n) = false := (n_dle (a := 4096) (by omega) (by omega)).trans (df (by omega))
      have hon : on (Int32.ofNat n) = Int32.ofNat (oN 12 n) := on_oN (k := 12) (by omega) hn
      obtain ⟨K', p1, p2, p3, p4, p5, p6⟩ := c_playN (X := X) (d := d + 1) (al := al) (D := D) (L := L) (n := n) g hb' hK
      rw [hf] at p6
      -- played
      have pl : ∀ x4 : Int32, Rn X (d + 4) co_Mo_work (52, [some (vr 81), some (vi (Int32.ofNat b')), some (vi (Int32.ofNat s')), some (vi (b01 which)), some (vi x4), some (vi (Int32.ofNat n))], [], pm_mm al D K L) = Rn X (d + 4) co_Mo_work (22, [some (vr 81), some (vi (Int32.ofNat b')), some (vi (Int32.ofNat s')), some (vi (b01 which)), some (vi (if f n = 0 then Int32.ofNat n else x4)), some (vi (Int32.ofNat (n + 1)))], [], pm_mm al D K' L) := fun x4 => by
        rw [sg_Mo_work_52, p1]
        simp only [Option.bind_some, pm_av]
        rw [sg_Mo_work_59, p6 (d + 3) L]
        simp only [Option.bind_some, pm_ai]
        rw [sg_Mo_work_63, b01_ne]
        by_cases hz : f n = 0
        · rw [dt hz, if_pos hz]; simp only [Bool.not_true, cond_false, sg_Mo_work_73, sg_Mo_work_75, n_s]
        · rw [df hz, if_neg hz]; simp only [Bool.not_false, cond_true, sg_Mo_work_73, sg_Mo_work_75, n_s]
      cases hw : wk f n with
      | none =>
        refine ⟨K', ?_, p3⟩
        show Rn X (d + 4) co_Mo_work _ = Rn X (d + 4) co_Mo_work _
        rw [hwn, hw, sg_Mo_work_22, h0, cond_false, show decide (eB none = -1) = true from rfl, cond_true, pl, wk1]
        split <;> rfl
      | some q =>
        have hq := hlt q hw
        have hoq : on (Int32.ofNat q) = Int32.ofNat (oN 12 q) := on_oN (k := 12) (by omega) (by omega)
        have o1 := oN_le 12 n
        have o2 := oN_le 12 q
        have hst : Rn X (d + 4) co_Mo_work (22, [some (vr 81), some (vi (Int32.ofNat b')), some (vi (Int32.ofNat s')), some (vi (b01 which)), some (vi (Int32.ofNat q)), some (vi (Int32.ofNat n))], [], pm_mm al D K L) = cond (decide (oN 12 n < oN 12 q)) (Rn X (d + 4) co_Mo_work (52, [some (vr 81), some (vi (Int32.ofNat b')), some (vi (Int32.ofNat s')), some (vi (b01 which)), some (vi (Int32.ofNat q)), some (vi (Int32.ofNat n))], [], pm_mm al D K L)) (Rn X (d + 4) co_Mo_work (22, [some (vr 81), some (vi (Int32.ofNat b')), some (vi (Int32.ofNat s')), some (vi (b01 which)), some (vi (Int32.ofNat q)), some (vi (Int32.ofNat (n + 1)))], [], pm_mm al D K L)) := by
          rw [sg_Mo_work_22, h0, cond_false, hneg q (by omega), cond_false]
          simp only [c_ones, hon, hoq, Option.bind_some, pm_ai, sg_Mo_work_41, sg_Mo_work_46, sg_Mo_work_75, n_s]
          rw [n_dlt (by omega) (by omega)]
        by_cases hc : oN 12 n < oN 12 q
        · refine ⟨K', ?_, p3⟩
          show Rn X (d + 4) co_Mo_work _ = Rn X (d + 4) co_Mo_work _
          rw [hwn, hw, wk1]
          refine hst.trans ?_
          rw [dt hc, cond_true, pl]
          by_cases hz : f n = 0
          · rw [if_pos hz, if_pos ⟨hz, hc⟩]; rfl
          · rw [if_neg hz, if_neg (fun c => hz c.1)]; rfl
        · refine ⟨K, ?_, hK⟩
          show Rn X (d + 4) co_Mo_work _ = Rn X (d + 4) co_Mo_work _
          rw [hwn, hw, wk1, if_neg (fun c => hc c.2)]
          refine hst.trans ?_
          rw [df hc, cond_false]; rfl) 0 J (Nat.zero_le _) hl
    have k1 : Rn X (d + 4) co_Mo_work (22, [some (vr 81), some (vi (Int32.ofNat b')), some (vi (Int32.ofNat s')), some (vi (b01 which)), some (vi (eB (wk f 0))), some (vi (Int32.ofNat 0))], [], pm_mm al D J L) = Rn X (d + 4) co_Mo_work (22, [some (vr 81), some (vi (Int32.ofNat b')), some (vi (Int32.ofNat s')), some (vi (b01 which)), some (vi (eB (wk f 4096))), some (vi (Int32.ofNat 4096))], [], pm_mm al D K L) := k1
    have hlt := wk_lt f 4096
    rw [wk_0] at k1
    generalize wk f 4096 = o at k1 hlt ⊢
    have k1 : Rn X (d + 4) co_Mo_work (22, [some (vr 81), some (vi (Int32.ofNat b')), some (vi (Int32.ofNat s')), some (vi (b01 which)), some (vi (-1)), some (vi 0)], [], pm_mm al D J L) = Rn X (d + 4) co_Mo_work (22, [some (vr 81), some (vi (Int32.ofNat b')), some (vi (Int32.ofNat s')), some (vi (b01 which)), some (vi (eB o)), some (vi (Int32.ofNat 4096))], [], pm_mm al D K L) := k1
    refine ⟨K, ?_, k2.1⟩
    rw [Bool.not_true, cond_false, cond_true, k1, sg_Mo_work_22, show decide ((4096 : Int32) ≤ Int32.ofNat 4096) = true from rfl, cond_true]
    cases hw : o with
    | none =>
      rw [show decide (eB none = -1) = true from rfl, cond_true, sg_Mo_work_91, sg_Mo_work_101]
      cases which <;> rfl
    | some q =>
      have hq := hlt q hw
      have hoq : on (Int32.ofNat q) = Int32.ofNat (oN 12 q) := on_oN (k := 12) (by omega) hq
      rw [show eB (some q) = Int32.ofNat q from rfl, hneg q hq, cond_false, b01_ne]
      cases which with
      | true => simp only [Bool.not_true, cond_false, sg_Mo_work_91, sg_Mo_work_101]; rfl
      | false => simp only [Bool.not_false, cond_true, c_ones, hoq, Option.bind_some, pm_ai, sg_Mo_work_101]; rfl
theorem q_work {m : Nat → Nat} (b s : Int32) (which : Bool) (g : rG I m) (r : RL I m) (w : cW D I L m) : ∃ al' D' J M, Cl X (d + 18) 138 [vr 1, vi b, vi s, vi (b01 which)] (pm_mm al D I L) = some (some (vi (vWork I m b s which)), pm_mm al' D' J M) ∧ cQ m al al' D D' I J L M := by
  have hm : ∀ i, i < 4 → m i ≤ 2 ∧ I 4 i = Int32.ofNat (m i) := fun i hi => ⟨(g.1 i hi).1, (r.1 i hi).trans (g.1 i hi).2⟩
  rw [Cl_s]
  show ∃ al' D' J M, Rn X (d + 17) co_Ch_work (0, [some (vr 1), some (vi b), some (vi s), some (vi (b01 which)), none, none, none, none], [], pm_mm al D I L) = _ ∧ _
  rw [sg_Ch_work_x_0, k_hasPair (d := d + 15) b s hm, Bool.and_comm]
  simp only [Option.bind_some, pm_ai, sg_Ch_work_x_6, b01_ne, vWork]
  cases hok : (pm_in s (m 1) && pm_in b (m 0)) with
  | false => exact ⟨al, D, I, L, rfl, cQ_refl w⟩
  | true =>
    simp only [Bool.and_eq_true] at hok
    obtain ⟨s', hs', es⟩ := in_nat hok.1
    obtain ⟨b', hb', eb⟩ := in_nat hok.2
    have m0 := (g.1 0 (by omega)).1
    have m1 := (g.1 1 (by omega)).1
    have hb2 : b' < 2 := by omega
    have hs2 : s' < 2 := by omega
    rw [eb, es, n_tn (by omega), n_tn (by omega)]
    obtain ⟨J, M, f1, f2, f3, f4⟩ := k_waysOf (X := X) (d := d) (al := al) g r w hb' hs'
    refine ⟨_, _, J, M, ?_, cQ_w g w (by omega) (by omega) f2 f3 f4⟩
    rw [Bool.not_true, cond_false, cond_true, f1]
    simp only [Option.bind_some, pm_ar]
    rw [sgb_Ch_work_17 hb2 hs2]
    generalize cond (D (3 + 2 * b' + s')) al (al ++ [220 + 6 * b' + 3 * s'] ++ [221 + 6 * b' + 3 * s'] ++ [222 + 6 * b' + 3 * s']) = al'
    have hM : ∀ x, x < 4096 → M (221 + 6 * b' + 3 * s') x = Int64.ofNat (wV (bdO I b') (wn (scO I s')) x 12) := fun x hx => by rw [show 221 + 6 * b' + 3 * s' = 221 + 3 * (2 * b' + s') by omega]; exact f4.2.2 x hx
    have hV := fun x => wV_rg (bdO I b') (wn (scO I s')) x (k := 12) (Nat.le_refl _)
    have hVA : ∀ x, wV (bdO I b') (wn (scO I s')) x 12 / 1099511627776 = wA (bdO I b') (wn (scO I s')) x := fun x => (hV x).2
    have hA := fun x => wA_le (bdO I b') (wn (scO I s')) x
    generalize hf : wA (bdO I b') (wn (scO I s')) = f at hVA hA
    have hneg : ∀ q, q < 4096 → decide (Int32.ofNat q = -1) = false := fun q hq => df (fun c => by rw [t_eq, n_ti (by omega), show (-1 : Int32).toInt = -1 from rfl] at c; omega)
    have h := lf (σ := Unit) 4096 (fun n _ => Rn X (d + 17) co_Ch_work (32, [some (vr 1), some (vi (Int32.ofNat b')), some (vi (Int32.ofNat s')), some (vi (b01 which)), some (vr (221 + 6 * b' + 3 * s')), some (vi (eF (wk f n))), some (vi (eB (wk f n))), some (vi (Int32.ofNat n))], [], pm_mm al' (pm_tb (3 + 2 * b' + s') D) J M)) (fun _ q => q) (fun n _ hn => by
      show Rn X (d + 17) co_Ch_work _ = Rn X (d + 17) co_Ch_work _
      have hwn : wk f (n + 1) = wk1 f n (wk f n) := by rw [wk, wk, fo]
      have hlt := wk_lt f n
      have h0 : decide ((4096 : Int32) ≤ Int32.ofNat n) = false := (n_dle (a := 4096) (by omega) (by omega)).trans (df (by omega))
      have hon : on (Int32.ofNat n) = Int32.ofNat (oN 12 n) := on_oN (k := 12) (by omega) hn
      have en : (Int32.ofNat n).toInt = n := n_ti (by omega)
      have o1 := oN_le 12 n
      have hAn := hA n
      have hbc : ∀ d, Cl X (d + 1) 1 [vi (Int32.ofNat n)] (pm_mm al' (pm_tb (3 + 2 * b' + s') D) J M) = some (some (vi (Int32.ofNat (oN 12 n))), pm_mm al' (pm_tb (3 + 2 * b' + s') D) J M) := fun d => by rw [k_bitCount (by omega) (by omega), hon]
      have hdz : decide (Int32.ofNat (f n) = 0) = decide (f n = 0) := n_deq (b := 0) (by omega) (by omega)
      rw [hwn, sgb_Ch_work_32 hb2 hs2, h0, cond_false, n_in (by omega), dt hn, cond_true, n_tn (by omega), hM n hn, k_wsil (by have := (hV n).1; omega), hVA]
      simp only [Option.bind_some, pm_ai]
      rw [sgb_Ch_work_48 hb2 hs2, hdz]
      by_cases hz : f n = 0
      · rw [dt hz, cond_true, hbc (d + 16)]
        simp only [Option.bind_some, pm_ai]
        rw [sgb_Ch_work_56 hb2 hs2]
        cases hw : wk f n with
        | none =>
          have h13 : decide (eF none ≤ Int32.ofNat (oN 12 n)) = false := (n_dle (a := 13) (by omega) (by omega)).trans (df (by omega))
          rw [h13, cond_false, hbc (d + 16), wk1, if_pos hz]
          simp only [Option.bind_some, pm_ai]
          rw [sgb_Ch_work_66 hb2 hs2, sgb_Ch_work_72 hb2 hs2, n_s]; rfl
        | some q =>
          have o2 := oN_le 12 q
          have h13 : decide (eF (some q) ≤ Int32.ofNat (oN 12 n)) = decide (oN 12 q ≤ oN 12 n) := n_dle (by omega) (by omega)
          rw [h13, hbc (d + 16), wk1]
          by_cases hc : oN 12 n < oN 12 q
          · rw [df (by omega), cond_false, if_pos ⟨hz, hc⟩]
            simp only [Option.bind_some, pm_ai]
            rw [sgb_Ch_work_66 hb2 hs2, sgb_Ch_work_72 hb2 hs2, n_s]; rfl
          · rw [dt (by omega), cond_true, if_neg (fun c => hc c.2), sgb_Ch_work_72 hb2 hs2, n_s]
      · rw [df hz, cond_false, sgb_Ch_work_72 hb2 hs2, n_s]
        cases hw : wk f n with
        | none => rw [wk1, if_neg hz]
        | some q => rw [wk1, if_neg (fun c => hz c.1)]) ()
    have h : Rn X (d + 17) co_Ch_work (32, [some (vr 1), some (vi (Int32.ofNat b')), some (vi (Int32.ofNat s')), some (vi (b01 which)), some (vr (221 + 6 * b' + 3 * s')), some (vi (eF (wk f 0))), some (vi (eB (wk f 0))), some (vi (Int32.ofNat 0))], [], pm_mm al' (pm_tb (3 + 2 * b' + s') D) J M) = Rn X (d + 17) co_Ch_work (32, [some (vr 1), some (vi (Int32.ofNat b')), some (vi (Int32.ofNat s')), some (vi (b01 which)), some (vr (221 + 6 * b' + 3 * s')), some (vi (eF (wk f 4096))), some (vi (eB (wk f 4096))), some (vi (Int32.ofNat 4096))], [], pm_mm al' (pm_tb (3 + 2 * b' + s') D) J M) := h
    have hlt := wk_lt f 4096
    rw [wk_0] at h
    generalize wk f 4096 = o at h hlt ⊢
    have h : Rn X (d + 17) co_Ch_work (32, [some (vr 1), some (vi (Int32.ofNat b')), some (vi (Int32.ofNat s')), some (vi (b01 which)), some (vr (221 + 6 * b' + 3 * s')), some (vi 13), some (vi (-1)), some (vi 0)], [], pm_mm al' (pm_tb (3 + 2 * b' + s') D) J M) = Rn X (d + 17) co_Ch_work (32, [some (vr 1), some (vi (Int32.ofNat b')), some (vi (Int32.ofNat s')), some (vi (b01 which)), some (vr (221 + 6 * b' + 3 * s')), some (vi (eF o)), some (vi (eB o)), some (vi (Int32.ofNat 4096))], [], pm_mm al' (pm_tb (3 + 2 * b' + s') D) J M) := h
    rw [h]
    refine (sgb_Ch_work_32 hb2 hs2 ..).trans ?_
    rw [show decide ((4096 : Int32) ≤ Int32.ofNat 4096) = true from rfl, cond_true]
    cases hw : o with
    | none =>
      rw [show decide (eB none = -1) = true from rfl, cond_true]
      cases which <;> rfl
    | some q =>
      have hq := hlt q hw
      rw [show eB (some q) = Int32.ofNat q from rfl, hneg q hq, cond_false, b01_ne]
      simp only [sgb_Ch_work_97]
      cases which <;> rfl
end
