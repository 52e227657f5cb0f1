section
variable {X : Nat × (Nat → Int32)} {d : Nat} {al : List Nat} {D : Nat → Bool} {I : Nat → Nat → Int32} {L : Nat → Nat → Int64}
def od (f : Nat → Nat) (p n : Nat) : Nat := if f n = 0 then p ^ oN 12 n * (10 - p) ^ (12 - oN 12 n) else 0
theorem su_s (f : Nat → Nat) (n : Nat) : su f (n + 1) = su f n + f n := by rw [su]
theorem su_mono {f g : Nat → Nat} : ∀ n, (∀ k, k < n → f k ≤ g k) → su f n ≤ su g n
  | 0, _ => Nat.le_refl _
  | n + 1, h => by have := su_mono n (fun k hk => h k (by omega)); have := h n (by omega); rw [su, su]; omega
theorem od_le (f : Nat → Nat) {p : Nat} (hp : p ≤ 10) : su (od f p) 4096 ≤ 1000000000000 := by
  have h1 : su (od f p) 4096 ≤ su (fun set => wt (10 - p) p 12 set) (2 ^ 12) := su_mono 4096 (fun n _ => by
    rw [od, wt]; split
    · exact Nat.le_refl _
    · exact Nat.zero_le _)
  rw [wt_sum, show 10 - p + p = 10 by omega] at h1
  exact h1
theorem od_by {f : Nat → Nat} {p : Nat} {c : Nat → Nat → Nat} (hc : ∀ q j, c q j = if f q = 0 ∧ oN 12 q = j then 1 else 0) : su (fun j => su (fun q => c q j) 4096 * (p ^ j * (10 - p) ^ (12 - j))) 13 = su (od f p) 4096 := by
  have h1 : su (fun j => su (fun q => c q j) 4096 * (p ^ j * (10 - p) ^ (12 - j))) 13 = su (fun j => su (fun q => c q j * (p ^ j * (10 - p) ^ (12 - j))) 4096) 13 := su_congr _ (fun j _ => (su_mul _ _ _).symm)
  rw [h1, su_swap (fun q j => c q j * (p ^ j * (10 - p) ^ (12 - j)))]
  refine su_congr _ (fun q _ => ?_)
  have h2 : su (fun j => c q j * (p ^ j * (10 - p) ^ (12 - j))) 13 = su (fun j => (if oN 12 q = j then (if f q = 0 then 1 else 0) else 0) * (p ^ j * (10 - p) ^ (12 - j))) 13 := su_congr _ (fun j _ => by
    rw [hc]
    by_cases a : f q = 0
    · by_cases b : oN 12 q = j
      · rw [if_pos ⟨a, b⟩, if_pos b, if_pos a]
      · rw [if_neg (fun c => b c.2), if_neg b]
    · by_cases b : oN 12 q = j
      · rw [if_neg (fun c => a c.1), if_pos b, if_neg a]
      · rw [if_neg (fun c => a c.1), if_neg b])
  have := oN_le 12 q
  rw [h2, su_one (oN 12 q) _ (fun j => p ^ j * (10 - p) ^ (12 - j)) 13 (by omega), od]
  split <;> simp
def vOdds (I : Nat → Nat → Int32) (m : Nat → Nat) (b s p : Int32) (under : Bool) : Int64 := cond (pm_in p 11 && (pm_in s (m 1) && pm_in b (m 0))) (pa (Int64.ofNat (su (od (wA (bdO I b.toNatClampNeg) (wn (scO I s.toNatClampNeg))) p.toNatClampNeg) 4096)) (Int64.ofNat 1000000000000) under) (-1)
theorem r_odds {m : Nat → Nat} (b s p : Int32) (under : Bool) (g : rG I m) : ∃ J, Cl X (d + 5) 265 [vr 81, vi b, vi s, vi p, vi (b01 under)] (pm_mm al D I L) = some (some (vl (vOdds I m b s p under)), pm_mm al D J L) ∧ rF I J := by
  rw [Cl_s]
  show ∃ J, Rn X (d + 4) co_Mo_odds (0, [some (vr 81), some (vi b), some (vi s), some (vi p), some (vi (b01 under)), none, none, none], [], pm_mm al D I L) = _ ∧ _
  have h5 : (if 0 ≤ p ∧ p ≤ 10 then (1 : Int32) else 0) = b01 (pm_in p 11) := in_m (m := 11) (by omega)
  obtain ⟨J, e1, e2, e3⟩ := c_layN (X := X) (d := d) (al := al) (D := D) (L := L) b s g
  rw [sg_Mo_odds_0, vOdds]
  simp only [c_in, h5, Option.bind_some, pm_ai, sg_Mo_odds_12, b01_ne, e1]
  cases hp : pm_in p 11 with
  | false => exact ⟨_, sg_Mo_odds_24 .., rF_code⟩
  | true =>
    simp only [Bool.not_true, cond_false, Bool.true_and, sg_Mo_odds_21, b01_ne, sg_Mo_odds_24]
    cases hok : (pm_in s (m 1) && pm_in b (m 0)) with
    | false => exact ⟨J, rfl, e2⟩
    | true =>
      simp only [Bool.and_eq_true] at hok
      obtain ⟨s', hs', es⟩ := in_nat hok.1
      obtain ⟨b', hb', eb⟩ := in_nat hok.2
      obtain ⟨p', hp', ep⟩ := in_nat hp
      have m0 := (g.1 0 (by omega)).1
      have m1 := (g.1 1 (by omega)).1
      have hl := e3 b' s' eb es hb' hs'
      rw [eb, es, ep, n_tn (by omega), n_tn (by omega), n_tn (by omega)]
      generalize hf : wA (bdO I b') (wn (scO I s')) = f
      obtain ⟨K, k1, k2⟩ := lp (σ := Nat → Nat → Int32) 4096 (fun n K => Rn X (d + 4) co_Mo_odds (34, [some (vr 81), some (vi (Int32.ofNat b')), some (vi (Int32.ofNat s')), some (vi (Int32.ofNat p')), some (vi (b01 under)), some (vl (Int64.ofNat (su (od f p') n))), none, some (vi (Int32.ofNat n))], [], pm_mm al D K L)) (fun _ K => ldP I K b' s') (fun n K hn hK => by
        obtain ⟨K', p1, p2, p3, p4, p5, p6⟩ := c_playN (X := X) (d := d + 1) (al := al) (D := D) (L := L) (n := n) g hb' hK
        refine ⟨K', ?_, p3⟩
        show Rn X (d + 4) co_Mo_odds _ = Rn X (d + 4) co_Mo_odds _
        have h0 : decide ((4096 : Int32) ≤ Int32.ofNat n) = false := (n_dle (a := 4096) (by omega) (by omega)).trans (df (by omega))
        have ho := oN_le 12 n
        have hon : on (Int32.ofNat n) = Int32.ofNat (oN 12 n) := on_oN (k := 12) (by omega) hn
        have h10 : (10 : Int64) - (Int32.ofNat p').toInt64 = Int64.ofNat (10 - p') := by
          rw [i64_n (by omega), u_eq, u_ti (by omega), u_sub (x := 10) (by rw [u_ti (by omega)]; show -9223372036854775808 ≤ (10 : Int) - _; omega) (by rw [u_ti (by omega)]; show (10 : Int) - _ < _; omega), u_ti (by omega)]
          show (10 : Int) - _ = _; omega
        have h12 : (12 : Int32) - Int32.ofNat (oN 12 n) = Int32.ofNat (12 - oN 12 n) := n_sub (a := 12) ho
        rw [hf] at p6
        rw [sg_Mo_odds_34, h0, cond_false, p1]
        simp only [Option.bind_some, pm_av]
        rw [sg_Mo_odds_49, p6 (d + 3) L]
        simp only [Option.bind_some, pm_ai]
        rw [sg_Mo_odds_55, b01_ne]
        by_cases hz : f n = 0
        · rw [dt hz]
          simp only [Bool.not_true, cond_false, c_ones, hon, Option.bind_some, pm_ai]
          rw [sg_Mo_odds_65, c_power _ (by omega), i64_n (by omega), pwr_n]
          simp only [Option.bind_some, pm_al]
          rw [sg_Mo_odds_68]
          simp only [c_ones, hon, Option.bind_some, pm_ai]
          rw [sg_Mo_odds_81, h12, c_power _ (by omega), h10, pwr_n]
          simp only [Option.bind_some, pm_al]
          rw [sg_Mo_odds_85, sg_Mo_odds_90, un_mul, un_add, n_s, su, od, if_pos hz]
        · rw [df hz]
          simp only [Bool.not_false, cond_true]
          rw [sg_Mo_odds_90, n_s, su, od, if_neg hz]
          show Rn X (d + 4) co_Mo_odds (34, [_, _, _, _, _, some (vl (Int64.ofNat (su (od f p') n) + Int64.ofNat 0)), _, _], _) = _
          rw [un_add]) 0 J (Nat.zero_le _) hl
      have k1 : Rn X (d + 4) co_Mo_odds (34, [some (vr 81), some (vi (Int32.ofNat b')), some (vi (Int32.ofNat s')), some (vi (Int32.ofNat p')), some (vi (b01 under)), some (vl 0), none, some (vi 0)], [], pm_mm al D J L) = Rn X (d + 4) co_Mo_odds (34, [some (vr 81), some (vi (Int32.ofNat b')), some (vi (Int32.ofNat s')), some (vi (Int32.ofNat p')), some (vi (b01 under)), some (vl (Int64.ofNat (su (od f p') 4096))), none, some (vi (Int32.ofNat 4096))], [], pm_mm al D K L) := k1
      have hsu := od_le f (p := p') (by omega)
      refine ⟨K, ?_, k2.1⟩
      simp only [Bool.not_true, cond_false, cond_true]
      have hpw : Cl X (d + 4) 240 [vl 10, vi 12] (pm_mm al D K L) = some (some (vl (Int64.ofNat 1000000000000)), pm_mm al D K L) := (c_power (d := d + 3) (n := 12) (Int64.ofNat 10) (by omega)).trans (by rw [pwr_n])
      rw [k1, sg_Mo_odds_34, show decide ((4096 : Int32) ≤ Int32.ofNat 4096) = true from rfl, cond_true, hpw]
      simp only [Option.bind_some, pm_al]
      rw [sg_Mo_odds_109, c_part (d := d + 2) under (by rw [u_ti (by omega)]; omega) (by rw [u_ti (by omega)]; omega)]
      simp only [Option.bind_some, pm_al, sg_Mo_odds_114]
theorem q_odds {m : Nat → Nat} (b s p : Int32) (under : Bool) (g : rG I m) (r : RL I m) (w : cW D I L m) : ∃ al' D' J M, Cl X (d + 18) 140 [vr 1, vi b, vi s, vi p, vi (b01 under)] (pm_mm al D I L) = some (some (vl (vOdds I m b s p under)), pm_mm al' D' J M) ∧ cQ m al al' D D' I J L M := by
  have hm : ∀ i, i < 4 → m i ≤ 2 ∧ I 4 i = Int32.ofNat (m i) := fun i hi => ⟨(g.1 i hi).1, (r.1 i hi).trans (g.1 i hi).2⟩
  rw [Cl_s]
  show ∃ al' D' J M, Rn X (d + 17) co_Ch_odds (0, [some (vr 1), some (vi b), some (vi s), some (vi p), some (vi (b01 under)), none, none, none, none], [], pm_mm al D I L) = _ ∧ _
  have hp2 : pm_in p 11 = (!decide (p < 0) && decide (p ≤ 10)) := by
    have e0 : (0 : Int32).toInt = 0 := rfl
    have e1 : (10 : Int32).toInt = 10 := rfl
    rw [Bool.eq_iff_iff, in_iff, Bool.and_eq_true, Bool.not_eq_true', decide_eq_false_iff_not, decide_eq_true_iff, t_lt, t_le]; omega
  rw [sg_Ch_odds_x_0, k_hasPair (d := d + 15) b s hm, Bool.and_comm (pm_in b (m 0))]
  simp only [Option.bind_some, pm_ai, sg_Ch_odds_x_6, b01_ne, vOdds, hp2, sgb_Ch_odds_19]
  cases hok : (pm_in s (m 1) && pm_in b (m 0)) with
  | false => rw [Bool.and_false]; exact ⟨al, D, I, L, rfl, cQ_refl w⟩
  | true =>
    cases k3 : decide (p < 0) with
    | true => exact ⟨al, D, I, L, rfl, cQ_refl w⟩
    | false =>
      cases k4 : decide (p ≤ 10) with
      | false => exact ⟨al, D, I, L, rfl, cQ_refl w⟩
      | true =>
        rw [k3, k4] at hp2
        simp only [Bool.and_eq_true] at hok
        obtain ⟨s', hs', es⟩ := in_nat hok.1
        obtain ⟨b', hb', eb⟩ := in_nat hok.2
        obtain ⟨p', hp', ep⟩ := in_nat hp2
        have m0 := (g.1 0 (by omega)).1
        have m1 := (g.1 1 (by omega)).1
        rw [eb, es, ep, n_tn (by omega), n_tn (by omega), n_tn (by omega)]
        obtain ⟨J, M, f1, f2, f3, f4⟩ := k_waysOf (X := X) (d := d) (al := al) g r w hb' hs'
        refine ⟨_, _, J, M, ?_, cQ_w g w (by omega) (by omega) f2 f3 f4⟩
        simp only [Bool.not_true, Bool.not_false, Bool.and_self, cond_false, cond_true, f1, Option.bind_some, pm_ar]
        rw [sgb_Ch_odds_29 (by omega) (by omega)]
        generalize cond (D (3 + 2 * b' + s')) al (al ++ [220 + 6 * b' + 3 * s'] ++ [221 + 6 * b' + 3 * s'] ++ [222 + 6 * b' + 3 * s']) = al'
        generalize hf : wA (bdO I b') (wn (scO I s')) = f
        have hJ : ∀ j, j < 13 → J (222 + 6 * b' + 3 * s') j = Int32.ofNat (su (fun q => ic (bdO I b') (wn (scO I s')) q j) 4096) := fun j hj => by rw [show 222 + 6 * b' + 3 * s' = 222 + 3 * (2 * b' + s') by omega]; exact f4.1 j hj
        have h := lf (σ := Unit) 13 (fun t _ => Rn X (d + 17) co_Ch_odds (40, [some (vr 1), some (vi (Int32.ofNat b')), some (vi (Int32.ofNat s')), some (vi (Int32.ofNat p')), some (vi (b01 under)), some (vr (222 + 6 * b' + 3 * s')), some (vl (Int64.ofNat (su (fun j => su (fun q => ic (bdO I b') (wn (scO I s')) q j) 4096 * (p' ^ j * (10 - p') ^ (12 - j))) t))), none, some (vi (Int32.ofNat t))], [], pm_mm al' (pm_tb (3 + 2 * b' + s') D) J M)) (fun _ q => q) (fun t _ ht => by
          show Rn X (d + 17) co_Ch_odds _ = Rn X (d + 17) co_Ch_odds _
          have h0 : decide ((12 : Int32) < Int32.ofNat t) = false := (n_dlt (a := 12) (by omega) (by omega)).trans (df (by omega))
          have hic : su (fun q => ic (bdO I b') (wn (scO I s')) q t) 4096 ≤ 1 * 4096 := su_bd (fun q => by rw [ic]; split <;> omega) 4096
          have hch : Cl X (d + 17) 159 [vi (Int32.ofNat p'), vi (Int32.ofNat t), vi 12] (pm_mm al' (pm_tb (3 + 2 * b' + s') D) J M) = _ := k_chance (d := d + 15) (p := p') (s := t) (n := 12) (by omega) (by omega) (by omega)
          rw [sgb_Ch_odds_40 (by omega) (by omega), h0, cond_false, n_in (by omega), dt ht, cond_true, hch, n_tn (by omega), hJ t ht]
          simp only [Option.bind_some, pm_al]
          rw [sgb_Ch_odds_63 (by omega) (by omega), pwr_n, pwr_n, un_mul, i64_n (by omega), un_mul, un_add, n_s, su_s _ t]) ()
        have h : Rn X (d + 17) co_Ch_odds (40, [some (vr 1), some (vi (Int32.ofNat b')), some (vi (Int32.ofNat s')), some (vi (Int32.ofNat p')), some (vi (b01 under)), some (vr (222 + 6 * b' + 3 * s')), some (vl 0), none, some (vi 0)], [], pm_mm al' (pm_tb (3 + 2 * b' + s') D) J M) = _ := h
        have hsu := od_le f (p := p') (by omega)
        have hby := od_by (f := f) (p := p') (c := ic (bdO I b') (wn (scO I s'))) (fun q j => by rw [ic, hf])
        have hpw : Cl X (d + 17) 158 [vi 10, vi 12] (pm_mm al' (pm_tb (3 + 2 * b' + s') D) J M) = some (some (vl (Int64.ofNat 1000000000000)), pm_mm al' (pm_tb (3 + 2 * b' + s') D) J M) := (k_power (d := d + 16) (n := 12) (Int32.ofNat 10) (by omega)).trans (by rw [i64_n (by omega), pwr_n])
        rw [h, hby]
        refine (sgb_Ch_odds_40 (by omega) (by omega) ..).trans ?_
        rw [show decide ((12 : Int32) < Int32.ofNat 13) = true from rfl, cond_true, hpw]
        simp only [Option.bind_some, pm_al]
        rw [sgb_Ch_odds_82, k_part (d := d + 15) under (by rw [u_ti (by omega)]; omega) (by rw [u_ti (by omega)]; omega) (by rw [u_ti (by omega)]; omega)]
        simp only [Option.bind_some, pm_al, sgb_Ch_odds_87]
end
