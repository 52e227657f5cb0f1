section
variable {X : Nat × (Nat → Int32)} {d : Nat} {al : List Nat} {D : Nat → Bool} {I : Nat → Nat → Int32} {L : Nat → Nat → Int64}
theorem sil_su {g : Nat → Int32} (hb : ∀ t, t < 12 → ∀ k, k < 32 → tb (g t) k = true → k < 6) : ∀ n, n ≤ 12 → fo (sil1 g) n 0 = Int32.ofNat (su (fun t => cn (fun k => tb (g t) k) 6) n)
  | 0, _ => by rw [fo, su]; rfl
  | n + 1, hn => by rw [fo, sil_su hb n (by omega), su, sil1, on_n (n := 6) (by omega) (hb n (by omega)), n_add]
theorem cn_zero {f : Nat → Bool} : ∀ n, (cn f n = 0 ↔ ∀ k, k < n → f k = false)
  | 0 => ⟨fun _ k hk => absurd hk (Nat.not_lt_zero k), fun _ => rfl⟩
  | n + 1 => by
    have ih := cn_zero (f := f) n
    have e : cn f (n + 1) = cn f n + cond (f n) 1 0 := rfl
    rw [e]
    constructor
    · intro h k hk
      by_cases hkn : k = n
      · subst hkn
        cases hf : f k with
        | false => rfl
        | true => rw [hf] at h; simp at h
      · exact ih.mp (by omega) k (by omega)
    · intro h
      rw [ih.mpr (fun k hk => h k (by omega)), h n (by omega)]; rfl
theorem su_zero_iff (f : Nat → Nat) : ∀ n, (su f n = 0 ↔ ∀ k, k < n → f k = 0)
  | 0 => ⟨fun _ k hk => absurd hk (Nat.not_lt_zero k), fun _ => rfl⟩
  | n + 1 => by
    have ih := su_zero_iff f n
    rw [su]
    constructor
    · intro h k hk
      by_cases hkn : k = n
      · subst hkn; omega
      · exact ih.mp (by omega) k (by omega)
    · intro h
      rw [ih.mpr (fun k hk => h k (by omega)), h n (by omega)]
theorem well_iff (g : Nat → Int32) : ∀ n k, (well g k n = true ↔ ∀ j, k ≤ j → j < k + n → g j = 0)
  | 0, k => ⟨fun _ j h1 h2 => by omega, fun _ => rfl⟩
  | n + 1, k => by
    rw [well, Bool.and_eq_true, decide_eq_true_iff, well_iff g n (k + 1)]
    constructor
    · intro h j h1 h2
      by_cases hjk : j = k
      · subst hjk; exact h.1
      · exact h.2 j (by omega) (by omega)
    · intro h
      exact ⟨h k (by omega) (by omega), fun j h1 h2 => h j (by omega) (by omega)⟩
theorem well_su {g : Nat → Int32} (hb : ∀ t, t < 12 → ∀ k, k < 32 → tb (g t) k = true → k < 6) : well g 0 12 = decide (su (fun t => cn (fun k => tb (g t) k) 6) 12 = 0) := by
  rw [Bool.eq_iff_iff, well_iff, decide_eq_true_iff, su_zero_iff]
  constructor
  · intro h t ht
    rw [cn_zero]; intro k hk
    rw [h t (by omega) (by omega), tb_0]
  · intro h j _ hj
    refine tb_zero (fun k hk => ?_)
    cases hc : tb (g j) k with
    | false => rfl
    | true =>
      have := (cn_zero 6).mp (h j (by omega)) k (hb j (by omega) k hk hc)
      rw [show tb (g j) k = true from hc] at this; cases this
/-- the reference has band and score laid -/
def ldP (I K : Nat → Nat → Int32) (b s : Nat) : Prop := rF I K ∧ laP I K b s
theorem wbits {m : Nat → Nat} {b : Nat} (g : rG I m) (hb : b < m 0) (w : Nat → Int32) (n t : Nat) : psB (bdO I b).2.2.2.2.1 (wps (bdO I b) w n t) ∧ (bdO I b).2.2.2.2.1 ≤ 6 := by
  have h6 : (bdO I b).2.2.2.2.1 ≤ 6 := (g.2.1 b hb).1
  exact ⟨ps_bits h6 (fun i hi => ⟨i, hi, rfl⟩) t, h6⟩
theorem c_playN {m : Nat → Nat} {b s n : Nat} {K : Nat → Nat → Int32} (g : rG I m) (hb : b < m 0) (h : ldP I K b s) : ∃ K', Cl X (d + 3) 210 [vr 81, vi (Int32.ofNat n), vi (-1)] (pm_mm al D K L) = some (none, pm_mm al D K' L) ∧ plF K K' ∧ ldP I K' b s
    ∧ (∀ t, t < 12 → K' 97 t = (wps (bdO I b) (wn (scO I s)) n (t + 1)).2.2.2.1 ∧ K' 98 t = (wps (bdO I b) (wn (scO I s)) n (t + 1)).2.2.2.2.1)
    ∧ (∀ (d : Nat) (L : Nat → Nat → Int64), Cl X (d + 3) 211 [vr 81] (pm_mm al D K' L) = some (some (vi (Int32.ofNat (wA (bdO I b) (wn (scO I s)) n))), pm_mm al D K' L))
    ∧ (∀ (d : Nat) (L : Nat → Nat → Int64), Cl X (d + 1) 212 [vr 81] (pm_mm al D K' L) = some (some (vi (b01 (decide (wA (bdO I b) (wn (scO I s)) n = 0)))), pm_mm al D K' L)) := by
  obtain ⟨h1, h2, h3, h4⟩ := h
  obtain ⟨K', e1, e2, e3⟩ := c_playsB (X := X) (d := d) (al := al) (D := D) (L := L) (J := K) (w := wn (scO I s)) (Int32.ofNat n) (-1) g hb (fun j => congrFun (h1 87 (by omega) (by omega)) j) h2 h4
  have hv : ∀ t, t < 12 → K' 97 t = (wps (bdO I b) (wn (scO I s)) n (t + 1)).2.2.2.1 ∧ K' 98 t = (wps (bdO I b) (wn (scO I s)) n (t + 1)).2.2.2.2.1 := fun t ht => ⟨(e3.1 t ht).2.2.1, (e3.1 t ht).2.2.2.1⟩
  have hbit : ∀ t, t < 12 → ∀ k, k < 32 → tb (K' 98 t) k = true → k < 6 := fun t ht k hk hc => by
    rw [(hv t ht).2] at hc
    obtain ⟨w1, w2⟩ := wbits g hb (wn (scO I s)) n (t + 1)
    have := (w1 k hk).2.2.1 hc; omega
  have hA : su (fun t => cn (fun k => tb (K' 98 t) k) 6) 12 = wA (bdO I b) (wn (scO I s)) n := su_congr _ (fun t ht => by rw [(hv t ht).2]; rfl)
  refine ⟨K', e1, e2, ⟨h1.trans (rF_pl e2), hdP_up h2 e2, (e2 81 24 (by omega) (by omega)).trans h3, fun t ht => (e2 93 t (by omega) (by omega)).trans (h4 t ht)⟩, hv, fun d L => ?_, fun d L => ?_⟩
  · rw [c_silentAll, sil_su hbit 12 (Nat.le_refl _), hA]
  · rw [c_isWell, well_su hbit, hA]
theorem su_bd {f : Nat → Nat} {c : Nat} (h : ∀ k, f k ≤ c) : ∀ n, su f n ≤ c * n
  | 0 => Nat.zero_le _
  | n + 1 => by have := su_bd h n; have := h n; rw [su, Nat.mul_succ]; omega
theorem wA_le (B : PB) (w : Nat → Int32) (n : Nat) : wA B w n ≤ 72 := wl_le B w n 12
theorem c_layN {m : Nat → Nat} (b s : Int32) (g : rG I m) : ∃ J, Cl X (d + 4) 215 [vr 81, vi b, vi s] (pm_mm al D (pm_up I 81 0 0) L) = some (some (vi (b01 (pm_in s (m 1) && pm_in b (m 0)))), pm_mm al D J L) ∧ rF I J ∧ ∀ b' s', b = Int32.ofNat b' → s = Int32.ofNat s' → b' < m 0 → s' < m 1 → ldP I J b' s' := by
  have g' : rG (pm_up I 81 0 0) m := by rw [rG_up m rF_code]; exact g
  obtain ⟨J, e1, e2, e3⟩ := c_layBoth (X := X) (d := d) (al := al) (D := D) (L := L) (I := pm_up I 81 0 0) b s g'
  exact ⟨J, e1, rF_code.trans (rF_la e2), fun b' s' eb es hb hs => ⟨rF_code.trans (rF_la e2), e3 b' s' eb es hb hs⟩⟩
def vMean (I : Nat → Nat → Int32) (m : Nat → Nat) (b s : Int32) (under : Bool) : Int64 := cond (pm_in s (m 1) && pm_in b (m 0)) (pa (Int64.ofNat (su (wA (bdO I b.toNatClampNeg) (wn (scO I s.toNatClampNeg))) 4096)) 4096 under) (-1)
theorem r_mean {m : Nat → Nat} (b s : Int32) (under : Bool) (g : rG I m) : ∃ J, Cl X (d + 5) 266 [vr 81, vi b, vi s, vi (b01 under)] (pm_mm al D I L) = some (some (vl (vMean I m b s under)), pm_mm al D J L) ∧ rF I J := by
  rw [Cl_s]
  show ∃ J, Rn X (d + 4) co_Mo_mean (0, [some (vr 81), some (vi b), some (vi s), some (vi (b01 under)), none, none, none], [], pm_mm al D I L) = _ ∧ _
  obtain ⟨J, e1, e2, e3⟩ := c_layN (X := X) (d := d) (al := al) (D := D) (L := L) b s g
  rw [sg_Mo_mean_0, e1]
  simp only [Option.bind_some, pm_ai, sg_Mo_mean_11, b01_ne, vMean]
  cases hok : (pm_in s (m 1) && pm_in b (m 0)) with
  | false => exact ⟨J, rfl, e2⟩
  | true =>
    simp only [Bool.and_eq_true] at hok
    obtain ⟨s', hs', es⟩ := in_nat hok.1
    obtain ⟨b', hb', eb⟩ := in_nat hok.2
    have m0 := (g.1 0 (by omega)).1
    have m1 := (g.1 1 (by omega)).1
    have hl := e3 b' s' eb es hb' hs'
    rw [eb, es, n_tn (by omega), n_tn (by omega)]
    generalize hf : wA (bdO I b') (wn (scO I s')) = f
    obtain ⟨K, k1, k2⟩ := lp (σ := Nat → Nat → Int32) 4096 (fun n K => Rn X (d + 4) co_Mo_mean (24, [some (vr 81), some (vi (Int32.ofNat b')), some (vi (Int32.ofNat s')), some (vi (b01 under)), some (vl (Int64.ofNat (su f n))), none, some (vi (Int32.ofNat n))], [], pm_mm al D K L)) (fun _ K => ldP I K b' s') (fun n K hn hK => by
      obtain ⟨K', p1, p2, p3, p4, p5, p6⟩ := c_playN (X := X) (d := d + 1) (al := al) (D := D) (L := L) (n := n) g hb' hK
      refine ⟨K', ?_, p3⟩
      show Rn X (d + 4) co_Mo_mean _ = Rn X (d + 4) co_Mo_mean _
      have h0 : decide ((4096 : Int32) ≤ Int32.ofNat n) = false := (n_dle (a := 4096) (by omega) (by omega)).trans (df (by omega))
      have hA := wA_le (bdO I b') (wn (scO I s')) n
      rw [hf] at p5 hA
      rw [sg_Mo_mean_24, h0, cond_false, p1]
      simp only [Option.bind_some, pm_av]
      rw [sg_Mo_mean_39, p5 (d + 1) L]
      simp only [Option.bind_some, pm_ai]
      rw [sg_Mo_mean_45, i64_n (by omega), un_add, n_s, su]) 0 J (Nat.zero_le _) hl
    have k1 : Rn X (d + 4) co_Mo_mean (24, [some (vr 81), some (vi (Int32.ofNat b')), some (vi (Int32.ofNat s')), some (vi (b01 under)), some (vl 0), none, some (vi 0)], [], pm_mm al D J L) = Rn X (d + 4) co_Mo_mean (24, [some (vr 81), some (vi (Int32.ofNat b')), some (vi (Int32.ofNat s')), some (vi (b01 under)), some (vl (Int64.ofNat (su f 4096))), none, some (vi (Int32.ofNat 4096))], [], pm_mm al D K L) := k1
    have hsu : su f 4096 ≤ 72 * 4096 := su_bd (fun n => by rw [← hf]; exact wA_le _ _ n) 4096
    refine ⟨K, ?_, k2.1⟩
    simp only [Bool.not_true, cond_false, cond_true]
    have e4 : (4096 : Int64).toInt = 4096 := rfl
    rw [k1, sg_Mo_mean_24, show decide ((4096 : Int32) ≤ Int32.ofNat 4096) = true from rfl, cond_true, c_part (d := d + 2) under (by rw [u_ti (by omega)]; omega) (by rw [e4]; omega)]
    simp only [Option.bind_some, pm_al, sg_Mo_mean_64]
/-- what a question with ways leaves: cells made, by steps -/
def wyA (al : List Nat) (D : Nat → Bool) (al' : List Nat) (D' : Nat → Bool) : Prop := ∀ P : List Nat → (Nat → Bool) → Prop, (∀ al D i, i < 4 → P al D → P (cond (D (3 + i)) al (al ++ [220 + 3 * i] ++ [221 + 3 * i] ++ [222 + 3 * i])) (pm_tb (3 + i) D)) → P al D → P al' D'
def cQ (m : Nat → Nat) (al al' : List Nat) (D D' : Nat → Bool) (I J : Nat → Nat → Int32) (L M : Nat → Nat → Int64) : Prop := cF I J ∧ cW D' J M m ∧ (∀ a j, ¬ (220 ≤ a ∧ a ≤ 231) → M a j = L a j) ∧ wyA al D al' D'
theorem cQ_refl {m : Nat → Nat} (w : cW D I L m) : cQ m al al D D I I L L := ⟨cF_refl, w, fun _ _ _ => rfl, fun _ _ h => h⟩
theorem cQ_w {m : Nat → Nat} {b s : Nat} {J : Nat → Nat → Int32} {M : Nat → Nat → Int64} (g : rG I m) (w : cW D I L m) (hb : b < 2) (hs : s < 2) (h : wyF b s I J) (hl : lnL (2 * b + s) L M) (hw : wyP (bdO I b) (wn (scO I s)) (2 * b + s) J M) : cQ m al (cond (D (3 + 2 * b + s)) al (al ++ [220 + 6 * b + 3 * s] ++ [221 + 6 * b + 3 * s] ++ [222 + 6 * b + 3 * s])) D (pm_tb (3 + 2 * b + s) D) I J L M := by
  refine ⟨h.1, cW_up g w hs h hl hw, fun a j ha => hl a j (by omega), fun P hP h0 => ?_⟩
  have := hP al D (2 * b + s) (by omega) h0
  rw [show 3 + (2 * b + s) = 3 + 2 * b + s by omega, show 220 + 3 * (2 * b + s) = 220 + 6 * b + 3 * s by omega, show 221 + 3 * (2 * b + s) = 221 + 6 * b + 3 * s by omega, show 222 + 3 * (2 * b + s) = 222 + 6 * b + 3 * s by omega] at this
  exact this
theorem q_mean {m : Nat → Nat} (b s : Int32) (under : Bool) (g : rG I m) (r : RL I m) (w : cW D I L m) : ∃ al' D' J M, Cl X (d + 18) 141 [vr 1, vi b, vi s, vi (b01 under)] (pm_mm al D I L) = some (some (vl (vMean I m b s under)), pm_mm al' D' J M) ∧ cQ m al al' D D' I J L M := by
  have hm : ∀ i, i < 4 → m i ≤ 2 ∧ I 4 i = Int32.ofNat (m i) := fun i hi => ⟨(g.1 i hi).1, (r.1 i hi).trans (g.1 i hi).2⟩
  rw [Cl_s]
  show ∃ al' D' J M, Rn X (d + 17) co_Ch_mean (0, [some (vr 1), some (vi b), some (vi s), some (vi (b01 under))], [], pm_mm al D I L) = _ ∧ _
  rw [sg_Ch_mean_x_0, k_hasPair (d := d + 15) b s hm, Bool.and_comm]
  simp only [Option.bind_some, pm_ai, sg_Ch_mean_x_6, b01_ne, vMean]
  cases hok : (pm_in s (m 1) && pm_in b (m 0)) with
  | false => exact ⟨al, D, I, L, rfl, cQ_refl w⟩
  | true =>
    simp only [Bool.and_eq_true] at hok
    obtain ⟨s', hs', es⟩ := in_nat hok.1
    obtain ⟨b', hb', eb⟩ := in_nat hok.2
    have m0 := (g.1 0 (by omega)).1
    have m1 := (g.1 1 (by omega)).1
    rw [eb, es, n_tn (by omega), n_tn (by omega)]
    obtain ⟨J, M, f1, f2, f3, f4⟩ := k_waysOf (X := X) (d := d) (al := al) g r w hb' hs'
    refine ⟨_, _, J, M, ?_, cQ_w g w (by omega) (by omega) f2 f3 f4⟩
    have hsu : su (wA (bdO I b') (wn (scO I s'))) 4096 ≤ 72 * 4096 := su_bd (fun n => wA_le _ _ n) 4096
    have e4 : (4096 : Int64).toInt = 4096 := rfl
    have hM : M (220 + 6 * b' + 3 * s') 2 = Int64.ofNat (su (wA (bdO I b') (wn (scO I s'))) 4096) := by rw [show 220 + 6 * b' + 3 * s' = 220 + 3 * (2 * b' + s') by omega]; exact f4.2.1
    simp only [Bool.not_true, cond_false, cond_true, f1, Option.bind_some, pm_ar]
    rw [sgb_Ch_mean_19 (by omega) (by omega), hM, k_part (d := d + 15) under (by rw [u_ti (by omega)]; omega) (by rw [e4]; omega) (by rw [e4]; omega)]
    simp only [Option.bind_some, pm_al, sgb_Ch_mean_29]
end
