section
variable {X : Nat × (Nat → Int32)} {d : Nat} {al : List Nat} {D : Nat → Bool} {I : Nat → Nat → Int32} {L : Nat → Nat → Int64}
def cQ2 (m : Nat → Nat) (al al' : List Nat) (D D' : Nat → Bool) (I J : Nat → Nat → Int32) (L M : Nat → Nat → Int64) : Prop := cF I J ∧ cW D' J M m ∧ (∀ a j, ¬ (220 ≤ a ∧ a ≤ 231) → ¬ a = 76 → M a j = L a j) ∧ wyA al D al' D'
theorem cQ2_refl {m : Nat → Nat} (w : cW D I L m) : cQ2 m al al D D I I L L := ⟨cF_refl, w, fun _ _ _ _ => rfl, fun _ _ h => h⟩
/-- ways and log at hand -/
theorem k_heard {m : Nat → Nat} {b s l : Nat} (g : rG I m) (r : RL I m) (w : cW D I L m) (hb : b < m 0) (hs : s < m 1) (hl : l < m 3) : ∃ al' J1 M1 J M, Cl X (d + 17) 137 [vr 1, vi (Int32.ofNat b), vi (Int32.ofNat s)] (pm_mm al D I L) = some (some (vr (220 + 6 * b + 3 * s)), pm_mm al' (pm_tb (3 + 2 * b + s) D) J1 M1)
    ∧ Cl X (d + 17) 20 [vr 76, vr (27 + 3 * l)] (pm_mm al' (pm_tb (3 + 2 * b + s) D) J1 M1) = some (none, pm_mm al' (pm_tb (3 + 2 * b + s) D) J M)
    ∧ cQ2 m al al' D (pm_tb (3 + 2 * b + s) D) I J L M ∧ hdd (lgO I l) J M ∧ (∀ x, x < 4096 → M (221 + 3 * (2 * b + s)) x = Int64.ofNat (wV (bdO I b) (wn (scO I s)) x 12)) := by
  have m0 := (g.1 0 (by omega)).1; have m1 := (g.1 1 (by omega)).1; have m3 := (g.1 3 (by omega)).1
  obtain ⟨gg, gn⟩ := lg_good g hl
  obtain ⟨J1, M1, f1, f2, f3, f4⟩ := k_waysOf (X := X) (d := d) (al := al) g r w hb hs
  have Q1 := cQ_w (al := al) g w (by omega) (by omega) f2 f3 f4
  have tl1 := cF_tl Q1.1
  obtain ⟨r1, r2⟩ := r.2.2.2.2.1 l hl
  have e0 : J1 (27 + 3 * l) 0 = Int32.ofNat (lgO I l).1 := by rw [tl1 _ (by omega), r1]; exact gn.1
  have e1 : ∀ k, k < (lgO I l).1 → J1 (28 + 3 * l) k = Int32.ofNat ((lgO I l).2.1 k) ∧ J1 (29 + 3 * l) k = Int32.ofNat ((lgO I l).2.2 k) := fun k hk => by
    obtain ⟨a1, a2⟩ := r2 k hk
    obtain ⟨b1, b2⟩ := gn.2 k hk
    rw [tl1 _ (by omega), tl1 _ (by omega)]
    exact ⟨by rw [show 28 + 3 * l = 27 + 3 * l + 1 by omega, a1]; exact b1, by rw [show 29 + 3 * l = 27 + 3 * l + 2 by omega, a2]; exact b2⟩
  obtain ⟨J, M, t1, t2, t3, t4⟩ := k_take (X := X) (d := d + 15) (al := cond (D (3 + 2 * b + s)) al (al ++ [220 + 6 * b + 3 * s] ++ [221 + 6 * b + 3 * s] ++ [222 + 6 * b + 3 * s])) (D := pm_tb (3 + 2 * b + s) D) (I := J1) (L := M1) (b := l) (by omega) gg e0 e1
  have hF : cF J1 J := ⟨fun a h1 h2 => by funext j; exact t2 a j (by omega), t2 57 0 (by omega), t2 59 0 (by omega), by funext j; exact t2 64 j (by omega)⟩
  refine ⟨_, J1, M1, J, M, f1, t1, ⟨Q1.1.trans hF, fun b' s' hb' hs' h1 h2 => ?_, fun a j h1 h2 => (t3 a j h2).trans (Q1.2.2.1 a j h1), Q1.2.2.2⟩, t4, fun x hx => ?_⟩
  · rw [t2 _ _ (by omega)] at h2
    obtain ⟨w1, w2, w3⟩ := Q1.2.1 b' s' hb' hs' h1 h2
    rw [bdO_tl (cF_tl hF), scO_tl (cF_tl hF)]
    exact ⟨fun j hj => by rw [t2 _ _ (by omega)]; exact w1 j hj, by rw [t3 _ _ (by omega)]; exact w2, fun x hx => by rw [t3 _ _ (by omega)]; exact w3 x hx⟩
  · rw [t3 _ _ (by omega)]; exact f4.2.2 x hx
/-- the rows of ways, asked one by one -/
def agP (X : Nat × (Nat → Int32)) (al : List Nat) (D : Nat → Bool) (I : Nat → Nat → Int32) (L : Nat → Nat → Int64) (i : Nat) (H : Nat → Bool) : Prop := ∀ d x, x < 4096 → Cl X (d + 1) 21 [vr 76, vl (L (221 + 3 * i) x)] (pm_mm al (pm_tb (3 + i) D) I L) = some (some (vi (b01 (H x))), pm_mm al (pm_tb (3 + i) D) I L)
theorem ag_of {b s l : Nat} (g : lgG (lgO I l)) {J : Nat → Nat → Int32} {M : Nat → Nat → Int64} (h : hdd (lgO I l) J M) (hr : ∀ x, x < 4096 → M (221 + 3 * (2 * b + s)) x = Int64.ofNat (wV (bdO I b) (wn (scO I s)) x 12)) : agP X al D J M (2 * b + s) (lgH I b s l) := fun d x hx => by
  rw [hr x hx]; exact k_agrees g h
theorem k_hways {i : Nat} {H : Nat → Bool} (hi : i < 4) (ha : agP X al D I L i H) : Cl X (d + 2) 22 [vr 76, vr (221 + 3 * i)] (pm_mm al (pm_tb (3 + i) D) I L) = some (some (vi (Int32.ofNat (fN H 4096))), pm_mm al (pm_tb (3 + i) D) I L) := by
  rw [Cl_s]
  show Rn X (d + 1) co_He_ways (0, [some (vr 76), some (vr (221 + 3 * i)), none, none], [], pm_mm al (pm_tb (3 + i) D) I L) = _
  rw [sgb_He_ways_0 hi]
  have h := lf (σ := Unit) 4096 (fun n _ => Rn X (d + 1) co_He_ways (4, [some (vr 76), some (vr (221 + 3 * i)), some (vi (Int32.ofNat (fN H n))), some (vi (Int32.ofNat n))], [], pm_mm al (pm_tb (3 + i) D) I L)) (fun _ q => q) (fun n _ hn => by
    show Rn X (d + 1) co_He_ways _ = Rn X (d + 1) co_He_ways _
    rw [sgb_He_ways_4 hi, show decide ((4096 : Int32) ≤ Int32.ofNat n) = false from (n_dle (a := 4096) (by omega) (by omega)).trans (df (by omega)), cond_false, n_in (by omega), dt hn, cond_true, n_tn (by omega), ha d n hn]
    simp only [Option.bind_some, pm_ai]
    rw [sgb_He_ways_17 hi, b01_ne, sgb_He_ways_23 hi, sgb_He_ways_23 hi, n_s, n_s, fN_s]
    cases H n <;> rfl) ()
  have h : Rn X (d + 1) co_He_ways (4, [some (vr 76), some (vr (221 + 3 * i)), some (vi (Int32.ofNat (fN H 0))), some (vi (Int32.ofNat 0))], [], pm_mm al (pm_tb (3 + i) D) I L) = Rn X (d + 1) co_He_ways (4, [some (vr 76), some (vr (221 + 3 * i)), some (vi (Int32.ofNat (fN H 4096))), some (vi (Int32.ofNat 4096))], [], pm_mm al (pm_tb (3 + i) D) I L) := h
  rw [show fN H 0 = 0 by rw [fN, su]] at h
  generalize fN H 4096 = N at h ⊢
  refine Eq.trans h ?_
  rw [sgb_He_ways_4 hi, show decide ((4096 : Int32) ≤ Int32.ofNat 4096) = true from rfl, cond_true]
theorem k_hwaysOn {i t : Nat} {H : Nat → Bool} (hi : i < 4) (ht : t < 12) (ha : agP X al D I L i H) : Cl X (d + 2) 23 [vr 76, vr (221 + 3 * i), vi (Int32.ofNat t)] (pm_mm al (pm_tb (3 + i) D) I L) = some (some (vi (Int32.ofNat (fT H t 4096))), pm_mm al (pm_tb (3 + i) D) I L) := by
  rw [Cl_s]
  show Rn X (d + 1) co_He_waysOn (0, [some (vr 76), some (vr (221 + 3 * i)), some (vi (Int32.ofNat t)), none, none], [], pm_mm al (pm_tb (3 + i) D) I L) = _
  rw [sgb_He_waysOn_0 hi]
  have h := lf (σ := Unit) 4096 (fun n _ => Rn X (d + 1) co_He_waysOn (5, [some (vr 76), some (vr (221 + 3 * i)), some (vi (Int32.ofNat t)), some (vi (Int32.ofNat (fT H t n))), some (vi (Int32.ofNat n))], [], pm_mm al (pm_tb (3 + i) D) I L)) (fun _ q => q) (fun n _ hn => by
    show Rn X (d + 1) co_He_waysOn _ = Rn X (d + 1) co_He_waysOn _
    rw [sgb_He_waysOn_5 hi, show decide ((4096 : Int32) ≤ Int32.ofNat n) = false from (n_dle (a := 4096) (by omega) (by omega)).trans (df (by omega)), cond_false, hs0_tb _ (show t < 32 by omega), n_in (by omega), dt hn, cond_true, n_tn (by omega), ha d n hn]
    simp only [Option.bind_some, pm_ai]
    rw [sgb_He_waysOn_29 hi, b01_ne, sgb_He_waysOn_35 hi, sgb_He_waysOn_35 hi, n_s, n_s, fT_s]
    cases H n <;> cases tb (Int32.ofNat n) t <;> rfl) ()
  have h : Rn X (d + 1) co_He_waysOn (5, [some (vr 76), some (vr (221 + 3 * i)), some (vi (Int32.ofNat t)), some (vi (Int32.ofNat (fT H t 0))), some (vi (Int32.ofNat 0))], [], pm_mm al (pm_tb (3 + i) D) I L) = Rn X (d + 1) co_He_waysOn (5, [some (vr 76), some (vr (221 + 3 * i)), some (vi (Int32.ofNat t)), some (vi (Int32.ofNat (fT H t 4096))), some (vi (Int32.ofNat 4096))], [], pm_mm al (pm_tb (3 + i) D) I L) := h
  rw [show fT H t 0 = 0 by rw [fT, su]] at h
  generalize fT H t 4096 = N at h ⊢
  refine Eq.trans h ?_
  rw [sgb_He_waysOn_5 hi, show decide ((4096 : Int32) ≤ Int32.ofNat 4096) = true from rfl, cond_true]
theorem k_hasHeard {m : Nat → Nat} (b s l : Int32) (g : rG I m) (r : RL I m) : Cl X (d + 3) 152 [vr 1, vi b, vi s, vi l] (pm_mm al D I L) = some (some (vi (b01 (okL m b s l))), pm_mm al D I L) := by
  have hm : ∀ i, i < 4 → m i ≤ 2 ∧ I 4 i = Int32.ofNat (m i) := fun i hi => ⟨(g.1 i hi).1, (r.1 i hi).trans (g.1 i hi).2⟩
  rw [Cl_s]
  show Rn X (d + 2) co_Ch_hasHeard (0, [some (vr 1), some (vi b), some (vi s), some (vi l)], [], pm_mm al D I L) = _
  have hh : Cl X (d + 2) 93 [vr 2, vi 3, vi l] (pm_mm al D I L) = some (some (vi (b01 (pm_in l (m 3)))), pm_mm al D I L) := k_has (d := d + 1) (s := 3) (m := m 3) l (by omega) (hm 3 (by omega)).1 (hm 3 (by omega)).2
  rw [sg_Ch_hasHeard_0, k_hasPair b s hm, Bool.and_comm, okL]
  simp only [Option.bind_some, pm_ai, sg_Ch_hasHeard_6, b01_ne, hh, sg_Ch_hasHeard_18, sg_Ch_hasHeard_25, sg_Ch_hasHeard_26]
  cases (pm_in s (m 1) && pm_in b (m 0)) <;> cases pm_in l (m 3) <;> rfl
theorem okL_nat {m : Nat → Nat} {b s l : Int32} (h : okL m b s l = true) : ∃ b' s' l', b = Int32.ofNat b' ∧ s = Int32.ofNat s' ∧ l = Int32.ofNat l' ∧ b' < m 0 ∧ s' < m 1 ∧ l' < m 3 := by
  rw [okL] at h
  simp only [Bool.and_eq_true] at h
  obtain ⟨s', hs', es⟩ := in_nat h.2.1
  obtain ⟨b', hb', eb⟩ := in_nat h.2.2
  obtain ⟨l', hl', el⟩ := in_nat h.1
  exact ⟨b', s', l', eb, es, el, hb', hs', hl'⟩
theorem q_trodden {m : Nat → Nat} (b s l t : Int32) (under : Bool) (g : rG I m) (r : RL I m) (w : cW D I L m) : ∃ al' D' J M, Cl X (d + 18) 156 [vr 1, vi b, vi s, vi l, vi t, vi (b01 under)] (pm_mm al D I L) = some (some (vl (vTrodden I m b s l t under)), pm_mm al' D' J M) ∧ cQ2 m al al' D D' I J L M := by
  rw [Cl_s]
  show ∃ al' D' J M, Rn X (d + 17) co_Ch_trodden (0, [some (vr 1), some (vi b), some (vi s), some (vi l), some (vi t), some (vi (b01 under)), none, none], [], pm_mm al D I L) = _ ∧ _
  have hp2 : pm_in t 12 = (!decide (t < 0) && decide (t < 12)) := by
    have e0 : (0 : Int32).toInt = 0 := rfl
    have e1 : (12 : Int32).toInt = 12 := rfl
    rw [Bool.eq_iff_iff, in_iff, Bool.and_eq_true, Bool.not_eq_true', decide_eq_false_iff_not, decide_eq_true_iff, t_lt, t_lt]; omega
  rw [sg_Ch_trodden_x_0, k_hasHeard (d := d + 14) b s l g r, vTrodden]
  simp only [Option.bind_some, pm_ai]
  rw [sg_Ch_trodden_x_7, b01_ne, sgb_Ch_trodden_22, hp2]
  cases hok : okL m b s l with
  | false => exact ⟨al, D, I, L, by rw [Bool.not_false, cond_true, Bool.and_false, cond_false], cQ2_refl w⟩
  | true =>
    rw [Bool.not_true, cond_false, Bool.and_true]
    cases k3 : decide (t < 0) with
    | true => exact ⟨al, D, I, L, by rw [cond_true, Bool.not_true, Bool.false_and, cond_false], cQ2_refl w⟩
    | false =>
      cases k4 : decide (t < 12) with
      | false => exact ⟨al, D, I, L, by rw [cond_false, cond_false, Bool.and_false, cond_false], cQ2_refl w⟩
      | true =>
        rw [k3, k4] at hp2
        obtain ⟨t', ht', et⟩ := in_nat hp2
        obtain ⟨b', s', l', eb, es, el, hb', hs', hl'⟩ := okL_nat hok
        have m0 := (g.1 0 (by omega)).1; have m1 := (g.1 1 (by omega)).1; have m3 := (g.1 3 (by omega)).1
        subst eb es el et
        obtain ⟨al', J1, M1, J, M, f1, f2, f3, f4, f5⟩ := k_heard (X := X) (d := d) (al := al) g r w hb' hs' hl'
        have hag := ag_of (X := X) (al := al') (D := D) (lg_good g hl').1 f4 f5
        refine ⟨al', _, J, M, ?_, f3⟩
        rw [cond_false, cond_true, Bool.not_false, Bool.and_self, cond_true, n_tn (by omega), n_tn (by omega), n_tn (by omega), n_tn (by omega), f1]
        simp only [Option.bind_some, pm_ar]
        rw [sgb_Ch_trodden_32 (by omega) (by omega) (by omega), f2]
        simp only [Option.bind_some, pm_av]
        have hN := fN_le (lgH I b' s' l') 4096
        have hT := fT_le (lgH I b' s' l') t' 4096
        have w1 := k_hways (d := d + 15) (by omega) hag
        have w2 := k_hwaysOn (d := d + 15) (by omega) ht' hag
        rw [show 3 + (2 * b' + s') = 3 + 2 * b' + s' by omega, show 221 + 3 * (2 * b' + s') = 221 + 6 * b' + 3 * s' by omega] at w1 w2
        refine Eq.trans (sgb_Ch_trodden_53 (l := 0) (by omega) (by omega) (by omega) ..) ?_
        rw [w1]
        simp only [Option.bind_some, pm_ai]
        refine Eq.trans (sgb_Ch_trodden_62 (l := 0) (by omega) (by omega) (by omega) ..) ?_
        rw [w2]
        simp only [Option.bind_some, pm_ai]
        rw [sgb_Ch_trodden_84]
        generalize fN (lgH I b' s' l') 4096 = N at *
        generalize fT (lgH I b' s' l') t' 4096 = T at *
        rw [show decide (Int32.ofNat N = 0) = decide (N = 0) from n_deq (b := 0) (by omega) (by omega)]
        by_cases hz : N = 0
        · rw [dt hz, cond_true, cond_true]
        · rw [df hz, cond_false, cond_false, i64_n (by omega), i64_n (by omega), k_part (d := d + 15) under (by rw [u_ti (by omega)]; omega) (by rw [u_ti (by omega)]; omega) (by rw [u_ti (by omega)]; omega)]
          simp only [Option.bind_some, pm_al, sgb_Ch_trodden_93]
end
