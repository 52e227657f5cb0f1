section
variable {X : Nat × (Nat → Int32)} {d : Nat} {al : List Nat} {D : Nat → Bool} {I : Nat → Nat → Int32} {L : Nat → Nat → Int64}
theorem wn_tb (S : SC) (g : scG S) (t : Nat) {i : Nat} (hi : i < 32) : ∀ n, n ≤ S.1 → (tb (fo (wn1 S t) n 0) i = true ↔ ∃ k, k < n ∧ S.2.1 k = i ∧ S.2.2.1 k ≤ t ∧ t < S.2.2.1 k + S.2.2.2 k)
  | 0, _ => by rw [fo, tb_0]; exact ⟨fun h => (by cases h), fun ⟨k, hk, _⟩ => absurd hk (Nat.not_lt_zero k)⟩
  | n + 1, hn => by
    have ih := wn_tb S g t hi n (by omega)
    have hp := (g.2 n (by omega)).1
    rw [fo, wn1]
    by_cases hc : S.2.2.1 n ≤ t ∧ t < S.2.2.1 n + S.2.2.2 n
    · rw [if_pos hc, tb_or, tb_shl (by omega) hi, Bool.or_eq_true, decide_eq_true_iff, ih]
      constructor
      · rintro (⟨k, hk, h⟩ | h)
        · exact ⟨k, by omega, h⟩
        · exact ⟨n, by omega, h, hc⟩
      · rintro ⟨k, hk, h1, h2⟩
        by_cases hkn : k = n
        · subst hkn; exact Or.inr h1
        · exact Or.inl ⟨k, by omega, h1, h2⟩
    · rw [if_neg hc, ih]
      constructor
      · rintro ⟨k, hk, h⟩; exact ⟨k, by omega, h⟩
      · rintro ⟨k, hk, h1, h2⟩
        by_cases hkn : k = n
        · subst hkn; exact absurd h2 hc
        · exact ⟨k, by omega, h1, h2⟩
theorem wn_bits {S : SC} (g : scG S) (t : Nat) : ∀ k, k < 32 → tb (wn S t) k = true → k < 6 := fun k hk h => by
  obtain ⟨j, hj, e, _⟩ := (wn_tb S g t hk S.1 (Nat.le_refl _)).mp h
  have := (g.2 j hj).1; omega
theorem wn_sma {S : SC} (g : scG S) (t : Nat) : sma (wn S t) := sma_b (n := 6) (by omega) (wn_bits g t)
theorem sma_and {x : Int32} (y : Int32) (h : sma x) : sma (x &&& y) := sma_b (n := 12) (Nat.le_refl _) (fun k hk hb => by
  rw [tb_and, Bool.and_eq_true] at hb
  rcases Nat.lt_or_ge k 12 with h1 | h1
  · exact h1
  · rw [tb_sma h h1] at hb; cases hb.1)
theorem k_wantedN {s t : Nat} {S : SC} (hs : s < 2) (nt : ntP I s S) (ht : t < 1000) : Cl X (d + 1) 81 [vr (19 + 4 * s), vi (Int32.ofNat t)] (pm_mm al D I L) = some (some (vi (wn S t)), pm_mm al D I L) := by
  obtain ⟨⟨g1, g2⟩, n1, n2⟩ := nt
  have e1 : (scC I (19 + 4 * s)).1 = S.1 := by show (I (19 + 4 * s) 0).toNatClampNeg = S.1; rw [n1, n_tn (by omega)]
  have ee : ∀ k, k < S.1 → (scC I (19 + 4 * s)).2.1 k = S.2.1 k ∧ (scC I (19 + 4 * s)).2.2.1 k = S.2.2.1 k ∧ (scC I (19 + 4 * s)).2.2.2 k = S.2.2.2 k := fun k hk => by
    obtain ⟨a1, a2, a3⟩ := n2 k hk
    obtain ⟨q1, q2, q3, q4⟩ := g2 k hk
    refine ⟨?_, ?_, ?_⟩
    · show (I (19 + 4 * s + 1) k).toNatClampNeg = _; rw [show 19 + 4 * s + 1 = 20 + 4 * s by omega, a1, n_tn (by omega)]
    · show (I (19 + 4 * s + 2) k).toNatClampNeg = _; rw [show 19 + 4 * s + 2 = 21 + 4 * s by omega, a2, n_tn (by omega)]
    · show (I (19 + 4 * s + 3) k).toNatClampNeg = _; rw [show 19 + 4 * s + 3 = 22 + 4 * s by omega, a3, n_tn (by omega)]
  have hg : gC I (19 + 4 * s) := by
    refine ⟨⟨by rw [e1]; exact g1, fun k hk => ?_⟩, ?_, fun k hk => ?_⟩
    · rw [e1] at hk; obtain ⟨x1, x2, x3⟩ := ee k hk; rw [x1, x2, x3]; exact g2 k hk
    · rw [n1]; exact (n_le (a := 0) (by omega) (by omega)).mpr (Nat.zero_le _)
    · rw [e1] at hk
      obtain ⟨a1, a2, a3⟩ := n2 k hk
      obtain ⟨q1, q2, q3, q4⟩ := g2 k hk
      rw [show 19 + 4 * s + 1 = 20 + 4 * s by omega, show 19 + 4 * s + 2 = 21 + 4 * s by omega, show 19 + 4 * s + 3 = 22 + 4 * s by omega, a1, a2, a3]
      exact ⟨(n_le (a := 0) (by omega) (by omega)).mpr (Nat.zero_le _), (n_le (a := 0) (by omega) (by omega)).mpr (Nat.zero_le _), (n_le (a := 0) (by omega) (by omega)).mpr (Nat.zero_le _)⟩
  have := k_wanted (X := X) (d := d) (al := al) (D := D) (L := L) (I := I) (q := 19 + 4 * s) (by omega) hg ht
  rw [this]
  have : wn (scC I (19 + 4 * s)) t = wn S t := by
    rw [wn, wn, e1]
    refine fo_congr _ _ (fun k a hk => ?_)
    obtain ⟨x1, x2, x3⟩ := ee k hk
    rw [wn1, wn1, x1, x2, x3]
  rw [this]
theorem k_couples {s : Nat} {S : SC} (hs : s < 2) (nt : ntP I s S) : Cl X (d + 1) 84 [vr (19 + 4 * s)] (pm_mm al D I L) = some (some (vi (Int32.ofNat (ovs S S.1))), pm_mm al D I L) := by
  obtain ⟨⟨g1, g2⟩, n1, n2⟩ := nt
  rw [Cl_s]
  refine Eq.trans (show _ = Rn X d co_Sc_couples (0, [some (vr (19 + 4 * s)), none, none, none, none], [], pm_mm al D I L) from rfl) ?_
  rw [sgb_Sc_couples_0 hs]
  obtain ⟨q, e1, e2⟩ := lp (σ := Nat × Option pm_V × Option pm_V) S.1 (fun a q => Rn X d co_Sc_couples (4, [some (vr (19 + 4 * s)), some (vi (Int32.ofNat q.1)), some (vi (Int32.ofNat a)), q.2.1, q.2.2], [], pm_mm al D I L)) (fun a q => q.1 = ovc S a S.1) (fun a q ha hq => by
    obtain ⟨c, o3, o4⟩ := q
    simp only at hq
    obtain ⟨a1, a2, a3⟩ := n2 a ha
    obtain ⟨w1, w2, w3, w4⟩ := g2 a ha
    have hin := lp (σ := Option pm_V) S.1 (fun b o => Rn X d co_Sc_couples (16, [some (vr (19 + 4 * s)), some (vi (Int32.ofNat (c + (cn (ov S a) b - cn (ov S a) (a + 1))))), some (vi (Int32.ofNat a)), some (vi (Int32.ofNat b)), o], [], pm_mm al D I L)) (fun b _ => a + 1 ≤ b) (fun b o hb hle => by
      obtain ⟨b1, b2, b3⟩ := n2 b hb
      obtain ⟨v1, v2, v3, v4⟩ := g2 b hb
      have hm := cn_mono (ov S a) (a + 1) (b - (a + 1))
      rw [show a + 1 + (b - (a + 1)) = b by omega] at hm
      have e : cn (ov S a) (b + 1) = cn (ov S a) b + cond (ov S a b) 1 0 := rfl
      have s73 : ∀ mt : Bool, Rn X d co_Sc_couples (73, [some (vr (19 + 4 * s)), some (vi (Int32.ofNat (c + (cn (ov S a) b - cn (ov S a) (a + 1))))), some (vi (Int32.ofNat a)), some (vi (Int32.ofNat b)), o], [vi (b01 mt)], pm_mm al D I L) = Rn X d co_Sc_couples (16, [some (vr (19 + 4 * s)), some (vi (Int32.ofNat (c + (cn (ov S a) b - cn (ov S a) (a + 1)) + cond (mt && decide (S.2.1 a = S.2.1 b)) 1 0))), some (vi (Int32.ofNat a)), some (vi (Int32.ofNat (b + 1))), some (vi (b01 mt))], [], pm_mm al D I L) := fun mt => by
        rw [sgb_Sc_couples_73 hs, b01_ne]
        simp (disch := omega) only [n_in, dt, cond_true, n_tn, a1, b1, n_deq, sgb_Sc_couples_98 hs, n_s]
        cases mt <;> cases decide (S.2.1 a = S.2.1 b) <;> rfl
      refine ⟨some (vi (b01 (!decide (S.2.2.1 b + S.2.2.2 b ≤ S.2.2.1 a) && !decide (S.2.2.1 a + S.2.2.2 a ≤ S.2.2.1 b)))), ?_, by omega⟩
      show Rn X d co_Sc_couples _ = Rn X d co_Sc_couples _
      have hcnt : c + (cn (ov S a) (b + 1) - cn (ov S a) (a + 1)) = c + (cn (ov S a) b - cn (ov S a) (a + 1)) + cond ((!decide (S.2.2.1 b + S.2.2.2 b ≤ S.2.2.1 a) && !decide (S.2.2.1 a + S.2.2.2 a ≤ S.2.2.1 b)) && decide (S.2.1 a = S.2.1 b)) 1 0 := by
        rw [e, ov, Bool.and_comm (decide (S.2.1 a = S.2.1 b)), Bool.and_comm (!decide (S.2.2.1 a + S.2.2.2 a ≤ S.2.2.1 b))]; omega
      rw [hcnt, ← s73, sgb_Sc_couples_16 hs]
      simp (disch := omega) only [n1, n_dle, df, cond_false, n_in, dt, cond_true, n_tn, a2, a3, b2, b3, n_add, sgb_Sc_couples_72 hs]
      cases decide (S.2.2.1 b + S.2.2.2 b ≤ S.2.2.1 a) <;> cases decide (S.2.2.1 a + S.2.2.2 a ≤ S.2.2.1 b) <;> rfl) (a + 1) o4 (by omega) (Nat.le_refl _)
    obtain ⟨o, hin, _⟩ := hin
    refine ⟨(c + (cn (ov S a) S.1 - cn (ov S a) (a + 1)), some (vi (Int32.ofNat S.1)), o), ?_, by show _ = ovc S a S.1 + _; rw [← hq]⟩
    show Rn X d co_Sc_couples _ = Rn X d co_Sc_couples _
    rw [sgb_Sc_couples_4 hs]
    simp (disch := omega) only [n1, n_dle, df, cond_false, n_s]
    rw [Nat.sub_self, Nat.add_zero] at hin
    refine Eq.trans hin ?_
    rw [sgb_Sc_couples_16 hs]
    simp (disch := omega) only [n1, n_dle, dt, cond_true, n_s]) 0 (0, none, none) (by omega) rfl
  refine Eq.trans e1 ?_
  show Rn X d co_Sc_couples _ = _
  rw [sgb_Sc_couples_4 hs]
  simp (disch := omega) only [n1, n_dle, dt, cond_true, e2, ov_eq]
theorem k_densest {s : Nat} {S : SC} (hs : s < 2) (nt : ntP I s S) : Cl X (d + 2) 83 [vr (19 + 4 * s)] (pm_mm al D I L) = some (some (vi (Int32.ofNat (lou (wn S)))), pm_mm al D I L) := by
  have hg := nt.1
  rw [Cl_s]
  refine Eq.trans (show _ = Rn X (d + 1) co_Sc_densest (0, [some (vr (19 + 4 * s)), none, none, none, none], [], pm_mm al D I L) from rfl) ?_
  rw [sgb_Sc_densest_0 hs]
  have hw := fun t (ht : t < 1000) => k_wantedN (X := X) (d := d) (al := al) (D := D) (L := L) (I := I) hs nt ht
  have bc := fun t => k_bitCount (X := X) (d := d) (al := al) (D := D) (L := L) (I := I) (wn_sma hg t).1 (wn_sma hg t).2
  have s0 : ∃ o4, Rn X (d + 1) co_Sc_densest (6, [some (vr (19 + 4 * s)), some (vi (-1)), some (vi 0), some (vi 0), none], [], pm_mm al D I L) = Rn X (d + 1) co_Sc_densest (6, [some (vr (19 + 4 * s)), some (vi (on (wn S 0))), some (vi (Int32.ofNat 0)), some (vi (Int32.ofNat (0 + 1))), o4], [], pm_mm al D I L) := by
    refine ⟨some (vi (on (wn S 0))), ?_⟩
    have hw0 : Cl X (d + 1) 81 [vr (19 + 4 * s), vi 0] (pm_mm al D I L) = _ := hw 0 (by omega)
    have hn : ¬ on (wn S 0) ≤ -1 := fun c => by
      have := (on_r (wn S 0)).1
      rw [t_le] at c; have e : (-1 : Int32).toInt = -1 := rfl; omega
    rw [sgb_Sc_densest_6 hs, show decide ((12 : Int32) ≤ 0) = false from rfl, cond_false, hw0]
    simp only [Option.bind_some, pm_ai, sgb_Sc_densest_17 hs, bc, sgb_Sc_densest_20 hs, df hn, cond_false, sgb_Sc_densest_33 hs]
    rfl
  obtain ⟨o4, s0⟩ := s0
  rw [s0]
  obtain ⟨q, e1, e2⟩ := lp (σ := Nat × Option pm_V) 11 (fun k q => Rn X (d + 1) co_Sc_densest (6, [some (vr (19 + 4 * s)), some (vi (on (wn S q.1))), some (vi (Int32.ofNat q.1)), some (vi (Int32.ofNat (k + 1))), q.2], [], pm_mm al D I L)) (fun k q => q.1 = fo (lou1 (wn S)) k 0) (fun k q hk hq => by
    obtain ⟨b, o⟩ := q
    simp only at hq
    have hb : b ≤ k := by rw [hq]; exact lou_le _ k
    refine ⟨(lou1 (wn S) k b, some (vi (on (wn S (k + 1))))), ?_, by rw [hq]; rfl⟩
    show Rn X (d + 1) co_Sc_densest _ = Rn X (d + 1) co_Sc_densest _
    rw [sgb_Sc_densest_6 hs]
    simp (disch := omega) only [a0, a1, a2, a3, a4, a5, a6, a7, a8, a9, a10, a11, a12, a13, a20, a24, a60, a64, a84, a99, a100, a600, a720, a4096, a1000000, df, cond_false, hw (k + 1) (by omega), Option.bind_some, pm_ai, sgb_Sc_densest_17 hs, bc, sgb_Sc_densest_20 hs, sgb_Sc_densest_33 hs, n_s, lou1]
    by_cases h : on (wn S (k + 1)) ≤ on (wn S b)
    · rw [dt h, if_pos h]; rfl
    · rw [df h, if_neg h]; rfl) 0 (0, o4) (by omega) rfl
  refine Eq.trans e1 ?_
  show Rn X (d + 1) co_Sc_densest _ = _
  rw [sgb_Sc_densest_6 hs, e2]; rfl
def lb1 (S : SC) (k : Nat) (a : Int32) : Int32 := mxx a (Int32.ofNat (S.2.2.1 k + S.2.2.2 k) - 1)
theorem k_lastBeat {s : Nat} {S : SC} (hs : s < 2) (nt : ntP I s S) : Cl X (d + 2) 80 [vr (19 + 4 * s)] (pm_mm al D I L) = some (some (vi (fo (lb1 S) S.1 (-1))), pm_mm al D I L) := by
  obtain ⟨⟨g1, g2⟩, n1, n2⟩ := nt
  rw [Cl_s]
  refine Eq.trans (show _ = Rn X (d + 1) co_Sc_lastBeat (0, [some (vr (19 + 4 * s)), none, none], [], pm_mm al D I L) from rfl) ?_
  rw [sgb_Sc_lastBeat_0 hs]
  have h := lf S.1 (fun k a => Rn X (d + 1) co_Sc_lastBeat (4, [some (vr (19 + 4 * s)), some (vi a), some (vi (Int32.ofNat k))], [], pm_mm al D I L)) (lb1 S) (fun k a hk => by
    obtain ⟨e1, e2, e3⟩ := n2 k hk
    show Rn X (d + 1) co_Sc_lastBeat _ = Rn X (d + 1) co_Sc_lastBeat _
    rw [sgb_Sc_lastBeat_4 hs]
    simp (disch := omega) only [n1, n_dle, df, cond_false, n_in, dt, cond_true, n_tn, e2, e3, n_add, k_max, Option.bind_some, pm_ai, sgb_Sc_lastBeat_31 hs, n_s, lb1]) (-1)
  refine Eq.trans h ?_
  show Rn X (d + 1) co_Sc_lastBeat _ = _
  rw [sgb_Sc_lastBeat_4 hs]
  simp (disch := omega) only [n1, n_dle, dt, cond_true]
def wa1 (S : SC) (k : Nat) (a : Int32) : Int32 := a ||| (1 <<< (Int32.ofNat (S.2.1 k) &&& 31))
theorem k_wantedInAll {s : Nat} {S : SC} (hs : s < 2) (nt : ntP I s S) : Cl X (d + 1) 82 [vr (19 + 4 * s)] (pm_mm al D I L) = some (some (vi (fo (wa1 S) S.1 0)), pm_mm al D I L) := by
  obtain ⟨⟨g1, g2⟩, n1, n2⟩ := nt
  rw [Cl_s]
  refine Eq.trans (show _ = Rn X d co_Sc_wantedInAll (0, [some (vr (19 + 4 * s)), none, none], [], pm_mm al D I L) from rfl) ?_
  rw [sgb_Sc_wantedInAll_0 hs]
  have h := lf S.1 (fun k a => Rn X d co_Sc_wantedInAll (4, [some (vr (19 + 4 * s)), some (vi a), some (vi (Int32.ofNat k))], [], pm_mm al D I L)) (wa1 S) (fun k a hk => by
    obtain ⟨e1, e2, e3⟩ := n2 k hk
    show Rn X d co_Sc_wantedInAll _ = Rn X d co_Sc_wantedInAll _
    rw [sgb_Sc_wantedInAll_4 hs]
    simp (disch := omega) only [n1, n_dle, df, cond_false, n_in, dt, cond_true, n_tn, e1, n_s, wa1]) 0
  refine Eq.trans h ?_
  show Rn X d co_Sc_wantedInAll _ = _
  rw [sgb_Sc_wantedInAll_4 hs]
  simp (disch := omega) only [n1, n_dle, dt, cond_true]
/-- the last beat, the cast: alike -/
theorem ds_2 (w : Nat → Int32) {i : Nat} : ∀ n, (tb (fo (ds1 w) n (-1, 0)).2 i = true ↔ ∃ t, t < n ∧ tb (w t) i = true)
  | 0 => by rw [fo]; show tb 0 i = true ↔ _; rw [tb_0]; exact ⟨fun h => (by cases h), fun ⟨k, hk, _⟩ => absurd hk (Nat.not_lt_zero k)⟩
  | n + 1 => by
    rw [fo]
    show tb ((fo (ds1 w) n (-1, 0)).2 ||| w n) i = true ↔ _
    rw [tb_or, Bool.or_eq_true, ds_2 w n]
    constructor
    · rintro (⟨t, ht, h⟩ | h)
      · exact ⟨t, by omega, h⟩
      · exact ⟨n, by omega, h⟩
    · rintro ⟨t, ht, h⟩
      by_cases htn : t = n
      · subst htn; exact Or.inr h
      · exact Or.inl ⟨t, by omega, h⟩
theorem wa_tb (S : SC) (g : scG S) {i : Nat} (hi : i < 32) : ∀ n, n ≤ S.1 → (tb (fo (wa1 S) n 0) i = true ↔ ∃ k, k < n ∧ S.2.1 k = i)
  | 0, _ => by rw [fo, tb_0]; exact ⟨fun h => (by cases h), fun ⟨k, hk, _⟩ => absurd hk (Nat.not_lt_zero k)⟩
  | n + 1, hn => by
    have hp := (g.2 n (by omega)).1
    rw [fo, wa1, tb_or, tb_shl (by omega) hi, Bool.or_eq_true, decide_eq_true_iff, wa_tb S g hi n (by omega)]
    constructor
    · rintro (⟨k, hk, h⟩ | h)
      · exact ⟨k, by omega, h⟩
      · exact ⟨n, by omega, h⟩
    · rintro ⟨k, hk, h⟩
      by_cases hkn : k = n
      · subst hkn; exact Or.inr h
      · exact Or.inl ⟨k, by omega, h⟩
theorem cast_eq {S : SC} (g : scG S) : fo (wa1 S) S.1 0 = (dss (wn S)).2 := by
  apply tb_ext
  intro i hi
  rw [Bool.eq_iff_iff, wa_tb S g hi S.1 (Nat.le_refl _)]
  have := ds_2 (wn S) (i := i) 12
  have e : (fo (ds1 (wn S)) 12 (-1, 0)).2 = (dss (wn S)).2 := rfl
  rw [e] at this
  rw [this]
  constructor
  · rintro ⟨k, hk, h⟩
    have q := g.2 k hk
    exact ⟨S.2.2.1 k, by omega, (wn_tb S g _ hi S.1 (Nat.le_refl _)).mpr ⟨k, hk, h, by omega, by omega⟩⟩
  · rintro ⟨t, ht, h⟩
    obtain ⟨k, hk, h1, _⟩ := (wn_tb S g _ hi S.1 (Nat.le_refl _)).mp h
    exact ⟨k, hk, h1⟩
theorem ds_1 {w : Nat → Int32} : ∀ n, n ≤ 12 → ((∀ t, t < n → w t = 0) → (fo (ds1 w) n (-1, 0)).1 = -1) ∧ (∀ M, M < n → w M ≠ 0 → (∀ t, M < t → t < n → w t = 0) → (fo (ds1 w) n (-1, 0)).1 = Int32.ofNat M)
  | 0, _ => ⟨fun _ => rfl, fun M h => absurd h (Nat.not_lt_zero M)⟩
  | n + 1, hn => by
    obtain ⟨h1, h2⟩ := ds_1 (w := w) n (by omega)
    rw [fo]
    refine ⟨fun h => ?_, fun M hM hne h => ?_⟩
    · show cond (decide (w n = 0)) _ _ = _
      rw [dt (h n (by omega)), cond_true]; exact h1 (fun t ht => h t (by omega))
    · show cond (decide (w n = 0)) _ _ = _
      by_cases hMn : M = n
      · subst hMn; rw [df hne]; rfl
      · rw [dt (h n (by omega) (by omega)), cond_true]; exact h2 M (by omega) hne (fun t a b => h t a (by omega))
theorem lb_spec (S : SC) (g : scG S) : ∀ n, n ≤ S.1 → (n = 0 ∧ fo (lb1 S) n (-1) = -1) ∨ (∃ M, fo (lb1 S) n (-1) = Int32.ofNat M ∧ M < 12 ∧ (∃ k, k < n ∧ S.2.2.1 k + S.2.2.2 k = M + 1) ∧ ∀ k, k < n → S.2.2.1 k + S.2.2.2 k ≤ M + 1)
  | 0, _ => Or.inl ⟨rfl, rfl⟩
  | n + 1, hn => by
    have q := g.2 n (by omega)
    have ee : Int32.ofNat (S.2.2.1 n + S.2.2.2 n) - 1 = Int32.ofNat (S.2.2.1 n + S.2.2.2 n - 1) := n_sub (b := 1) (by omega)
    rw [fo, lb1, ee]
    right
    rcases lb_spec S g n (by omega) with ⟨h0, h⟩ | ⟨M, h, hM, ⟨k, hk, hk2⟩, hall⟩
    · refine ⟨S.2.2.1 n + S.2.2.2 n - 1, ?_, by omega, ⟨n, by omega, by omega⟩, fun k hk => ?_⟩
      · rw [h, mxx, if_pos]
        rw [t_lt, n_ti (by omega)]; have e : (-1 : Int32).toInt = -1 := rfl; omega
      · obtain rfl : k = n := by omega
        omega
    · rw [h, mxx]
      by_cases hc : M < S.2.2.1 n + S.2.2.2 n - 1
      · rw [if_pos ((n_lt (by omega) (by omega)).mpr hc)]
        refine ⟨_, rfl, by omega, ⟨n, by omega, by omega⟩, fun j hj => ?_⟩
        by_cases hjn : j = n
        · subst hjn; omega
        · have := hall j (by omega); omega
      · rw [if_neg (fun c => hc ((n_lt (by omega) (by omega)).mp c))]
        refine ⟨M, rfl, hM, ⟨k, by omega, hk2⟩, fun j hj => ?_⟩
        by_cases hjn : j = n
        · subst hjn; omega
        · exact hall j (by omega)
theorem last_eq {S : SC} (g : scG S) : fo (lb1 S) S.1 (-1) = (dss (wn S)).1 := by
  obtain ⟨d1, d2⟩ := ds_1 (w := wn S) 12 (Nat.le_refl _)
  have e : (fo (ds1 (wn S)) 12 (-1, 0)).1 = (dss (wn S)).1 := rfl
  rw [e] at d1 d2
  rcases lb_spec S g S.1 (Nat.le_refl _) with ⟨h0, h⟩ | ⟨M, h, hM, ⟨k, hk, hk2⟩, hall⟩
  · rw [h, d1]
    intro t ht
    rw [wn, h0]; rfl
  · rw [h]
    refine (d2 M hM (fun c => ?_) (fun t h1 h2 => ?_)).symm
    · have q := g.2 k hk
      have := (wn_tb S g M (i := S.2.1 k) (by omega) S.1 (Nat.le_refl _)).mpr ⟨k, hk, rfl, by omega, by omega⟩
      have e2 : fo (wn1 S M) S.1 0 = wn S M := rfl
      rw [e2, c, tb_0] at this; cases this
    · exact tb_zero (fun i hi => by
        cases hb : tb (wn S t) i with
        | false => rfl
        | true =>
          obtain ⟨j, hj, _, h3, h4⟩ := (wn_tb S g t hi S.1 (Nat.le_refl _)).mp hb
          have := hall j hj; omega)
theorem q_dense {m : Nat → Nat} (s what : Int32) (g : rG I m) (r : RL I m) : Cl X (d + 3) 118 [vr 1, vi s, vi what] (pm_mm al D I L) = some (some (vi (vDense I m s what)), pm_mm al D I L) := by
  rw [Cl_s]
  show Rn X (d + 2) co_Ch_dense (0, [some (vr 1), some (vi s), some (vi what), none], [], pm_mm al D I L) = _
  have m1 := (g.1 1 (by omega)).1
  have h1 : Cl X (d + 2) 93 [vr 2, vi 1, vi s] (pm_mm al D I L) = _ := k_has (d := d + 1) (s := 1) (m := m 1) s (by omega) m1 ((r.1 1 (by omega)).trans (g.1 1 (by omega)).2)
  rw [sg_Ch_dense_x_0, h1, vDense]
  simp only [Option.bind_some, pm_ai]
  cases hs : pm_in s (m 1) with
  | false => exact sg_Ch_dense_x0_9 ..
  | true =>
    obtain ⟨s', hs', es⟩ := in_nat hs
    subst es
    have hs2 : s' < 2 := by omega
    have nt := nt_of g r hs'
    rw [n_tn (by omega)]
    refine Eq.trans (sgb_Ch_dense_9 (b := s') hs2 ..) ?_
    generalize scO I s' = S at nt
    have hlo : lou (wn S) ≤ 11 := lou_le (wn S) 11
    have bc := k_bitCount (X := X) (d := d + 1) (al := al) (D := D) (L := L) (I := I) (wn_sma nt.1 (lou (wn S))).1 (wn_sma nt.1 (lou (wn S))).2
    have w1 := k_wantedN (X := X) (d := d + 1) (al := al) (D := D) (L := L) (I := I) hs2 nt (show lou (wn S) < 1000 by omega)
    rw [k_couples hs2 nt, k_densest hs2 nt, k_lastBeat hs2 nt, k_wantedInAll hs2 nt, last_eq nt.1, cast_eq nt.1, show decide (b01 true = 0) = false from rfl, cond_false, vDns]
    simp only [Option.bind_some, pm_ai, sgb_Ch_dense_64, sgb_Ch_dense_69, sgb_Ch_dense_75 hs2, w1, sgb_Ch_dense_78, bc, sgb_Ch_dense_81, sgb_Ch_dense_86, sgb_Ch_dense_91]
    cases decide (what = 0) <;> cases decide (what = 1) <;> cases decide (what = 2) <;> cases decide (what = 3) <;> cases decide (what = 4) <;> rfl
/-- like -/
def lk1 (w v : Nat → Int32) (t : Nat) (a : Int32) : Int32 := a + on (w t &&& v t)
def vLike (I : Nat → Nat → Int32) (m : Nat → Nat) (a b : Int32) : Int32 := cond (pm_in a (m 1) && pm_in b (m 1)) (fo (lk1 (wn (scO I a.toNatClampNeg)) (wn (scO I b.toNatClampNeg))) 12 0) (-1)
theorem q_like {m : Nat → Nat} (a b : Int32) (g : rG I m) (r : RL I m) : Cl X (d + 3) 119 [vr 1, vi a, vi b] (pm_mm al D I L) = some (some (vi (vLike I m a b)), pm_mm al D I L) := by
  rw [Cl_s]
  show Rn X (d + 2) co_Ch_like (0, [some (vr 1), some (vi a), some (vi b), none, none], [], pm_mm al D I L) = _
  have m1 := (g.1 1 (by omega)).1
  have h1 : ∀ s, Cl X (d + 2) 93 [vr 2, vi 1, vi s] (pm_mm al D I L) = some (some (vi (b01 (pm_in s (m 1)))), pm_mm al D I L) := fun s => k_has (d := d + 1) (s := 1) (m := m 1) s (by omega) m1 ((r.1 1 (by omega)).trans (g.1 1 (by omega)).2)
  rw [sg_Ch_like_x_0, h1, vLike]
  simp only [Option.bind_some, pm_ai, sg_Ch_like_x_9, b01_ne, h1, sg_Ch_like_x_21, sgb_Ch_like_24]
  cases ha : pm_in a (m 1) with
  | false => rfl
  | true =>
    cases hb : pm_in b (m 1) with
    | false => rfl
    | true =>
      obtain ⟨a', ha', ea⟩ := in_nat ha
      obtain ⟨b', hb', eb⟩ := in_nat hb
      subst ea eb
      rw [n_tn (by omega), n_tn (by omega)]
      have ha2 : a' < 2 := by omega
      have hb2 : b' < 2 := by omega
      have na := nt_of g r ha'
      have nb := nt_of g r hb'
      generalize scO I a' = S at na
      generalize scO I b' = T at nb
      have h := lf 12 (fun t c => Rn X (d + 2) co_Ch_like (31, [some (vr 1), some (vi (Int32.ofNat a')), some (vi (Int32.ofNat b')), some (vi c), some (vi (Int32.ofNat t))], [], pm_mm al D I L)) (lk1 (wn S) (wn T)) (fun t c ht => by
        show Rn X (d + 2) co_Ch_like _ = Rn X (d + 2) co_Ch_like _
        have sm := sma_and (wn T t) (wn_sma na.1 t)
        have bc := k_bitCount (X := X) (d := d + 1) (al := al) (D := D) (L := L) (I := I) sm.1 sm.2
        rw [sgb_Ch_like_31 ha2 hb2]
        simp (disch := omega) only [a0, a1, a2, a3, a4, a5, a6, a7, a8, a9, a10, a11, a12, a13, a20, a24, a60, a64, a84, a99, a100, a600, a720, a4096, a1000000, df, cond_false, k_wantedN ha2 na (show t < 1000 by omega), k_wantedN hb2 nb (show t < 1000 by omega), Option.bind_some, pm_ai, sgb_Ch_like_53 ha2 hb2, sgb_Ch_like_67 ha2 hb2, bc, sgb_Ch_like_71 ha2 hb2, n_s, lk1]) 0
      refine Eq.trans h ?_
      show Rn X (d + 2) co_Ch_like _ = _
      rw [sgb_Ch_like_31 ha2 hb2]; rfl
theorem r_like {m : Nat → Nat} (a b : Int32) (g : rG I m) : ∃ J, Cl X (d + 4) 271 [vr 81, vi a, vi b] (pm_mm al D I L) = some (some (vi (vLike I m a b)), pm_mm al D J L) ∧ rF I J := by
  rw [Cl_s]
  show ∃ J, Rn X (d + 3) co_Mo_like (0, [some (vr 81), some (vi a), some (vi b), none, none], [], pm_mm al D I L) = _ ∧ _
  obtain ⟨m1, e1⟩ := g.1 1 (by omega)
  have h : Cl X (d + 3) 200 [vr 81, vi a] (pm_mm al D (pm_up I 81 0 0) L) = _ := c_hasScore (m := m 1) a (by omega) e1
  have e86 : (pm_up (pm_up I 81 0 0) 81 24 a) 86 1 = Int32.ofNat (m 1) := by rw [up_ne (by omega), up_ne (by omega)]; exact e1
  have hi : Cl X (d + 3) 172 [vr 81, vi 1, vi b] (pm_mm al D (pm_up (pm_up I 81 0 0) 81 24 a) L) = _ := c_is (d := d + 1) (s := 1) (m := m 1) b (by omega) (by omega) e86
  have hF : rF I (pm_up (pm_up I 81 0 0) 81 24 a) := rF_code.trans (fun a h1 h2 => up_rw h1)
  rw [sg_Mo_like_0, h, vLike]
  simp only [Option.bind_some, pm_ai, sg_Mo_like_10, b01_ne, hi, sg_Mo_like_19, sg_Mo_like_22]
  cases ha : pm_in a (m 1) with
  | false => exact ⟨_, rfl, hF⟩
  | true =>
    cases hb : pm_in b (m 1) with
    | false => exact ⟨_, rfl, hF⟩
    | true =>
      obtain ⟨a', ha', ea⟩ := in_nat ha
      obtain ⟨b', hb', eb⟩ := in_nat hb
      have e88 : (pm_up (pm_up I 81 0 0) 81 24 a) 88 = I 88 := by rw [up_rw (by omega), up_rw (by omega)]
      have hl := c_layNotes (X := X) (d := d) (al := al) (D := D) (L := L) (I := pm_up (pm_up I 81 0 0) 81 24 a) (s := a') (by omega) (by rw [up_eq, ea]) (by rw [gS_up e88]; exact g.2.2.1 a' ha')
      rw [scO_up e88] at hl
      simp only [Bool.not_true, cond_false, cond_true, Bool.and_self]
      rw [hl]
      simp only [Option.bind_some, pm_av, sg_Mo_like_28]
      generalize hK : pm_ups (pm_up (pm_up I 81 0 0) 81 24 a) 93 (fun t => if t < 12 then wn (scO I a') t else (pm_up (pm_up I 81 0 0) 81 24 a) 93 t) = K
      have hF2 : rF I K := hF.trans (fun a h1 h2 => by rw [← hK, ups_rw (by omega)])
      have K93 : ∀ t, t < 12 → K 93 t = wn (scO I a') t := fun t ht => by rw [← hK, ups_eq, if_pos ht]
      have K88 : K 88 = I 88 := by rw [← hK, ups_rw (by omega), e88]
      obtain ⟨M, c1, c2, c3⟩ := lp (σ := Nat → Nat → Int32) 12 (fun t M => Rn X (d + 3) co_Mo_like (30, [some (vr 81), some (vi a), some (vi b), some (vi (Int32.ofNat t)), none], [], pm_mm al D M L)) (fun t M => (∀ a j, a ≠ 112 → M a j = K a j) ∧ ∀ u, u < t → M 112 u = wn (scO I a') u) (fun t M ht hq => by
        refine ⟨pm_up M 112 t (wn (scO I a') t), ?_, fun a j h => by rw [up_ne (by omega)]; exact hq.1 a j h, fun u hu => ?_⟩
        · show Rn X (d + 3) co_Mo_like _ = Rn X (d + 3) co_Mo_like _
          rw [sg_Mo_like_30]
          simp (disch := omega) only [a0, a1, a2, a3, a4, a5, a6, a7, a8, a9, a10, a11, a12, a13, a20, a24, a60, a64, a84, a99, a100, a600, a720, a4096, a1000000, df, cond_false, n_in, dt, cond_true, n_tn, hq.1 93 t (by omega), K93 t ht, n_s]
        · by_cases hut : u = t
          · subst hut; rw [up_eq]
          · rw [up_ne (by omega)]; exact hq.2 u (by omega)) 0 K (by omega) ⟨fun _ _ _ => rfl, fun u hu => absurd hu (Nat.not_lt_zero u)⟩
      have c1 : Rn X (d + 3) co_Mo_like (30, [some (vr 81), some (vi a), some (vi b), some (vi 0), none], [], pm_mm al D K L) = Rn X (d + 3) co_Mo_like (30, [some (vr 81), some (vi a), some (vi b), some (vi (Int32.ofNat 12)), none], [], pm_mm al D M L) := c1
      have M88 : (pm_up M 81 24 b) 88 = I 88 := by rw [up_rw (by omega)]; funext j; rw [c2 88 j (by omega), K88]
      have hl2 := c_layNotes (X := X) (d := d) (al := al) (D := D) (L := L) (I := pm_up M 81 24 b) (s := b') (by omega) (by rw [up_eq, eb]) (by rw [gS_up M88]; exact g.2.2.1 b' hb')
      rw [scO_up M88] at hl2
      rw [c1, sg_Mo_like_30, show decide ((12 : Int32) ≤ Int32.ofNat 12) = true from rfl, cond_true, hl2]
      generalize hN : pm_ups (pm_up M 81 24 b) 93 (fun t => if t < 12 then wn (scO I b') t else (pm_up M 81 24 b) 93 t) = N
      have N93 : ∀ t, t < 12 → N 93 t = wn (scO I b') t := fun t ht => by rw [← hN, ups_eq, if_pos ht]
      have N112 : ∀ t, t < 12 → N 112 t = wn (scO I a') t := fun t ht => by rw [← hN, ups_ne (by omega), up_ne (by omega)]; exact c3 t ht
      simp only [Option.bind_some, pm_av, sg_Mo_like_63]
      refine ⟨N, ?_, hF2.trans (fun a h1 h2 => by rw [← hN, ups_rw (by omega), up_rw h1]; funext j; exact c2 a j (by omega))⟩
      rw [ea, eb, n_tn (by omega), n_tn (by omega)]
      obtain ⟨q, d1, d2⟩ := lp (σ := Int32 × Option pm_V) 12 (fun t q => Rn X (d + 3) co_Mo_like (68, [some (vr 81), some (vi (Int32.ofNat a')), q.2, some (vi q.1), some (vi (Int32.ofNat t))], [], pm_mm al D N L)) (fun t q => q.1 = fo (lk1 (wn (scO I a')) (wn (scO I b'))) t 0) (fun t q ht hq => by
        refine ⟨(q.1 + on (wn (scO I a') t &&& wn (scO I b') t), pm_nl q.2), ?_, by show _ = lk1 _ _ t (fo _ t 0); rw [← hq]; rfl⟩
        show Rn X (d + 3) co_Mo_like _ = Rn X (d + 3) co_Mo_like _
        rw [sg_Mo_like_68]
        simp (disch := omega) only [a0, a1, a2, a3, a4, a5, a6, a7, a8, a9, a10, a11, a12, a13, a20, a24, a60, a64, a84, a99, a100, a600, a720, a4096, a1000000, df, cond_false, n_in, dt, cond_true, n_tn, N93 t ht, N112 t ht, c_ones, Option.bind_some, pm_ai, sg_Mo_like_94, n_s]
        rw [Int32.and_comm]) 0 (0, pm_nl (some (vi (Int32.ofNat b')))) (by omega) rfl
      refine Eq.trans d1 ?_
      show Rn X (d + 3) co_Mo_like _ = _
      rw [sg_Mo_like_68, d2]; rfl
end
