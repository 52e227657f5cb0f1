section
variable {X : Nat × (Nat → Int32)} {d : Nat} {al : List Nat} {D : Nat → Bool} {I : Nat → Nat → Int32} {L : Nat → Nat → Int64}
theorem stN (D : Nat → Bool) : pm_up (pm_dM D) 34 6 3 = pm_dM (pm_tb 7 D) := by
  funext a j
  by_cases c0 : a = 34
  · subst c0
    by_cases j0 : j = 6
    · subst j0; rfl
    rw [up_ne (by omega)]
    show pm_dN (D) 34 j = pm_dN (pm_tb 7 D) 34 j
    unfold pm_dN
    repeat' (first | with_reducible rfl | (exfalso; omega) | refine cnb (fun _ => ?_) (fun _ => ?_) | refine cne (fun _ => ?_) (fun _ => ?_) | rfl)
  rw [up_ne (fun e => c0 e.1)]
  have eB : pm_dB (D) a = pm_dB (pm_tb 7 D) a := by
    unfold pm_dB
    repeat' (first | with_reducible rfl | (exfalso; omega) | refine cnb (fun _ => ?_) (fun _ => ?_) | rfl)
  have eN : pm_dN (D) a j = pm_dN (pm_tb 7 D) a j := by
    unfold pm_dN
    repeat' (first | with_reducible rfl | (exfalso; omega) | refine cnb (fun _ => ?_) (fun _ => ?_) | refine cne (fun _ => ?_) (fun _ => ?_) | rfl)
  rw [pm_dM, pm_dM, eB, eN]
theorem stB (D : Nat → Bool) : pm_dB D = pm_dB (pm_tb 7 D) := by funext a; rfl
theorem st0 (x : Int32) : Rn X d co_Re_start (0, [some (vr 34), some (vr 3), some (vi x)], [], pm_mm al D I L) = ((Cl X d 5 [vi x, vi 600] (al, pm_dB D, pm_up (pm_dM D) 34 6 3, I, L)).bind pm_ai).bind (fun r => Rn X d co_Re_start (12, [some (vr 34), some (vr 3), some (vi x)], [vi r.1, vr 34], r.2)) := (Sg_eq X d co_Re_start (fun p => Nat.beq p 12) 8 _).trans rfl
theorem re0 (x s : Int32) : Rn X d co_Re_read (0, [some (vr 34), some (vr 3), some (vi x), some (vi s), none, none, none], [], pm_mm al D I L) = ((Cl X d 62 [vr 34, vr 3, vi x] (pm_mm al D I L)).bind pm_av).bind (fun r => Rn X d co_Re_read (6, [some (vr 34), some (vr 3), some (vi x), some (vi s), none, none, none], [], r)) := (Sg_eq X d co_Re_read (fun p => Nat.beq p 6) 4 _).trans rfl
/-- what stands told ahead of the first line -/
def P0 (s : Nat) : Nat → Int32 := fun k => cond (decide (s = 0)) (match k with
  | 1 => 20
  | 2 => 1
  | 3 => 5
  | 4 => 6
  | _ => 0) 0
theorem GP_0 {s : Nat} (hs : s < 4) : GP s 0 (P0 s) := by
  have hc : s = 0 ∨ s = 1 ∨ s = 2 ∨ s = 3 := by omega
  rcases hc with c | c | c | c <;> subst c
  · exact ⟨by omega, ⟨by decide, by decide⟩, ⟨by decide, by decide⟩, ⟨by decide, by decide⟩, ⟨by decide, by decide⟩, fun p hp => absurd hp (Nat.not_lt_zero p)⟩
  · exact ⟨by omega, fun p hp => absurd hp (Nat.not_lt_zero p)⟩
  · exact ⟨by decide, by decide⟩
  · exact ⟨by omega, fun p hp => absurd hp (Nat.not_lt_zero p)⟩
theorem k_start {T : Nat → Int32} {n s : Nat} (hn : n ≤ 600) (hs : s < 4) (hT : ∀ k, k < 600 → I 3 k = T k) : ∃ J, Cl X (d + 2) 62 [vr 34, vr 3, vi (Int32.ofNat n)] (pm_mm al D I L) = some (none, pm_mm al (pm_tb 7 D) J L) ∧ RS T n s 0 (0, 0) (P0 s) I J := by
  rw [Cl_s]
  show ∃ J, Rn X (d + 1) co_Re_start (0, [some (vr 34), some (vr 3), some (vi (Int32.ofNat n))], [], pm_mm al D I L) = _ ∧ _
  have e : ((al, pm_dB D, pm_up (pm_dM D) 34 6 3, I, L) : pm_M) = pm_mm al (pm_tb 7 D) I L := by rw [stN, stB]
  have hm : mn (Int32.ofNat n) 600 = Int32.ofNat n := by
    have := mn_n (a := n) (b := 600) (by omega) (by omega)
    rw [Nat.min_eq_left hn] at this
    exact this
  have hcl : ∀ K, Cl X (d + 1) 7 [vr 35] (pm_mm al (pm_tb 7 D) K L) = some (none, pm_mm al (pm_tb 7 D) (pm_up (pm_up (pm_up (pm_up (pm_up K 35 0 20) 35 1 1) 35 2 5) 35 3 6) 35 4 0) L) := fun K => by
    rw [Cl_s]
    show Rn X d co_Ba_clear (0, [some (vr 35)], [], pm_mm al (pm_tb 7 D) K L) = _
    rw [sg_Ba_clear_35_0]
  rw [st0, e, k_min, hm]
  simp only [Option.bind_some, pm_ai]
  rw [sg_Re_start_12, hcl]
  simp only [Option.bind_some, pm_av]
  rw [sg_Re_start_22]
  generalize hK : pm_up (pm_up (pm_up (pm_up (pm_up (pm_up I 34 7 (Int32.ofNat n)) 35 0 20) 35 1 1) 35 2 5) 35 3 6) 35 4 0 = K
  have k0 : ∀ a j, ¬ a = 34 → ¬ a = 35 → K a j = I a j := fun a j h1 h2 => by rw [← hK, up_ne (by omega), up_ne (by omega), up_ne (by omega), up_ne (by omega), up_ne (by omega), up_ne (by omega)]
  have k7 : K 34 7 = Int32.ofNat n := by rw [← hK, up_ne (by omega), up_ne (by omega), up_ne (by omega), up_ne (by omega), up_ne (by omega), up_eq]
  have b0 : K 35 0 = 20 := by rw [← hK, up_ne (by omega), up_ne (by omega), up_ne (by omega), up_ne (by omega), up_eq]
  have b1 : K 35 1 = 1 := by rw [← hK, up_ne (by omega), up_ne (by omega), up_ne (by omega), up_eq]
  have b2 : K 35 2 = 5 := by rw [← hK, up_ne (by omega), up_ne (by omega), up_eq]
  have b3 : K 35 3 = 6 := by rw [← hK, up_ne (by omega), up_eq]
  have b4 : K 35 4 = 0 := by rw [← hK, up_eq]
  refine ⟨_, rfl, ⟨?_, hn, fun k hk => ?_⟩, ?_, ?_, ⟨by omega, by omega, ?_, fun c => absurd rfl c⟩, by decide, ?_, fun a j h => ?_⟩
  · rw [up_ne (by omega), up_ne (by omega), up_ne (by omega), up_ne (by omega), up_ne (by omega), up_ne (by omega), up_ne (by omega), up_ne (by omega)]; exact k7
  · rw [up_ne (by omega), up_ne (by omega), up_ne (by omega), up_ne (by omega), up_ne (by omega), up_ne (by omega), up_ne (by omega), up_ne (by omega), k0 3 k (by omega) (by omega)]; exact hT k hk
  · rw [up_ne (by omega), up_ne (by omega), up_eq]
  · rw [up_eq]; rfl
  · rw [up_ne (by omega), up_ne (by omega), up_ne (by omega), up_ne (by omega), up_eq]; rfl
  · have hc : s = 0 ∨ s = 1 ∨ s = 2 ∨ s = 3 := by omega
    rcases hc with c | c | c | c <;> subst c
    · refine ⟨?_, ⟨?_, ?_, ?_, ?_⟩, fun p hp => absurd hp (by omega), ?_⟩
      · rw [up_ne (by omega), up_ne (by omega), up_ne (by omega), up_ne (by omega), up_ne (by omega), up_ne (by omega), up_ne (by omega), up_ne (by omega)]; exact b4
      · rw [up_ne (by omega), up_ne (by omega), up_ne (by omega), up_ne (by omega), up_ne (by omega), up_ne (by omega), up_ne (by omega), up_ne (by omega)]; exact b0
      · rw [up_ne (by omega), up_ne (by omega), up_ne (by omega), up_ne (by omega), up_ne (by omega), up_ne (by omega), up_ne (by omega), up_ne (by omega)]; exact b1
      · rw [up_ne (by omega), up_ne (by omega), up_ne (by omega), up_ne (by omega), up_ne (by omega), up_ne (by omega), up_ne (by omega), up_ne (by omega)]; exact b2
      · rw [up_ne (by omega), up_ne (by omega), up_ne (by omega), up_ne (by omega), up_ne (by omega), up_ne (by omega), up_ne (by omega), up_ne (by omega)]; exact b3
      · rw [up_ne (by omega), up_ne (by omega), up_ne (by omega), up_ne (by omega), up_ne (by omega), up_ne (by omega), up_ne (by omega), up_eq]
    · refine ⟨?_, fun k hk => absurd hk (by omega)⟩
      rw [up_ne (by omega), up_ne (by omega), up_ne (by omega), up_ne (by omega), up_ne (by omega), up_ne (by omega), up_ne (by omega), up_eq]; rfl
    · refine ⟨?_, ?_⟩
      · rw [up_ne (by omega), up_ne (by omega), up_ne (by omega), up_ne (by omega), up_ne (by omega), up_eq]; rfl
      · rw [up_ne (by omega), up_ne (by omega), up_ne (by omega), up_ne (by omega), up_ne (by omega), up_ne (by omega), up_ne (by omega), up_eq]
    · refine ⟨?_, fun k hk => absurd hk (by omega), ?_⟩
      · rw [up_ne (by omega), up_ne (by omega), up_ne (by omega), up_ne (by omega), up_ne (by omega), up_ne (by omega), up_eq]; rfl
      · rw [up_ne (by omega), up_ne (by omega), up_ne (by omega), up_ne (by omega), up_ne (by omega), up_ne (by omega), up_ne (by omega), up_eq]
  · rw [up_ne (by omega), up_ne (by omega), up_ne (by omega), up_ne (by omega), up_ne (by omega), up_ne (by omega), up_ne (by omega), up_ne (by omega)]; exact k0 a j (by omega) (by omega)
/-- a score's last beat -/
def lst (P : Nat → Int32) : Nat → Int
  | 0 => -1
  | k + 1 => max (lst P k) ((P (2 + 3 * k)).toInt + (P (3 + 3 * k)).toInt - 1)
theorem mxx_ti (x y : Int32) : (mxx x y).toInt = max x.toInt y.toInt := by
  rw [mxx]
  by_cases h : x < y
  · rw [if_pos h]; rw [t_lt] at h; omega
  · rw [if_neg h]; rw [t_lt] at h; omega
theorem lst_rg {P : Nat → Int32} : ∀ k, (∀ i, i < k → rg (P (2 + 3 * i)) 0 11 ∧ rg (P (3 + 3 * i)) 1 6) → -1 ≤ lst P k ∧ lst P k ≤ 16
  | 0, _ => by show -1 ≤ (-1 : Int) ∧ (-1 : Int) ≤ 16; omega
  | k + 1, h => by
    have ih := lst_rg k (fun i hi => h i (by omega))
    obtain ⟨⟨h1, h2⟩, h3, h4⟩ := h k (by omega)
    rw [lst]; omega
theorem k_lastBeatR {c : Nat} {P : Nat → Int32} (hc : c ≤ 8) (e0 : I 40 0 = Int32.ofNat c) (e : ∀ k, k < c → I 42 k = P (2 + 3 * k) ∧ I 43 k = P (3 + 3 * k)) (h : ∀ i, i < c → rg (P (2 + 3 * i)) 0 11 ∧ rg (P (3 + 3 * i)) 1 6) : ∃ z, Cl X (d + 2) 80 [vr 40] (pm_mm al D I L) = some (some (vi z), pm_mm al D I L) ∧ z.toInt = lst P c := by
  rw [Cl_s]
  show ∃ z, Rn X (d + 1) co_Sc_lastBeat (0, [some (vr 40), none, none], [], pm_mm al D I L) = _ ∧ _
  obtain ⟨z, z1, z2⟩ := lp c (fun k z => Rn X (d + 1) co_Sc_lastBeat (4, [some (vr 40), some (vi z), some (vi (Int32.ofNat k))], [], pm_mm al D I L)) (fun k z => z.toInt = lst P k) (fun k z hk hz => by
    obtain ⟨h1, h2⟩ := h k hk
    obtain ⟨f1, f2⟩ := e k hk
    have e1 : (1 : Int32).toInt = 1 := rfl
    have hr := lst_rg (P := P) k (fun i hi => h i (by omega))
    obtain ⟨h1a, h1b⟩ := h1
    obtain ⟨h2a, h2b⟩ := h2
    have hs : (P (2 + 3 * k) + P (3 + 3 * k)).toInt = (P (2 + 3 * k)).toInt + (P (3 + 3 * k)).toInt := t_add (by omega) (by omega)
    refine ⟨mxx z (P (2 + 3 * k) + P (3 + 3 * k) - 1), ?_, ?_⟩
    · show Rn X (d + 1) co_Sc_lastBeat _ = Rn X (d + 1) co_Sc_lastBeat _
      rw [sg_Sc_lastBeat_40_4, e0, n_dle (by omega) (by omega), df (by omega), cond_false, n_in (by omega), dt (by omega), cond_true, cond_true, n_tn (by omega), f1, f2, k_max]
      simp only [Option.bind_some, pm_ai]
      rw [sg_Sc_lastBeat_40_31, n_s]
    · rw [mxx_ti, hz, lst, t_sub (by omega) (by omega), hs, e1]) 0 (-1) (Nat.zero_le _) rfl
  refine ⟨z, ?_, z2⟩
  rw [sg_Sc_lastBeat_40_0]
  refine Eq.trans z1 ?_
  rw [sg_Sc_lastBeat_40_4, e0, n_dle (by omega) (by omega), dt (Nat.le_refl _), cond_true]
def bey (P : Nat → Int32) (c : Nat) : Bool := decide (12 ≤ lst P c)
theorem k_goesBeyond {c : Nat} {P : Nat → Int32} (hc : c ≤ 8) (e0 : I 40 0 = Int32.ofNat c) (e : ∀ k, k < c → I 42 k = P (2 + 3 * k) ∧ I 43 k = P (3 + 3 * k)) (h : ∀ i, i < c → rg (P (2 + 3 * i)) 0 11 ∧ rg (P (3 + 3 * i)) 1 6) : Cl X (d + 3) 79 [vr 40] (pm_mm al D I L) = some (some (vi (b01 (bey P c))), pm_mm al D I L) := by
  obtain ⟨z, z1, z2⟩ := k_lastBeatR (X := X) (d := d) (al := al) (D := D) (I := I) (L := L) hc e0 e h
  rw [Cl_s]
  show Rn X (d + 2) co_Sc_goesBeyond (0, [some (vr 40)], [], pm_mm al D I L) = _
  have e12 : (12 : Int32).toInt = 12 := rfl
  rw [sg_Sc_goesBeyond_40_0, z1]
  simp only [Option.bind_some, pm_ai]
  rw [sg_Sc_goesBeyond_40_4, sg_Sc_goesBeyond_40_14, sg_Sc_goesBeyond_40_14, show pm_01 0 = true from rfl, show pm_01 1 = true from rfl, cond_true, cond_true, bey]
  by_cases hz : z < 12
  · have hn : ¬ (12 ≤ lst P c) := by rw [t_lt] at hz; omega
    rw [dt hz, cond_true, df hn]; rfl
  · have hn : 12 ≤ lst P c := by rw [t_lt] at hz; omega
    rw [df hz, cond_false, dt hn]; rfl
/-- the fault of a text that was read to its end -/
def fbe (s n ℓ : Nat) (f : Nat × Nat) (P : Nat → Int32) : Nat × Nat := cond (decide (s = 1) && (decide (f.1 = 0) && bey P ℓ)) (4, n) f
def rdR (s : Nat) (T : Nat → Int32) (n : Nat) : Nat ⊕ (Nat × (Nat × Nat) × (Nat → Int32)) := txt s T n n (sk T n 0) 0 (0, 0) (P0 s)
theorem k_read {T : Nat → Int32} {n s : Nat} (hn : n ≤ 600) (hs : s < 4) (hT : ∀ k, k < 600 → I 3 k = T k) : ∃ K, Cl X (d + 4) 61 [vr 34, vr 3, vi (Int32.ofNat n), vi (Int32.ofNat s)] (pm_mm al D I L) = some (none, pm_mm al (pm_tb 7 D) K L) ∧ (∀ a j, ¬ (34 ≤ a ∧ a ≤ 48) → K a j = I a j) ∧
    match rdR s T n with
    | .inl q => K 34 4 = 1 ∧ K 34 5 = Int32.ofNat q
    | .inr (ℓ, f, P) => fC (fbe s n ℓ f P) K ∧ CP s ℓ P K := by
  rw [Cl_s]
  show ∃ K, Rn X (d + 3) co_Re_read (0, [some (vr 34), some (vr 3), some (vi (Int32.ofNat n)), some (vi (Int32.ofNat s)), none, none, none], [], pm_mm al D I L) = _ ∧ _
  obtain ⟨J, j1, j2⟩ := k_start (X := X) (d := d + 1) (al := al) (D := D) (I := I) (L := L) (T := T) hn hs hT
  have sk0 := k_skip (X := X) (d := d + 2) (al := al) (D := D) (L := L) (p := 0) j2.1 (Nat.zero_le n)
  have sk0 : Cl X (d + 3) 65 [vr 34, vi 0] (pm_mm al (pm_tb 7 D) J L) = some (some (vi (Int32.ofNat (sk T n 0))), pm_mm al (pm_tb 7 D) J L) := sk0
  have hk := sk_rg (T := T) (n := n) (p := 0) (Nat.zero_le n)
  rw [re0, j1]
  simp only [Option.bind_some, pm_av]
  rw [sg_Re_read_6, sk0]
  simp only [Option.bind_some, pm_ai]
  rw [sg_Re_read_11]
  have kl := k_lines (X := X) (d := d) (al := al) (D := D) (L := L) (T := T) (n := n) (s := s) (I0 := I) (o1 := some (vr 3)) (o2 := some (vi (Int32.ofNat n))) hs n (sk T n 0) 0 0 (0, 0) (P0 s) none J hk.2 (by omega) (Nat.zero_le _) (Nat.zero_le _) j2
  rw [show (some (vi 0) : Option pm_V) = some (vi (Int32.ofNat 0)) from rfl]
  rw [rdR]
  have tg := txt_good (s := s) (n := n) (T := T) hs n (sk T n 0) 0 (0, 0) (P0 s)
  revert kl tg
  cases txt s T n n (sk T n 0) 0 (0, 0) (P0 s) with
  | inl q =>
    intro kl _
    obtain ⟨K, c1, c2⟩ := kl
    exact ⟨K, c1, c2.1, c2.2⟩
  | inr x =>
    obtain ⟨ℓ, f, P⟩ := x
    intro kl tg
    obtain ⟨K, o3, o4, o5, o6, c1, hT2, e8, e10, hf, hf1, hCP, hfr⟩ := kl
    have hne := fC_ne1 hf hf1
    have hf0 := hf.1
    rw [c1, sg_Re_read_72, df hne, cond_false, e8, show decide ((-1 : Int32) = -1) = true from rfl, cond_true, sg_Re_read_96, hf.2.2.1, show decide (Int32.ofNat f.1 = 0) = decide (f.1 = 0) from n_deq (b := 0) (by omega) (by omega)]
    by_cases h0 : f.1 = 0
    · obtain ⟨_, g⟩ := tg ℓ f P rfl h0
      have g := g (GP_0 hs)
      by_cases hs1 : s = 1
      · subst hs1
        obtain ⟨g1, g2⟩ := g
        obtain ⟨q1, q2⟩ := hCP
        rw [Nat.min_eq_left g1] at q1 q2
        have gb := k_goesBeyond (X := X) (d := d) (al := al) (D := pm_tb 7 D) (L := L) g1 q1 (fun k hk => ⟨(q2 k hk).2.1, (q2 k hk).2.2⟩) (fun i hi => ⟨(g2 i hi).2.1, (g2 i hi).2.2⟩)
        rw [dt h0, cond_true, gb]
        simp only [Option.bind_some, pm_ai]
        rw [sg_Re_read_110, b01_ne, sg_Re_read_122, fbe, dt rfl, Bool.true_and, dt h0, Bool.true_and]
        cases bey P ℓ with
        | false =>
          refine ⟨K, by rw [Bool.not_false, cond_true], hfr, by rw [cond_false]; exact hf, by rw [Nat.min_eq_left g1]; exact q1, by rw [Nat.min_eq_left g1]; exact q2⟩
        | true =>
          obtain ⟨K2, m1, m2, m3⟩ := k_mark (X := X) (d := d + 2) (al := al) (D := D) (I := K) (L := L) (c := 4) (b := n) hf (by omega) (by omega) hn
          have m1 : Cl X (d + 3) 64 [vr 34, vi 4, vi (Int32.ofNat n)] (pm_mm al (pm_tb 7 D) K L) = some (none, pm_mm al (pm_tb 7 D) K2 L) := m1
          rw [mkf, dt h0, cond_true] at m3
          refine ⟨K2, ?_, fun a j ha => by rw [m2 a j (by omega)]; exact hfr a j ha, by rw [cond_true]; exact m3, CP_up (s := 1) ⟨by rw [Nat.min_eq_left g1]; exact q1, by rw [Nat.min_eq_left g1]; exact q2⟩ (fun a j ha => m2 a j (by omega))⟩
          rw [Bool.not_true, cond_false, hT2.1, m1]
          simp only [Option.bind_some, pm_av]
          rw [sg_Re_read_122]
      · have h40 : K 40 0 = Int32.ofNat 0 := by
          have hc : s = 0 ∨ s = 2 ∨ s = 3 := by omega
          rcases hc with c | c | c <;> subst c
          · exact hCP.2.2.2
          · exact hCP.2
          · exact hCP.2.2
        have gb := k_goesBeyond (X := X) (d := d) (al := al) (D := pm_tb 7 D) (L := L) (P := P) (Nat.zero_le 8) h40 (fun k hk => absurd hk (Nat.not_lt_zero k)) (fun i hi => absurd hi (Nat.not_lt_zero i))
        rw [dt h0, cond_true, gb]
        simp only [Option.bind_some, pm_ai]
        rw [sg_Re_read_110, show bey P 0 = false from rfl, show decide (b01 false = 0) = true from rfl, cond_true, sg_Re_read_122]
        exact ⟨K, rfl, hfr, by rw [fbe, df hs1, Bool.false_and, cond_false]; exact hf, hCP⟩
    · rw [df h0, cond_false, sg_Re_read_122]
      exact ⟨K, rfl, hfr, by rw [fbe, df h0, Bool.false_and, Bool.and_false, cond_false]; exact hf, hCP⟩
end
