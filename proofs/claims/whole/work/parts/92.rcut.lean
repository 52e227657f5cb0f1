section
variable {X : Nat × (Nat → Int32)} {d : Nat} {al : List Nat} {D : Nat → Bool} {I : Nat → Nat → Int32} {L : Nat → Nat → Int64}
/-- the beats of notes that are kept, each so much later -/
def wg (S : SC) (kp : Nat → Bool) (sh : Nat → Nat) (t k : Nat) (a : Int32) : Int32 := if kp k = true ∧ S.2.2.1 k + sh k ≤ t ∧ t < S.2.2.1 k + sh k + S.2.2.2 k then a ||| (1 <<< (Int32.ofNat (S.2.1 k) &&& 31)) else a
def wgs (S : SC) (kp : Nat → Bool) (sh : Nat → Nat) (n t : Nat) : Int32 := fo (wg S kp sh t) n 0
def ww (S : SC) (wr : Nat → Int32) (n : Nat) (out : Int32) : Int32 := fo (fun k a => a + cond (!tb out k && decide (S.2.1 k < n)) (wr (S.2.1 k) * Int32.ofNat (S.2.2.2 k)) 0) S.1 0
theorem pw_shl {n : Nat} (h : n < 31) : (1 : Int32) <<< (Int32.ofNat n &&& 31) = Int32.ofNat (2 ^ n) := by
  have : ∀ n : Fin 31, (1 : Int32) <<< (Int32.ofNat n.val &&& 31) = Int32.ofNat (2 ^ n.val) := by decide +kernel
  exact this ⟨n, h⟩
theorem c_worthWithout {b n s : Nat} (out : Int32) (hb : b < 8) (eb : I 81 23 = Int32.ofNat b) (hn : n ≤ 6) (en : I 81 25 = Int32.ofNat n) (hs : s < 8) (es : I 81 24 = Int32.ofNat s) (g : gS I s) :
    Cl X (d + 3) 221 [vr 81, vi out] (pm_mm al D I L) = some (some (vi (ww (scO I s) (fun p => I 87 (29 * b + (11 + p))) n out)), pm_mm al D I L) := by
  obtain ⟨⟨g1, g2⟩, g3, g4⟩ := g
  rw [Cl_s]
  show Rn X (d + 2) co_Mo_worthWithout (0, [some (vr 81), some (vi out), none, none, none], [], pm_mm al D I L) = _
  rw [sg_Mo_worthWithout_0]
  have eN : I 88 (25 * s) = Int32.ofNat (scO I s).1 := n_of g3
  have hno := c_notes (X := X) (d := d + 1) (al := al) (D := D) (L := L) (I := I) hs es
  obtain ⟨q, e1, e2⟩ := lp (σ := Int32 × Option pm_V) (scO I s).1 (fun k q => Rn X (d + 2) co_Mo_worthWithout (4, [some (vr 81), some (vi out), some (vi q.1), some (vi (Int32.ofNat k)), q.2], [], pm_mm al D I L)) (fun k q => q.1 = fo (fun k a => a + cond (!tb out k && decide ((scO I s).2.1 k < n)) (I 87 (29 * b + (11 + (scO I s).2.1 k)) * Int32.ofNat ((scO I s).2.2.2 k)) 0) k 0) (fun k q hk hq => by
    obtain ⟨q1, q2, q3, q4⟩ := g2 k hk
    obtain ⟨r1, r2, r3⟩ := g4 k hk
    have f0 : I 88 (25 * s + 1 + 3 * k + 0) = Int32.ofNat ((scO I s).2.1 k) := n_of r1
    have f2 : I 88 (25 * s + 1 + 3 * k + 2) = Int32.ofNat ((scO I s).2.2.2 k) := n_of r3
    have n0 : Cl X (d + 2) 199 [vr 81, vi (Int32.ofNat k), vi 0] (pm_mm al D I L) = _ := c_noteOf (d := d + 1) (w := 0) (I := I) hs (show k < 8 by omega) (by omega) es
    have n2 : Cl X (d + 2) 199 [vr 81, vi (Int32.ofNat k), vi 2] (pm_mm al D I L) = _ := c_noteOf (d := d + 1) (w := 2) (I := I) hs (show k < 8 by omega) (by omega) es
    have hof := c_of (X := X) (d := d + 1) (al := al) (D := D) (L := L) (I := I) hb (k := 11 + (scO I s).2.1 k) (by omega) eb
    have hip := c_isPipe (X := X) (d := d) (al := al) (D := D) (L := L) (I := I) (Int32.ofNat ((scO I s).2.1 k)) (by omega) en
    refine ⟨(q.1 + cond (!tb out k && decide ((scO I s).2.1 k < n)) (I 87 (29 * b + (11 + (scO I s).2.1 k)) * Int32.ofNat ((scO I s).2.2.2 k)) 0, some (vi (Int32.ofNat ((scO I s).2.1 k)))), ?_, by show _ = _ + _; rw [hq]⟩
    show Rn X (d + 2) co_Mo_worthWithout _ = Rn X (d + 2) co_Mo_worthWithout _
    rw [sg_Mo_worthWithout_4, hno]
    simp (disch := omega) only [Option.bind_some, pm_ai, sg_Mo_worthWithout_9, eN, n_dle, df, cond_false, n0, f0, sg_Mo_worthWithout_18, c_has, sg_Mo_worthWithout_26, b01_ne, hs_tb, hip, n_in, sg_Mo_worthWithout_35, ra0, ra1, ra2, ra3, ra4, ra5, ra6, ra7, ra8, ra9, ra10, ra11, ra12, ra13, ra20, ra24, ra60, ra64, ra84, ra99, ra100, ra600, ra720, ra4096, ra1000000, hof, sg_Mo_worthWithout_47, n2, f2, sg_Mo_worthWithout_53, sg_Mo_worthWithout_57, sg_Mo_worthWithout_58, n_s]
    cases tb out k <;> cases decide ((scO I s).2.1 k < n) <;> rfl) 0 (0, none) (by omega) rfl
  refine Eq.trans e1 ?_
  show Rn X (d + 2) co_Mo_worthWithout _ = _
  rw [sg_Mo_worthWithout_4, hno]
  simp (disch := omega) only [Option.bind_some, pm_ai, sg_Mo_worthWithout_9, eN, n_dle, dt, cond_true, e2]
  rfl
/-- cut: one set of notes after the other -/
def ct1 (wo : Nat → Int32) (wl : Nat → Bool) (out : Nat) (s : Int32 × Int32) : Int32 × Int32 := cond (decide (wo out ≤ s.1)) s (cond (wl out) (wo out, Int32.ofNat out) s)
def ctw (B : PB) (S : SC) (set : Int32) (out : Nat) : Bool := well (fun t => (pst B (wgs S (fun k => !tb (Int32.ofNat out) k) (fun _ => 0) S.1) (trd set (-1)) (t + 1)).2.2.2.2.1) 0 12
def ct (B : PB) (S : SC) (wr : Nat → Int32) (set : Int32) (N : Nat) : Int32 × Int32 := fo (ct1 (fun out => ww S wr B.2.2.2.2.1 (Int32.ofNat out)) (ctw B S set)) N (-1, 0)
def vCut (I : Nat → Nat → Int32) (m : Nat → Nat) (b s u : Int32) (wh : Bool) : Int32 :=
  cond (pm_in s (m 1) && pm_in b (m 0) && pm_in u (m 2)) (let q := ct (bdO I b.toNatClampNeg) (scO I s.toNatClampNeg) (fun p => I 87 (29 * b.toNatClampNeg + (11 + p))) (I 89 u.toNatClampNeg) (2 ^ (scO I s.toNatClampNeg).1); cond wh q.2 q.1) (-1)
def ctF (J K : Nat → Nat → Int32) : Prop := ∀ a j, a ≠ 93 → ¬ (95 ≤ a ∧ a ≤ 100) → ¬ (a = 81 ∧ 37 ≤ j ∧ j ≤ 39) → K a j = J a j
theorem ctF_refl {J : Nat → Nat → Int32} : ctF J J := fun _ _ _ _ _ => rfl
theorem ctF.trans {I J K : Nat → Nat → Int32} (h : ctF I J) (g : ctF J K) : ctF I K := fun a j h1 h2 h3 => (g a j h1 h2 h3).trans (h a j h1 h2 h3)
theorem rF_ct {J K : Nat → Nat → Int32} (h : ctF J K) : rF J K := fun a h1 h2 => by funext j; exact h a j (by omega) (by omega) (by omega)
theorem hdP_ct {J K : Nat → Nat → Int32} {b : Nat} (h : hdP I J b) (e : ctF J K) : hdP I K b := by
  obtain ⟨h1, h2, h3, h4, h5, h6⟩ := h
  exact ⟨(e 81 23 (by omega) (by omega) (by omega)).trans h1, (e 81 25 (by omega) (by omega) (by omega)).trans h2, (e 81 27 (by omega) (by omega) (by omega)).trans h3, (e 81 28 (by omega) (by omega) (by omega)).trans h4, (e 81 29 (by omega) (by omega) (by omega)).trans h5, fun p hp => (e 94 p (by omega) (by omega) (by omega)).trans (h6 p hp)⟩
theorem r_cut {m : Nat → Nat} (b s u : Int32) (wh : Bool) (g : rG I m) : ∃ J, Cl X (d + 5) 222 [vr 81, vi b, vi s, vi u, vi (b01 wh)] (pm_mm al D I L) = some (some (vi (vCut I m b s u wh)), pm_mm al D J L) ∧ rF I J := by
  rw [Cl_s]
  show ∃ J, Rn X (d + 4) co_Mo_cut (0, [some (vr 81), some (vi b), some (vi s), some (vi u), some (vi (b01 wh)), none, none, none, none], [], pm_mm al D I L) = _ ∧ _
  have g' : rG (pm_up I 81 0 0) m := by rw [rG_up m rF_code]; exact g
  obtain ⟨J, e1, e2, e3⟩ := c_layAll (X := X) (d := d) (al := al) (D := D) (L := L) (I := pm_up I 81 0 0) b s u g'
  rw [sg_Mo_cut_0, e1]
  simp only [Option.bind_some, pm_ai, sg_Mo_cut_12, b01_ne, vCut]
  cases hok : (pm_in s (m 1) && pm_in b (m 0) && pm_in u (m 2)) with
  | false => exact ⟨J, rfl, rF_code.trans (rF_la e2)⟩
  | true =>
    simp only [Bool.and_eq_true] at hok
    obtain ⟨⟨o1, o2⟩, o3⟩ := hok
    obtain ⟨s', hs', es⟩ := in_nat o1
    obtain ⟨b', hb', eb⟩ := in_nat o2
    obtain ⟨u', hu', eu⟩ := in_nat o3
    have m0 := (g.1 0 (by omega)).1
    have m1 := (g.1 1 (by omega)).1
    have m2 := (g.1 2 (by omega)).1
    obtain ⟨hl, h40⟩ := e3 b' s' u' eb es eu hb' hs' hu'
    have h40 : J 81 40 = I 89 u' := h40
    have n6 : (I 87 (29 * b')).toNatClampNeg ≤ 6 := (g.2.1 b' hb').1
    have J87 : ∀ j, J 87 j = I 87 j := fun j => (e2 87 j (by unfold laS; omega)).trans (up_ne (by omega))
    have J88 : ∀ j, J 88 j = I 88 j := fun j => (e2 88 j (by unfold laS; omega)).trans (up_ne (by omega))
    have J25 : J 81 25 = Int32.ofNat (I 87 (29 * b')).toNatClampNeg := hl.1.2.1.trans (n_of (g.2.1 b' hb').2.1)
    have gs := g.2.2.1 s' hs'
    obtain ⟨⟨g1, g2⟩, g3, g4⟩ := gs
    have eN : J 88 (25 * s') = Int32.ofNat (scO I s').1 := by rw [J88]; exact n_of g3
    have hp2 : 2 ^ (scO I s').1 ≤ 256 := Nat.pow_le_pow_right (n := 2) (by omega) (show (scO I s').1 ≤ 8 from g1)
    -- facts of any later state
    have F : ∀ K, ctF J K → K 81 24 = Int32.ofNat s' ∧ K 88 (25 * s') = Int32.ofNat (scO I s').1 ∧ (∀ j, K 87 j = I 87 j) ∧ (∀ j, K 88 j = I 88 j) ∧ K 81 40 = I 89 u' := fun K hK =>
      ⟨(hK 81 24 (by omega) (by omega) (by omega)).trans hl.2.1, (hK 88 _ (by omega) (by omega) (by omega)).trans eN, fun j => (hK 87 j (by omega) (by omega) (by omega)).trans (J87 j), fun j => (hK 88 j (by omega) (by omega) (by omega)).trans (J88 j), (hK 81 40 (by omega) (by omega) (by omega)).trans h40⟩
    have FW : ∀ K, ctF J K → ∀ out : Int32, Cl X (d + 4) 221 [vr 81, vi out] (pm_mm al D K L) = some (some (vi (ww (scO I s') (fun p => I 87 (29 * b' + (11 + p))) (I 87 (29 * b')).toNatClampNeg out)), pm_mm al D K L) := fun K hK out => by
      obtain ⟨k1, k2, k3, k4, k5⟩ := F K hK
      have k88 : K 88 = I 88 := funext k4
      have := c_worthWithout (X := X) (d := d + 1) (al := al) (D := D) (L := L) (I := K) (b := b') (n := (I 87 (29 * b')).toNatClampNeg) (s := s') out (by omega) ((hK 81 23 (by omega) (by omega) (by omega)).trans hl.1.1) n6 ((hK 81 25 (by omega) (by omega) (by omega)).trans J25) (by omega) k1 (by rw [gS_up k88]; exact ⟨⟨g1, g2⟩, g3, g4⟩)
      rw [scO_up k88, show (fun p => K 87 (29 * b' + (11 + p))) = (fun p => I 87 (29 * b' + (11 + p))) from funext (fun p => k3 _)] at this
      exact this
    have lay : ∀ (out : Nat) (x5 x6 : Int32) n k K, k + n = (scO I s').1 → ctF J K → (∀ t, t < 12 → K 93 t = wgs (scO I s') (fun k => !tb (Int32.ofNat out) k) (fun _ => 0) k t) →
        ∃ M o, Rn X (d + 4) co_Mo_cut (58, [some (vr 81), some (vi b), some (vi s), some (vi u), some (vi (b01 wh)), some (vi x5), some (vi x6), some (vi (Int32.ofNat out)), some (vi (Int32.ofNat k))], [], pm_mm al D K L) = (((Cl X (d + 4) 210 [vr 81, vi (M 81 40), vi (-1)] (pm_mm al D M L)).bind pm_av).bind (fun r => Rn X (d + 4) co_Mo_cut (99, [some (vr 81), some (vi b), some (vi s), some (vi u), some (vi (b01 wh)), some (vi x5), some (vi x6), some (vi (Int32.ofNat out)), o], [], r)))
          ∧ ctF J M ∧ ∀ t, t < 12 → M 93 t = wgs (scO I s') (fun k => !tb (Int32.ofNat out) k) (fun _ => 0) (scO I s').1 t := by
      intro out x5 x6 n
      induction n with
      | zero =>
        intro k K hk hK h93
        obtain rfl : k = (scO I s').1 := by omega
        obtain ⟨k1, k2, k3, k4, k5⟩ := F K hK
        refine ⟨K, some (vi (Int32.ofNat (scO I s').1)), ?_, hK, h93⟩
        rw [sg_Mo_cut_58, c_notes (s := s') (by omega) k1]
        simp (disch := omega) only [Option.bind_some, pm_ai, sg_Mo_cut_64, k2, n_dle, dt, cond_true]
      | succ n ih =>
        intro k K hk hK h93
        have hkN : k < (scO I s').1 := by omega
        obtain ⟨k1, k2, k3, k4, k5⟩ := F K hK
        obtain ⟨q1, q2, q3, q4⟩ := g2 k hkN
        obtain ⟨r1, r2, r3⟩ := g4 k hkN
        have g1' : (scO I s').1 ≤ 8 := g1
        have hly := c_layNote (X := X) (d := d + 2) (al := al) (D := D) (L := L) (I := K) (s := s') (k := k) (lt := 0) (by omega) (by omega) k1 ((k4 _).trans (n_of r1)) ((k4 _).trans (n_of r2)) ((k4 _).trans (n_of r3)) (show (scO I s').2.2.1 k < 12 by omega) q3 (by omega)
        have hly : Cl X (d + 4) 202 [vr 81, vi (Int32.ofNat k), vi 0] (pm_mm al D K L) = _ := hly
        rw [sg_Mo_cut_58, c_notes (s := s') (by omega) k1]
        simp (disch := omega) only [Option.bind_some, pm_ai, sg_Mo_cut_64, k2, n_dle, df, cond_false, c_has, hs_tb, sg_Mo_cut_74, b01_ne, hly, pm_av, sg_Mo_cut_84, n_s]
        cases hb : tb (Int32.ofNat out) k with
        | true =>
          exact ih (k + 1) K (by omega) hK (fun t ht => by
            rw [h93 t ht, wgs, wgs, fo, wg, if_neg (fun c => by have := c.1; rw [hb] at this; cases this)])
        | false =>
          refine ih (k + 1) (pm_ups K 93 (lyf (K 93) ((scO I s').2.1 k) ((scO I s').2.2.1 k + 0) ((scO I s').2.2.2 k))) (by omega) (fun a j a1 a2 a3 => by rw [ups_ne a1]; exact hK a j a1 a2 a3) (fun t ht => ?_)
          rw [ups_eq, lyf, wgs, fo, wg, h93 t ht, wgs]
          by_cases hc : (scO I s').2.2.1 k + 0 ≤ t ∧ t < (scO I s').2.2.1 k + 0 + (scO I s').2.2.2 k
          · rw [if_pos ⟨hc.1, hc.2, ht⟩, if_pos ⟨by rw [hb]; rfl, hc.1, hc.2⟩]
          · rw [if_neg (fun c => hc ⟨c.1, c.2.1⟩), if_neg (fun c => hc ⟨c.2.1, c.2.2⟩)]
    have loop : ∀ n out K o, out + n = 2 ^ (scO I s').1 → ctF J K → ∃ M, Rn X (d + 4) co_Mo_cut (26, [some (vr 81), some (vi b), some (vi s), some (vi u), some (vi (b01 wh)), some (vi (ct (bdO I b') (scO I s') (fun p => I 87 (29 * b' + (11 + p))) (I 89 u') out).2), some (vi (ct (bdO I b') (scO I s') (fun p => I 87 (29 * b' + (11 + p))) (I 89 u') out).1), some (vi (Int32.ofNat out)), o], [], pm_mm al D K L)
        = some (some (vi (cond wh (ct (bdO I b') (scO I s') (fun p => I 87 (29 * b' + (11 + p))) (I 89 u') (2 ^ (scO I s').1)).2 (ct (bdO I b') (scO I s') (fun p => I 87 (29 * b' + (11 + p))) (I 89 u') (2 ^ (scO I s').1)).1)), pm_mm al D M L) ∧ ctF J M := by
      intro n
      induction n with
      | zero =>
        intro out K o ho hK
        obtain rfl : out = 2 ^ (scO I s').1 := by omega
        obtain ⟨k1, k2, k3, k4, k5⟩ := F K hK
        refine ⟨K, ?_, hK⟩
        have g1' : (scO I s').1 ≤ 8 := g1
        rw [sg_Mo_cut_26, c_notes (s := s') (by omega) k1]
        simp (disch := omega) only [Option.bind_some, pm_ai, sg_Mo_cut_33, k2, pw_shl, n_dle, dt, cond_true, b01_ne, sg_Mo_cut_136]
        cases wh <;> rfl
      | succ n ih =>
        intro out K o ho hK
        obtain ⟨k1, k2, k3, k4, k5⟩ := F K hK
        have g1' : (scO I s').1 ≤ 8 := g1
        have hs1 : ct (bdO I b') (scO I s') (fun p => I 87 (29 * b' + (11 + p))) (I 89 u') (out + 1) = ct1 (fun out => ww (scO I s') (fun p => I 87 (29 * b' + (11 + p))) (I 87 (29 * b')).toNatClampNeg (Int32.ofNat out)) (ctw (bdO I b') (scO I s') (I 89 u')) out (ct (bdO I b') (scO I s') (fun p => I 87 (29 * b' + (11 + p))) (I 89 u') out) := rfl
        rw [sg_Mo_cut_26, c_notes (s := s') (by omega) k1]
        simp (disch := omega) only [Option.bind_some, pm_ai, sg_Mo_cut_33, k2, pw_shl, n_dle, df, cond_false, FW K hK, sg_Mo_cut_43, d_ltle]
        have ih' := fun K => ih (out + 1) K
        rw [hs1] at ih'
        generalize ct (bdO I b') (scO I s') (fun p => I 87 (29 * b' + (11 + p))) (I 89 u') out = q at ih'
        rw [ct1] at ih'
        by_cases hc : ww (scO I s') (fun p => I 87 (29 * b' + (11 + p))) (I 87 (29 * b')).toNatClampNeg (Int32.ofNat out) ≤ q.1
        · rw [dt hc] at ih' ⊢
          simp only [Bool.not_true, cond_false, cond_true, sg_Mo_cut_118, n_s] at ih' ⊢
          exact ih' K o (by omega) hK
        · rw [df hc] at ih' ⊢
          simp only [Bool.not_false, cond_true, cond_false] at ih' ⊢
          have hK2 : ctF J (pm_ups K 93 (fun t => if t < 12 then 0 else K 93 t)) := fun a j a1 a2 a3 => by rw [ups_ne a1]; exact hK a j a1 a2 a3
          obtain ⟨M, o', l1, l2, l3⟩ := lay out q.2 q.1 (scO I s').1 0 _ (by omega) hK2 (fun t ht => by rw [ups_eq, if_pos ht]; rfl)
          obtain ⟨P, p1, p2, p3⟩ := c_playsB (X := X) (d := d + 1) (al := al) (D := D) (L := L) (J := M) (M 81 40) (-1) g hb' (F M l2).2.2.1 (hdP_ct hl.1 l2) l3
          have hP : ctF J P := l2.trans (fun a j a1 a2 a3 => p2 a j a2 a3)
          have M40 : M 81 40 = I 89 u' := (F M l2).2.2.2.2
          have hw : well (P 98) 0 12 = ctw (bdO I b') (scO I s') (I 89 u') out := well_congr 12 0 (fun t _ ht => by rw [(p3.1 t (by omega)).2.2.2.1, M40])
          rw [c_noNotes]
          simp only [Option.bind_some, pm_av, sg_Mo_cut_55]
          have l1 : Rn X (d + 4) co_Mo_cut (58, [some (vr 81), some (vi b), some (vi s), some (vi u), some (vi (b01 wh)), some (vi q.2), some (vi q.1), some (vi (Int32.ofNat out)), some (vi 0)], [], _) = _ := l1
          rw [l1, p1]
          simp only [Option.bind_some, pm_av, sg_Mo_cut_99, c_isWell, pm_ai, sg_Mo_cut_103, b01_ne, hw, FW P hP, sg_Mo_cut_116, sg_Mo_cut_118, n_s]
          cases hwl : ctw (bdO I b') (scO I s') (I 89 u') out with
          | true => rw [hwl] at ih'; exact ih' P o' (by omega) hP
          | false => rw [hwl] at ih'; exact ih' P o' (by omega) hP
    obtain ⟨M, f1, f2⟩ := loop (2 ^ (scO I s').1) 0 J none (by omega) ctF_refl
    refine ⟨M, ?_, rF_code.trans ((rF_la e2).trans (rF_ct f2))⟩
    rw [eb, es, eu, n_tn (by omega), n_tn (by omega), n_tn (by omega)]
    rw [eb, es, eu] at f1
    exact f1
end
