section
variable {X : Nat × (Nat → Int32)} {d : Nat} {al : List Nat} {D : Nat → Bool} {I : Nat → Nat → Int32} {L : Nat → Nat → Int64}
/-- the most that are silent, over the first scores -/
def bG2 (f : Nat → Nat → Nat) (x : Nat) : Nat → Nat
  | 0 => 0
  | s + 1 => max (bG2 f x s) (f s x)
def wf (I : Nat → Nat → Int32) (b s : Nat) : Nat → Nat := wA (bdO I b) (wn (scO I s))
theorem bG2_le {f : Nat → Nat → Nat} (h : ∀ s x, f s x ≤ 72) (x : Nat) : ∀ s, bG2 f x s ≤ 72
  | 0 => Nat.zero_le _
  | s + 1 => by have := bG2_le h x s; have := h s x; rw [bG2]; omega
def bl2 (F : Nat → Nat) (n q : Nat) : Nat := if F n < F q ∨ (F n = F q ∧ oN 12 n < oN 12 q) then n else q
def bb2 (F : Nat → Nat) : Nat → Nat
  | 0 => 0
  | n + 1 => bl2 F (n + 1) (bb2 F n)
theorem bb2_le (F : Nat → Nat) : ∀ n, bb2 F n ≤ n
  | 0 => Nat.le_refl _
  | n + 1 => by have := bb2_le F n; rw [bb2, bl2]; split <;> omega
def eL (which : Bool) (F : Nat → Nat) (q : Nat) : Int32 := cond which (Int32.ofNat q) (Int32.ofNat (F q))
def vBlind (I : Nat → Nat → Int32) (m : Nat → Nat) (b : Int32) (which : Bool) : Int32 := cond (pm_in b (m 0) && !decide (m 1 = 0)) (eL which (fun x => bG2 (wf I b.toNatClampNeg) x (m 1)) (bb2 (fun x => bG2 (wf I b.toNatClampNeg) x (m 1)) 4095)) (-1)
theorem mx_n {a b : Nat} (ha : a < 1000) (hb : b < 1000) : (if Int32.ofNat b < Int32.ofNat a then Int32.ofNat a else Int32.ofNat b) = Int32.ofNat (max a b) := by
  by_cases h : b < a
  · rw [if_pos ((n_lt (by omega) (by omega)).mpr h), Nat.max_eq_left (by omega)]
  · rw [if_neg (fun c => h ((n_lt (by omega) (by omega)).mp c)), Nat.max_eq_right (by omega)]
def blF (I K : Nat → Nat → Int32) (b : Nat) : Prop := rF I K ∧ hdP I K b
theorem r_blind {m : Nat → Nat} (b : Int32) (which : Bool) (g : rG I m) : ∃ J, Cl X (d + 5) 224 [vr 81, vi b, vi (b01 which)] (pm_mm al D I L) = some (some (vi (vBlind I m b which)), pm_mm al D J L) ∧ rF I J := by
  rw [Cl_s]
  show ∃ J, Rn X (d + 4) co_Mo_blind (0, [some (vr 81), some (vi b), some (vi (b01 which)), none, none, none], [], pm_mm al D I L) = _ ∧ _
  obtain ⟨m0, e0⟩ := g.1 0 (by omega)
  obtain ⟨m1, e1⟩ := g.1 1 (by omega)
  rw [sg_Mo_blind_0, vBlind]
  cases hb : pm_in b (m 0) with
  | false =>
    rw [c_hand_f (d := d + 1) (I := pm_up I 81 0 0) m0 e0 hb]
    simp only [Option.bind_some, pm_ai, sg_Mo_blind_10, sg_Mo_blind_22]
    exact ⟨_, rfl, rF_code⟩
  | true =>
    obtain ⟨b', hb', eb⟩ := in_nat hb
    obtain ⟨J, f1, f2, f3⟩ := c_hand_t (X := X) (d := d + 1) (al := al) (D := D) (L := L) (I := pm_up I 81 0 0) m0 e0 hb'
    have hF : rF I J := rF_code.trans (fun a h1 h2 => by funext j; exact f2 a j (by unfold hdS; omega))
    have f3 : hdP I J b' := f3
    have r86 : ∀ K, rF I K → K 86 1 = Int32.ofNat (m 1) := fun K hK => by rw [hK 86 (by omega) (by omega)]; exact e1
    rw [eb, f1, n_tn (by omega), Bool.true_and]
    simp only [Option.bind_some, pm_ai]
    rw [sg_Mo_blind_10, show decide ((1 : Int32) = 0) = false from rfl, cond_false, r86 J hF, show decide (Int32.ofNat (m 1) = 0) = decide (m 1 = 0) from n_deq (b := 0) (by omega) (by omega)]
    by_cases hz : m 1 = 0
    · rw [dt hz, cond_true, sg_Mo_blind_22]
      exact ⟨J, rfl, hF⟩
    rw [df hz, cond_false, Bool.not_false, cond_true]
    have hwf : ∀ s x, wf I b' s x ≤ 72 := fun s x => wA_le _ _ x
    have hG := bG2_le hwf
    generalize hff : wf I b' = f at hwf hG
    -- the noughts
    obtain ⟨K1, k1, ⟨k2, k2'⟩, k3⟩ := lp (σ := Nat → Nat → Int32) 4096 (fun n K => Rn X (d + 4) co_Mo_blind (26, [some (vr 81), some (vi (Int32.ofNat b')), some (vi (b01 which)), some (vi (Int32.ofNat n)), none, none], [], pm_mm al D K L)) (fun n K => blF I K b' ∧ ∀ x, x < n → K 103 x = 0) (fun n K hn hK => by
      obtain ⟨⟨q1, q2, q3, q4, q5, q6, q7⟩, q8⟩ := hK
      refine ⟨pm_up K 103 n 0, ?_, ⟨q1.trans (fun a h1 h2 => up_rw (by omega)), by rw [up_ne (by omega)]; exact q2, by rw [up_ne (by omega)]; exact q3, by rw [up_ne (by omega)]; exact q4, by rw [up_ne (by omega)]; exact q5, by rw [up_ne (by omega)]; exact q6, fun p hp => by rw [up_ne (by omega)]; exact q7 p hp⟩, fun x hx => ?_⟩
      · show Rn X (d + 4) co_Mo_blind _ = Rn X (d + 4) co_Mo_blind _
        rw [sg_Mo_blind_26, show decide ((4096 : Int32) ≤ Int32.ofNat n) = false from (n_dle (a := 4096) (by omega) (by omega)).trans (df (by omega)), cond_false, n_in (by omega), dt hn, cond_true, n_tn (by omega), n_s]
      · by_cases hxn : x = n
        · subst hxn; exact up_eq
        · rw [up_ne (by omega)]; exact q8 x (by omega)) 0 J (Nat.zero_le _) ⟨⟨hF, f3⟩, fun x hx => absurd hx (Nat.not_lt_zero x)⟩
    have k1 : Rn X (d + 4) co_Mo_blind (26, [some (vr 81), some (vi (Int32.ofNat b')), some (vi (b01 which)), some (vi 0), none, none], [], pm_mm al D J L) = Rn X (d + 4) co_Mo_blind (26, [some (vr 81), some (vi (Int32.ofNat b')), some (vi (b01 which)), some (vi (Int32.ofNat 4096)), none, none], [], pm_mm al D K1 L) := k1
    -- the scores
    obtain ⟨⟨K2, o4⟩, l1, l2, l3⟩ := lp (σ := (Nat → Nat → Int32) × Option pm_V) (m 1) (fun s q => Rn X (d + 4) co_Mo_blind (48, [some (vr 81), some (vi (Int32.ofNat b')), some (vi (b01 which)), some (vi (Int32.ofNat s)), q.2, none], [], pm_mm al D q.1 L)) (fun s q => blF I q.1 b' ∧ ∀ x, x < 4096 → q.1 103 x = Int32.ofNat (bG2 f x s)) (fun s q hs hq => by
      obtain ⟨K, o4⟩ := q
      obtain ⟨⟨q1, q2⟩, q8⟩ := hq
      simp only at q1 q2 q8
      have gs : gS (pm_up K 81 24 (Int32.ofNat s)) s := by
        rw [gS_up (show pm_up K 81 24 (Int32.ofNat s) 88 = I 88 from (up_rw (by omega)).trans (q1 88 (by omega) (by omega)))]; exact g.2.2.1 s hs
      have hsc : scO (pm_up K 81 24 (Int32.ofNat s)) s = scO I s := scO_up ((up_rw (by omega)).trans (q1 88 (by omega) (by omega)))
      have hn := c_layNotes (X := X) (d := d + 1) (al := al) (D := D) (L := L) (I := pm_up K 81 24 (Int32.ofNat s)) (s := s) (by omega) up_eq gs
      rw [hsc] at hn
      generalize hK3 : pm_ups (pm_up K 81 24 (Int32.ofNat s)) 93 (fun t => if t < 12 then wn (scO I s) t else pm_up K 81 24 (Int32.ofNat s) 93 t) = K3 at hn
      have k3F : ∀ a j, ¬ a = 93 → ¬ (a = 81 ∧ j = 24) → K3 a j = K a j := fun a j h1 h2 => by rw [← hK3, ups_ne h1, up_ne h2]
      have hl : ldP I K3 b' s := by
        obtain ⟨p1, p2, p3, p4, p5, p6⟩ := q2
        refine ⟨q1.trans (fun a h1 h2 => by funext j; exact k3F a j (by omega) (by omega)), ⟨(k3F 81 23 (by omega) (by omega)).trans p1, (k3F 81 25 (by omega) (by omega)).trans p2, (k3F 81 27 (by omega) (by omega)).trans p3, (k3F 81 28 (by omega) (by omega)).trans p4, (k3F 81 29 (by omega) (by omega)).trans p5, fun p hp => (k3F 94 p (by omega) (by omega)).trans (p6 p hp)⟩, ?_, fun t ht => ?_⟩
        · rw [← hK3, ups_ne (by omega), up_eq]
        · rw [← hK3, ups_eq]; exact if_pos ht
      obtain ⟨K4, w1, w2, w3⟩ := lp (σ := Nat → Nat → Int32) 4096 (fun n K => Rn X (d + 4) co_Mo_blind (70, [some (vr 81), some (vi (Int32.ofNat b')), some (vi (b01 which)), some (vi (Int32.ofNat s)), some (vi (Int32.ofNat n)), none], [], pm_mm al D K L)) (fun n K => ldP I K b' s ∧ ∀ x, x < 4096 → K 103 x = Int32.ofNat (bG2 f x (if x < n then s + 1 else s))) (fun n K hn4 hK => by
        obtain ⟨K', p1, p2, p3, p4, p5, p6⟩ := c_playN (X := X) (d := d + 1) (al := al) (D := D) (L := L) (n := n) g hb' hK.1
        have h103 : ∀ x, K' 103 x = K 103 x := fun x => p2 103 x (by omega) (by omega)
        have hfv : wA (bdO I b') (wn (scO I s)) n = f s n := by rw [← hff]; rfl
        have a1 := hG n s
        have a2 := hwf s n
        rw [hfv] at p5
        have hv : K' 103 n = Int32.ofNat (bG2 f n s) := by rw [h103, hK.2 n hn4, if_neg (by omega)]
        obtain ⟨z1, ⟨z2, z3, z4, z5, z6, z7⟩, z8, z9⟩ := p3
        refine ⟨pm_up K' 103 n (Int32.ofNat (bG2 f n (s + 1))), ?_, ⟨z1.trans (fun a h1 h2 => up_rw (by omega)), ⟨by rw [up_ne (by omega)]; exact z2, by rw [up_ne (by omega)]; exact z3, by rw [up_ne (by omega)]; exact z4, by rw [up_ne (by omega)]; exact z5, by rw [up_ne (by omega)]; exact z6, fun p hp => by rw [up_ne (by omega)]; exact z7 p hp⟩, by rw [up_ne (by omega)]; exact z8, fun t ht => by rw [up_ne (by omega)]; exact z9 t ht⟩, fun x hx => ?_⟩
        · show Rn X (d + 4) co_Mo_blind _ = Rn X (d + 4) co_Mo_blind _
          rw [sg_Mo_blind_70, show decide ((4096 : Int32) ≤ Int32.ofNat n) = false from (n_dle (a := 4096) (by omega) (by omega)).trans (df (by omega)), cond_false, p1]
          simp only [Option.bind_some, pm_av]
          rw [sg_Mo_blind_85, n_in (by omega), dt hn4, cond_true, p5 (d + 1) L, n_tn (by omega), hv]
          simp only [Option.bind_some, pm_ai]
          rw [sg_Mo_blind_102, c_greater, mx_n (by omega) (by omega)]
          simp only [Option.bind_some, pm_ai]
          rw [sg_Mo_blind_105, n_in (by omega), dt hn4, cond_true, n_tn (by omega), n_s, bG2]
        · by_cases hxn : x = n
          · subst hxn; rw [up_eq, if_pos (by omega)]
          · rw [up_ne (by omega), h103, hK.2 x hx]
            by_cases hlt : x < n
            · rw [if_pos hlt, if_pos (by omega)]
            · rw [if_neg hlt, if_neg (by omega)]) 0 K3 (Nat.zero_le _) ⟨hl, fun x hx => by rw [if_neg (Nat.not_lt_zero x), k3F 103 x (by omega) (by omega)]; exact q8 x hx⟩
      have w1 : Rn X (d + 4) co_Mo_blind (70, [some (vr 81), some (vi (Int32.ofNat b')), some (vi (b01 which)), some (vi (Int32.ofNat s)), some (vi 0), none], [], pm_mm al D K3 L) = Rn X (d + 4) co_Mo_blind (70, [some (vr 81), some (vi (Int32.ofNat b')), some (vi (b01 which)), some (vi (Int32.ofNat s)), some (vi (Int32.ofNat 4096)), none], [], pm_mm al D K4 L) := w1
      refine ⟨(K4, some (vi (Int32.ofNat 4096))), ?_, ⟨w2.1, w2.2.1⟩, fun x hx => by show K4 103 x = _; rw [w3 x hx, if_pos hx]⟩
      show Rn X (d + 4) co_Mo_blind (48, [_, _, _, _, o4, none], [], pm_mm al D K L) = Rn X (d + 4) co_Mo_blind (48, _)
      rw [sg_Mo_blind_48, r86 K q1, n_dle (by omega) (by omega), df (by omega), cond_false, hn]
      simp only [Option.bind_some, pm_av]
      rw [sg_Mo_blind_67, w1, sg_Mo_blind_70, show decide ((4096 : Int32) ≤ Int32.ofNat 4096) = true from rfl, cond_true, n_s]) 0 (K1, none) (Nat.zero_le _) ⟨⟨k2, k2'⟩, fun x hx => k3 x hx⟩
    have l1 : Rn X (d + 4) co_Mo_blind (48, [some (vr 81), some (vi (Int32.ofNat b')), some (vi (b01 which)), some (vi 0), none, none], [], pm_mm al D K1 L) = Rn X (d + 4) co_Mo_blind (48, [some (vr 81), some (vi (Int32.ofNat b')), some (vi (b01 which)), some (vi (Int32.ofNat (m 1))), o4, none], [], pm_mm al D K2 L) := l1
    simp only at l2 l3
    -- the best
    have hF3 : ∀ x, x < 4096 → K2 103 x = Int32.ofNat ((fun x => bG2 f x (m 1)) x) := l3
    have hFb : ∀ x, (fun x => bG2 f x (m 1)) x ≤ 72 := fun x => hG x (m 1)
    generalize (fun x => bG2 f x (m 1)) = F at hF3 hFb ⊢
    have hbe := bb2_le F
    obtain ⟨o5, t1⟩ := lp (σ := Option pm_V) 4095 (fun n o5 => Rn X (d + 4) co_Mo_blind (123, [some (vr 81), some (vi (Int32.ofNat b')), some (vi (b01 which)), some (vi (Int32.ofNat (bb2 F n))), some (vi (Int32.ofNat (n + 1))), o5], [], pm_mm al D K2 L)) (fun _ _ => True) (fun n o5 hn _ => by
      have hq := hbe n
      have hbn : bb2 F (n + 1) = bl2 F (n + 1) (bb2 F n) := by rw [bb2]
      generalize bb2 F n = q at hq hbn
      have a1 := hFb (n + 1)
      have a2 := hFb q
      have o1 := oN_le 12 (n + 1)
      have o2 := oN_le 12 q
      have hon : on (Int32.ofNat (n + 1)) = Int32.ofNat (oN 12 (n + 1)) := on_oN (k := 12) (by omega) (show n + 1 < 4096 by omega)
      have hoq : on (Int32.ofNat q) = Int32.ofNat (oN 12 q) := on_oN (k := 12) (by omega) (show q < 4096 by omega)
      have h0 : decide ((4096 : Int32) ≤ Int32.ofNat (n + 1)) = false := (n_dle (a := 4096) (by omega) (by omega)).trans (df (by omega))
      have y175 : ∀ o, Rn X (d + 4) co_Mo_blind (175, [some (vr 81), some (vi (Int32.ofNat b')), some (vi (b01 which)), some (vi (Int32.ofNat q)), some (vi (Int32.ofNat (n + 1))), o], [], pm_mm al D K2 L) = Rn X (d + 4) co_Mo_blind (123, [some (vr 81), some (vi (Int32.ofNat b')), some (vi (b01 which)), some (vi (Int32.ofNat (n + 1))), some (vi (Int32.ofNat (n + 1 + 1))), some (vi 1)], [], pm_mm al D K2 L) := fun o => by
        rw [sg_Mo_blind_175, sg_Mo_blind_180, show decide ((1 : Int32) = 0) = false from rfl, cond_false, sg_Mo_blind_193, n_s]
      have y179 : ∀ o, Rn X (d + 4) co_Mo_blind (179, [some (vr 81), some (vi (Int32.ofNat b')), some (vi (b01 which)), some (vi (Int32.ofNat q)), some (vi (Int32.ofNat (n + 1))), o], [], pm_mm al D K2 L) = Rn X (d + 4) co_Mo_blind (123, [some (vr 81), some (vi (Int32.ofNat b')), some (vi (b01 which)), some (vi (Int32.ofNat q)), some (vi (Int32.ofNat (n + 1 + 1))), some (vi 0)], [], pm_mm al D K2 L) := fun o => by
        rw [sg_Mo_blind_179, sg_Mo_blind_180, show decide ((0 : Int32) = 0) = true from rfl, cond_true, sg_Mo_blind_193, n_s]
      have hst : Rn X (d + 4) co_Mo_blind (123, [some (vr 81), some (vi (Int32.ofNat b')), some (vi (b01 which)), some (vi (Int32.ofNat q)), some (vi (Int32.ofNat (n + 1))), o5], [], pm_mm al D K2 L) = cond (decide (F (n + 1) < F q)) (Rn X (d + 4) co_Mo_blind (175, [some (vr 81), some (vi (Int32.ofNat b')), some (vi (b01 which)), some (vi (Int32.ofNat q)), some (vi (Int32.ofNat (n + 1))), o5], [], pm_mm al D K2 L)) (cond (decide (F (n + 1) = F q)) (cond (decide (oN 12 q ≤ oN 12 (n + 1))) (Rn X (d + 4) co_Mo_blind (179, [some (vr 81), some (vi (Int32.ofNat b')), some (vi (b01 which)), some (vi (Int32.ofNat q)), some (vi (Int32.ofNat (n + 1))), o5], [], pm_mm al D K2 L)) (Rn X (d + 4) co_Mo_blind (175, [some (vr 81), some (vi (Int32.ofNat b')), some (vi (b01 which)), some (vi (Int32.ofNat q)), some (vi (Int32.ofNat (n + 1))), o5], [], pm_mm al D K2 L))) (Rn X (d + 4) co_Mo_blind (179, [some (vr 81), some (vi (Int32.ofNat b')), some (vi (b01 which)), some (vi (Int32.ofNat q)), some (vi (Int32.ofNat (n + 1))), o5], [], pm_mm al D K2 L))) := by
        rw [sg_Mo_blind_123, h0, cond_false, n_in (by omega), dt (show n + 1 < 4096 by omega), cond_true, n_in (by omega), dt (show q < 4096 by omega), cond_true, n_tn (by omega), n_tn (by omega), hF3 (n + 1) (by omega), hF3 q (by omega), n_dlt (by omega) (by omega), n_deq (by omega) (by omega)]
        simp only [cond_true, c_ones, hon, hoq, Option.bind_some, pm_ai, sg_Mo_blind_168, sg_Mo_blind_172]
        rw [n_dle (by omega) (by omega)]
      by_cases c1 : F (n + 1) < F q
      · refine ⟨some (vi 1), ?_, trivial⟩
        show Rn X (d + 4) co_Mo_blind _ = Rn X (d + 4) co_Mo_blind _
        rw [hbn, bl2, if_pos (Or.inl c1), hst, dt c1, cond_true, y175]
      · by_cases c2 : F (n + 1) = F q
        · by_cases c3 : oN 12 (n + 1) < oN 12 q
          · refine ⟨some (vi 1), ?_, trivial⟩
            show Rn X (d + 4) co_Mo_blind _ = Rn X (d + 4) co_Mo_blind _
            rw [hbn, bl2, if_pos (Or.inr ⟨c2, c3⟩), hst, df c1, cond_false, dt c2, cond_true, df (by omega), cond_false, y175]
          · refine ⟨some (vi 0), ?_, trivial⟩
            show Rn X (d + 4) co_Mo_blind _ = Rn X (d + 4) co_Mo_blind _
            rw [hbn, bl2, if_neg (fun c => c.elim c1 (fun e => c3 e.2)), hst, df c1, cond_false, dt c2, cond_true, dt (by omega), cond_true, y179]
        · refine ⟨some (vi 0), ?_, trivial⟩
          show Rn X (d + 4) co_Mo_blind _ = Rn X (d + 4) co_Mo_blind _
          rw [hbn, bl2, if_neg (fun c => c.elim c1 (fun e => c2 e.1)), hst, df c1, cond_false, df c2, cond_false, y179]) 0 none (Nat.zero_le _) trivial
    have t1 : Rn X (d + 4) co_Mo_blind (123, [some (vr 81), some (vi (Int32.ofNat b')), some (vi (b01 which)), some (vi (Int32.ofNat (bb2 F 0))), some (vi (Int32.ofNat (0 + 1))), none], [], pm_mm al D K2 L) = Rn X (d + 4) co_Mo_blind (123, [some (vr 81), some (vi (Int32.ofNat b')), some (vi (b01 which)), some (vi (Int32.ofNat (bb2 F 4095))), some (vi (Int32.ofNat (4095 + 1))), o5], [], pm_mm al D K2 L) := t1.1
    have hq := hbe 4095
    rw [show bb2 F 0 = 0 by rw [bb2]] at t1
    generalize bb2 F 4095 = q at t1 hq ⊢
    have t1 : Rn X (d + 4) co_Mo_blind (123, [some (vr 81), some (vi (Int32.ofNat b')), some (vi (b01 which)), some (vi 0), some (vi 1), none], [], pm_mm al D K2 L) = Rn X (d + 4) co_Mo_blind (123, [some (vr 81), some (vi (Int32.ofNat b')), some (vi (b01 which)), some (vi (Int32.ofNat q)), some (vi (Int32.ofNat 4096)), o5], [], pm_mm al D K2 L) := t1
    refine ⟨K2, ?_, l2.1⟩
    rw [k1, sg_Mo_blind_26, show decide ((4096 : Int32) ≤ Int32.ofNat 4096) = true from rfl, cond_true, l1, sg_Mo_blind_48, r86 K2 l2.1, n_dle (by omega) (by omega), dt (Nat.le_refl _), cond_true]
    rw [t1, sg_Mo_blind_123, show decide ((4096 : Int32) ≤ Int32.ofNat 4096) = true from rfl, cond_true, b01_ne, n_in (by omega), dt (show q < 4096 by omega), cond_true, n_tn (by omega), hF3 q (by omega), eL, sg_Mo_blind_214, sg_Mo_blind_214]
    cases which <;> rfl
end
