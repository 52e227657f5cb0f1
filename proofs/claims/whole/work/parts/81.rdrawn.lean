section
variable {X : Nat × (Nat → Int32)} {d : Nat} {al : List Nat} {D : Nat → Bool} {I : Nat → Nat → Int32} {L : Nat → Nat → Int64}
/-- the drawn set: seeds, and the set so far -/
def sd1 (x : Int32) : Int32 := x * 1103515245 + 12345
def sdb (x : Int32) : Int32 := pm_ush (sd1 x) 16 - pm_ush (sd1 x) 16 / 2 * 2
def dwS (seed : Int32) : Nat → Int32 × Int32
  | 0 => (seed, 0)
  | t + 1 => (sd1 (dwS seed t).1, (dwS seed t).2 ||| cond (decide (sdb (dwS seed t).1 = 1)) (1 <<< (Int32.ofNat t &&& 31)) 0)
theorem c_draw : Cl X (d + 1) 252 [vr 81, vi 2] (pm_mm al D I L) = some (some (vi (sdb (I 81 59))), pm_mm al D (pm_up I 81 59 (sd1 (I 81 59))) L) := by
  rw [Cl_s]
  show Rn X d co_Mo_draw (0, [some (vr 81), some (vi 2)], [], pm_mm al D I L) = _
  rw [sg_Mo_draw_0]; rfl
def vDrawn (I : Nat → Nat → Int32) (m : Nat → Nat) (b s seed what : Int32) : Int32 :=
  cond (pm_in s (m 1) && pm_in b (m 0)) (cond (decide (what = 6)) (dwS seed 12).2 (bhd (pst (bdO I b.toNatClampNeg) (wn (scO I s.toNatClampNeg)) (trd (dwS seed 12).2 (-1)) 12) what)) (-1)
theorem r_drawn {m : Nat → Nat} (b s seed what : Int32) (g : rG I m) : ∃ J, Cl X (d + 5) 253 [vr 81, vi b, vi s, vi seed, vi what] (pm_mm al D I L) = some (some (vi (vDrawn I m b s seed what)), pm_mm al D J L) ∧ rF I J := by
  rw [Cl_s]
  show ∃ J, Rn X (d + 4) co_Mo_drawn (0, [some (vr 81), some (vi b), some (vi s), some (vi seed), some (vi what), none, none], [], pm_mm al D I L) = _ ∧ _
  have g' : rG (pm_up I 81 0 0) m := by rw [rG_up m rF_code]; exact g
  obtain ⟨J, e1, e2, e3⟩ := c_layBoth (X := X) (d := d) (al := al) (D := D) (L := L) (I := pm_up I 81 0 0) b s g'
  rw [sg_Mo_drawn_0, e1]
  simp only [Option.bind_some, pm_ai, sg_Mo_drawn_11, b01_ne, vDrawn]
  cases hok : (pm_in s (m 1) && pm_in b (m 0)) with
  | false =>
    simp only [Bool.not_false, cond_true, cond_false]
    exact ⟨J, rfl, rF_code.trans (rF_la e2)⟩
  | true =>
    simp only [Bool.not_true, cond_false, cond_true]
    simp only [Bool.and_eq_true] at hok
    obtain ⟨s', hs', es⟩ := in_nat hok.1
    obtain ⟨b', hb', eb⟩ := in_nat hok.2
    have m0 := (g.1 0 (by omega)).1
    have m1 := (g.1 1 (by omega)).1
    have hl := e3 b' s' eb es hb' hs'
    have h := lf 12 (fun t (q : Unit) => Rn X (d + 4) co_Mo_drawn (27, [some (vr 81), some (vi b), some (vi s), some (vi seed), some (vi what), some (vi (dwS seed t).2), some (vi (Int32.ofNat t))], [], pm_mm al D (pm_up J 81 59 (dwS seed t).1) L)) (fun _ q => q) (fun t q ht => by
      have h0 : decide ((12 : Int32) ≤ Int32.ofNat t) = false := (n_dle (a := 12) (by decide) (by omega)).trans (decide_eq_false (by omega))
      show Rn X (d + 4) co_Mo_drawn _ = Rn X (d + 4) co_Mo_drawn _
      have e59 : pm_up J 81 59 (dwS seed t).1 81 59 = (dwS seed t).1 := by simp [pm_up]
      have euu : pm_up (pm_up J 81 59 (dwS seed t).1) 81 59 (sd1 (dwS seed t).1) = pm_up J 81 59 (sd1 (dwS seed t).1) := by
        funext a j; simp only [pm_up]; split <;> rfl
      rw [sg_Mo_drawn_27, h0, cond_false, c_draw, e59, euu]
      simp only [Option.bind_some, pm_ai, sg_Mo_drawn_41, sg_Mo_drawn_53, n_s, dwS]
      cases decide (sdb (dwS seed t).1 = 1) <;> rfl) ()
    have hK : ∀ a j, ¬ laS a j → ¬ (a = 81 ∧ j = 59) → (pm_up J 81 59 (dwS seed 12).1) a j = (pm_up I 81 0 0) a j := fun a j h1 h2 => by rw [pm_up, if_neg h2]; exact e2 a j h1
    obtain ⟨⟨p1, p2, p3, p4, p5, p6⟩, p7, p8⟩ := hl
    obtain ⟨gg1, gg2, _⟩ := g'.2.1 b' hb'
    obtain ⟨K, f1, f2, f3⟩ := c_plays (X := X) (d := d + 1) (al := al) (D := D) (L := L) (I := pm_up J 81 59 (dwS seed 12).1) (b := b') (n := ((pm_up I 81 0 0) 87 (29 * b')).toNatClampNeg) (dwS seed 12).2 (-1) (by omega) p1 gg1 (p2.trans (n_of gg2)) (fun i hi => ⟨i, by omega, p6 i (by omega)⟩)
    have hF : rF I K := rF_code.trans ((rF_la e2).trans (show rF J K from fun a h1 h2 => by
      funext j; rw [f2 a j (by omega) (by omega), pm_up, if_neg (by omega)]))
    have hp := pst_laid (I := pm_up I 81 0 0) g' hb' e2 ⟨⟨p1, p2, p3, p4, p5, p6⟩, p7, p8⟩ (trd (dwS seed 12).2 (-1)) 12 (Nat.le_refl 12)
    have hpb : PBr (pm_up J 81 59 (dwS seed 12).1) b' ((pm_up I 81 0 0) 87 (29 * b')).toNatClampNeg = PBr J b' ((pm_up I 81 0 0) 87 (29 * b')).toNatClampNeg := rfl
    have ho := c_ofPlayed (X := X) (d := d + 3) (al := al) (D := D) (L := L) (t := 11) what (by omega) f3
    have ho : Cl X (d + 4) 213 [vr 81, vi 11, vi what] (pm_mm al D K L) = _ := ho
    refine ⟨K, ?_, hF⟩
    refine Eq.trans h ?_
    show Rn X (d + 4) co_Mo_drawn _ = _
    rw [sg_Mo_drawn_27]
    rw [show decide ((12 : Int32) ≤ Int32.ofNat 12) = true from rfl, cond_true, f1]
    simp only [Option.bind_some, pm_av, sg_Mo_drawn_69]
    rw [ho]
    simp only [Option.bind_some, pm_ai, sg_Mo_drawn_89]
    have hq : pst (PBr (pm_up J 81 59 (dwS seed 12).1) b' ((pm_up I 81 0 0) 87 (29 * b')).toNatClampNeg) ((pm_up J 81 59 (dwS seed 12).1) 93) (trd (dwS seed 12).2 (-1)) (11 + 1) = pst (bdO I b') (wn (scO I s')) (trd (dwS seed 12).2 (-1)) 12 := hp
    rw [hq, eb, es, n_tn (by omega), n_tn (by omega)]
    cases decide (what = 6) <;> rfl
end
