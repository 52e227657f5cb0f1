section
variable {X : Nat × (Nat → Int32)} {d : Nat} {al : List Nat} {D : Nat → Bool} {I : Nat → Nat → Int32} {L : Nat → Nat → Int64}
theorem q_toil {m : Nat → Nat} (b s l what : Int32) (g : rG I m) (r : RL I m) (w : cW D I L m) : ∃ al' D' J M, Cl X (d + 18) 154 [vr 1, vi b, vi s, vi l, vi what] (pm_mm al D I L) = some (some (vi (vToil I m b s l what)), pm_mm al' D' J M) ∧ cQ2 m al al' D D' I J L M := by
  rw [Cl_s]
  show ∃ al' D' J M, Rn X (d + 17) co_Ch_toil (0, [some (vr 1), some (vi b), some (vi s), some (vi l), some (vi what), none], [], pm_mm al D I L) = _ ∧ _
  rw [sg_Ch_toil_x_0, k_hasHeard (d := d + 14) b s l g r, vToil]
  simp only [Option.bind_some, pm_ai]
  rw [sg_Ch_toil_x_7, b01_ne]
  cases hok : okL m b s l with
  | false => exact ⟨al, D, I, L, by rw [Bool.not_false, cond_true, Bool.false_and, cond_false], cQ2_refl w⟩
  | true =>
    rw [Bool.not_true, cond_false, Bool.true_and]
    obtain ⟨b', s', l', eb, es, el, hb', hs', hl'⟩ := okL_nat hok
    have m0 := (g.1 0 (by omega)).1; have m1 := (g.1 1 (by omega)).1; have m3 := (g.1 3 (by omega)).1
    subst eb es el
    obtain ⟨al', J1, M1, J, M, f1, f2, f3, f4, f5⟩ := k_heard (X := X) (d := d) (al := al) g r w hb' hs' hl'
    have hag := ag_of (X := X) (al := al') (D := D) (lg_good g hl').1 f4 f5
    have tl := cF_tl f3.1
    refine ⟨al', _, J, M, ?_, f3⟩
    rw [n_tn (by omega), n_tn (by omega), n_tn (by omega), f1]
    simp only [Option.bind_some, pm_ar]
    rw [sgb_Ch_toil_19 (by omega) (by omega) (by omega), f2]
    simp only [Option.bind_some, pm_av]
    have w1 := k_fewest (d := d + 15) (by omega) hag
    have w2 := k_most (d := d + 15) (by omega) hag
    have w3 := k_toldFit (d := d + 15) (by omega) (rG_tl tl g) (RL_tl tl g r) hag
    have hM := fM_rg (lgH I b' s' l') 4096
    rw [show 3 + (2 * b' + s') = 3 + 2 * b' + s' by omega, show 221 + 3 * (2 * b' + s') = 221 + 6 * b' + 3 * s' by omega] at w1 w2 w3
    rw [cE] at w1
    rw [tl 89 (by omega)] at w3
    have hst := sgb_Ch_toil_40 (X := X) (d := d + 17) (l := 0) (b := b') (s := s') (by omega) (by omega) (by omega) (some (vi (Int32.ofNat b'))) (some (vi (Int32.ofNat s'))) (some (vi (Int32.ofNat l'))) what al' D J M
    refine Eq.trans hst ?_
    rw [w1, w2, w3, tlH]
    generalize tfO (lgH I b' s' l') (fun t => (I 89 t).toNatClampNeg) (m 2) = T
    generalize fN (lgH I b' s' l') 4096 = N at hM ⊢
    generalize fE (lgH I b' s' l') 4096 = E
    generalize fM (lgH I b' s' l') 4096 = F at hM ⊢
    simp only [Option.bind_some, pm_ai, sgb_Ch_toil_77, sgb_Ch_toil_87, sgb_Ch_toil_94]
    rw [tl2]
    by_cases c0 : what = 0
    · subst c0
      rw [show decide ((0 : Int32) = 0) = true from rfl, cond_true, show pm_in (0 : Int32) 3 = true from rfl, cond_true, show decide ((0 : Int32) = 2) = false from rfl, cond_false, cond_true]
    · by_cases c1 : what = 1
      · subst c1
        rw [show decide ((1 : Int32) = 0) = false from rfl, cond_false, show decide ((1 : Int32) = 1) = true from rfl, cond_true, show pm_in (1 : Int32) 3 = true from rfl, cond_true, show decide ((1 : Int32) = 2) = false from rfl, cond_false, cond_false]
        rcases hM with ⟨z, e⟩ | ⟨z, e⟩
        · rw [dt z, e, cond_true]
        · rw [df z, cond_false]
      · by_cases c2 : what = 2
        · subst c2
          rw [show decide ((2 : Int32) = 0) = false from rfl, cond_false, show decide ((2 : Int32) = 1) = false from rfl, cond_false, show decide ((2 : Int32) = 2) = true from rfl, cond_true, show pm_in (2 : Int32) 3 = true from rfl, cond_true, cond_true]
        · have hp : pm_in what 3 = false := by
            cases hp : pm_in what 3 with
            | false => rfl
            | true =>
              obtain ⟨k, hk, ek⟩ := in_nat hp
              have : k = 0 ∨ k = 1 ∨ k = 2 := by omega
              rcases this with h | h | h <;> subst h
              · exact absurd ek c0
              · exact absurd ek c1
              · exact absurd ek c2
          rw [df c0, df c1, df c2, hp, cond_false, cond_false, cond_false, cond_false]
end
