section
variable {X : Nat × (Nat → Int32)} {d : Nat} {al : List Nat} {D : Nat → Bool} {I : Nat → Nat → Int32} {L : Nat → Nat → Int64}
theorem cQ2_77 {m : Nat → Nat} {al' : List Nat} {D' : Nat → Bool} {J K : Nat → Nat → Int32} {M : Nat → Nat → Int64} (g : rG I m) (h : cQ2 m al al' D D' I J L M) (e : ∀ a j, ¬ a = 77 → K a j = J a j) : cQ2 m al al' D D' I K L M := by
  obtain ⟨h1, h2, h3, h4⟩ := h
  have er : ∀ a, ¬ a = 77 → K a = J a := fun a ha => by funext j; exact e a j ha
  refine ⟨h1.trans ⟨fun a a1 a2 => er a (by omega), e _ _ (by omega), e _ _ (by omega), er _ (by omega)⟩, cW_pt (fun a k a1 a2 _ => e a k (by omega)) (rG_tl (cF_tl h1) g) (fun a a1 a2 => ⟨er a (by omega), rfl⟩) (fun _ _ => rfl) h2, h3, h4⟩
theorem q_fits {m : Nat → Nat} (b s l what : Int32) (g : rG I m) (r : RL I m) (w : cW D I L m) : ∃ al' D' J M, Cl X (d + 18) 153 [vr 1, vi b, vi s, vi l, vi what] (pm_mm al D I L) = some (some (vi (vFits I m b s l what)), pm_mm al' D' J M) ∧ cQ2 m al al' D D' I J L M := by
  rw [Cl_s]
  show ∃ al' D' J M, Rn X (d + 17) co_Ch_fits (0, [some (vr 1), some (vi b), some (vi s), some (vi l), some (vi what), none], [], pm_mm al D I L) = _ ∧ _
  rw [sg_Ch_fits_x_0, k_hasHeard (d := d + 14) b s l g r, vFits]
  simp only [Option.bind_some, pm_ai]
  rw [sg_Ch_fits_x_7, b01_ne]
  cases hok : okL m b s l with
  | false => exact ⟨al, D, I, L, by rw [Bool.not_false, cond_true, cond_false], cQ2_refl w⟩
  | true =>
    rw [Bool.not_true, cond_false, cond_true]
    obtain ⟨b', s', l', eb, es, el, hb', hs', hl'⟩ := okL_nat hok
    have m0 := (g.1 0 (by omega)).1; have m1 := (g.1 1 (by omega)).1; have m3 := (g.1 3 (by omega)).1
    subst eb es el
    obtain ⟨al', J1, M1, J, M, f1, f2, f3, f4, f5⟩ := k_heard (X := X) (d := d) (al := al) g r w hb' hs' hl'
    have hag := ag_of (X := X) (al := al') (D := D) (lg_good g hl').1 f4 f5
    have hag' : ∀ K, (∀ a j, ¬ a = 77 → K a j = J a j) → agP X al' D K M (2 * b' + s') (lgH I b' s' l') := fun K hK => ag_of (lg_good g hl').1 ⟨(hK 76 2 (by omega)).trans f4.1, f4.2⟩ f5
    have hsn : ∀ x t, x < 4096 → t < 12 → ∀ K, Cl X (d + 13 + 2) 103 [vl (M (221 + 3 * (2 * b' + s')) x), vi (Int32.ofNat t)] (pm_mm al' (pm_tb (3 + (2 * b' + s')) D) K M) = some (some (vi (Int32.ofNat (lgW I b' s' x t))), pm_mm al' (pm_tb (3 + (2 * b' + s')) D) K M) := fun x t hx ht K => by rw [f5 x hx]; exact k_sounds ht
    have hW : ∀ x t, lgW I b' s' x t < 7 := fun x t => by have := wS_le (bdO I b') (wn (scO I s')) x t; show wS (bdO I b') (wn (scO I s')) x t < 7; omega
    have w0 := k_hways (d := d + 15) (by omega) hag
    have w1 := k_sure (d := d + 15) (by omega) hag
    obtain ⟨K, w2, hK⟩ := k_nextToHear (X := X) (d := d + 13) (al := al') (D := D) (I := J) (L := M) (i := 2 * b' + s') (H := lgH I b' s' l') (S := lgW I b' s') (by omega) hW hag' hsn
    have hN := fN_le (lgH I b' s' l') 4096
    rw [show 3 + (2 * b' + s') = 3 + 2 * b' + s' by omega, show 221 + 3 * (2 * b' + s') = 221 + 6 * b' + 3 * s' by omega] at w0 w1 w2
    have go : ∀ J2 v, Rn X (d + 17) co_Ch_fits (40, [some (vr 1), some (vi (Int32.ofNat b')), some (vi (Int32.ofNat s')), some (vi (Int32.ofNat l')), some (vi what), some (vr (221 + 6 * b' + 3 * s'))], [], pm_mm al' (pm_tb (3 + 2 * b' + s') D) J M) = some (some (vi v), pm_mm al' (pm_tb (3 + 2 * b' + s') D) J2 M) → (((Cl X (d + 17) 137 [vr 1, vi (Int32.ofNat b'), vi (Int32.ofNat s')] (pm_mm al D I L)).bind pm_ar).bind fun r => Rn X (d + 17) co_Ch_fits (19, [some (vr 1), some (vi (Int32.ofNat b')), some (vi (Int32.ofNat s')), some (vi (Int32.ofNat l')), some (vi what), none], [vr r.1], r.2)) = some (some (vi v), pm_mm al' (pm_tb (3 + 2 * b' + s') D) J2 M) := fun J2 v h => by
      rw [f1]
      simp only [Option.bind_some, pm_ar]
      rw [sgb_Ch_fits_19 (by omega) (by omega) (by omega), f2]
      simp only [Option.bind_some, pm_av]
      exact h
    rw [n_tn (by omega), n_tn (by omega), n_tn (by omega), ftH, ft2]
    have hst := sgb_Ch_fits_40 (b := b') (s := s') (l := 0) (by omega) (by omega) (by omega) X (d + 17) (some (vi (Int32.ofNat b'))) (some (vi (Int32.ofNat s'))) (some (vi (Int32.ofNat l'))) what al' D J M
    rw [w0, w1, w2] at hst
    generalize (nxF (fun t => mxs (fun c => fS (lgH I b' s' l') (lgW I b' s') t c 4096) 7) 12).1 = V at hst ⊢
    generalize fU (lgH I b' s' l') 4096 = U at hst ⊢
    simp only [Option.bind_some, pm_ai, sgb_Ch_fits_77, sgb_Ch_fits_87, sgb_Ch_fits_97, sgb_Ch_fits_124] at hst
    have fin : ∀ v w J2, Rn X (d + 17) co_Ch_fits (40, [some (vr 1), some (vi (Int32.ofNat b')), some (vi (Int32.ofNat s')), some (vi (Int32.ofNat l')), some (vi what), some (vr (221 + 6 * b' + 3 * s'))], [], pm_mm al' (pm_tb (3 + 2 * b' + s') D) J M) = some (some (vi v), pm_mm al' (pm_tb (3 + 2 * b' + s') D) J2 M) → w = v → cQ2 m al al' D (pm_tb (3 + 2 * b' + s') D) I J2 L M → ∃ al' D' J M, (((Cl X (d + 17) 137 [vr 1, vi (Int32.ofNat b'), vi (Int32.ofNat s')] (pm_mm al D I L)).bind pm_ar).bind fun r => Rn X (d + 17) co_Ch_fits (19, [some (vr 1), some (vi (Int32.ofNat b')), some (vi (Int32.ofNat s')), some (vi (Int32.ofNat l')), some (vi what), none], [vr r.1], r.2)) = some (some (vi w), pm_mm al' D' J M) ∧ cQ2 m al al' D D' I J L M := fun v w J2 h hv hq => ⟨al', _, J2, M, by rw [hv]; exact go J2 v h, hq⟩
    generalize fN (lgH I b' s' l') 4096 = N at hst hN ⊢
    by_cases h10 : what < 10
    · have h10' : decide ((10 : Int32) ≤ what) = false := df (Int32.not_le.mpr h10)
      rw [h10', cond_false] at hst
      by_cases c0 : what = 0
      · rw [dt c0, cond_true] at hst
        exact fin _ _ _ hst (by rw [dt h10, cond_true, dt c0, cond_true]) f3
      · rw [df c0, cond_false] at hst
        by_cases c1 : what = 1
        · rw [dt c1, cond_true] at hst
          exact fin _ _ _ hst (by rw [dt h10, cond_true, df c0, cond_false, dt c1, cond_true]) f3
        · rw [df c1, cond_false] at hst
          by_cases c2 : what = 2
          · rw [dt c2, cond_true] at hst
            exact fin _ _ _ hst (by rw [dt h10, cond_true, df c0, cond_false, df c1, cond_false, dt c2, cond_true]) (cQ2_77 g f3 hK)
          · rw [df c2, cond_false] at hst
            exact fin _ _ _ hst (by rw [dt h10, cond_true, df c0, cond_false, df c1, cond_false, df c2, cond_false]) f3
    · obtain ⟨k1, k2⟩ := ge10 h10
      have w3 := k_wayAt (d := d + 15) (k := (what - 10).toNatClampNeg) (by omega) k2 hag
      rw [← k1, show 3 + (2 * b' + s') = 3 + 2 * b' + s' by omega, show 221 + 3 * (2 * b' + s') = 221 + 6 * b' + 3 * s' by omega] at w3
      have nz : ∀ k : Int32, k < 10 → decide (what = k) = false := fun k hk => df (fun e => h10 (e ▸ hk))
      rw [nz 0 (by decide), nz 1 (by decide), nz 2 (by decide), cond_false, cond_false, cond_false, dt (Int32.not_lt.mp h10), cond_true, w3] at hst
      generalize kt (lgH I b' s' l') (what - 10).toNatClampNeg 4096 0 = Z at hst ⊢
      simp only [Option.bind_some, pm_ai, sgb_Ch_fits_124] at hst
      exact fin _ _ _ hst (by rw [df h10, cond_false]) f3
end
