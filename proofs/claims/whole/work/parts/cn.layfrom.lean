section
variable {X : Nat × (Nat → Int32)} {al : List Nat} {D : Nat → Bool} {L : Nat → Nat → Int64}
theorem sfb_real {S : SC} {sh : Nat → Nat} (h : ∀ j, sh j < 3) : ∀ k, sfb S sh k < 1000000 → sfb S sh k ≤ 2 * k
  | 0, _ => Nat.le_refl _
  | k + 1, hk => by
    have ih := sfb_real (S := S) h k
    have h3 := h k
    rw [sfb, fo] at hk ⊢
    rw [sfb] at ih
    split at hk <;> rename_i hc
    · rw [if_pos hc]
      have := ih (by omega)
      omega
    · omega
theorem k_layFrom {J : Nat → Nat → Int32} {B : PB} {S : SC} {set : Int32} {sc dd : Nat} (hs2 : sc < 2) (gB : bG B) (hrw : ∀ i, i < B.2.2.2.2.1 → ∃ p, p < 32 ∧ B.2.2.2.2.2.2 i = Int32.ofNat p) (hdd : dd ≤ 2) (hbd : bdP J B) (nt : ntP J sc S) :
    ∀ r d k p q K, k + r = S.1 → SF J K → SB K S set dd q → SP K S B.2.2.2.2.1 dd k p → sfb S (sfd (dd + 1) k p) k < q.1 → sfv B S set (sfd (dd + 1) k p) k = true →
    ∃ M, Cl X (d + 6 + r) 88 [vr 60, vr 49, vr (19 + 4 * sc), vi (Int32.ofNat k), vi (Int32.ofNat (sfb S (sfd (dd + 1) k p) k))] (pm_mm al D K L) = some (none, pm_mm al D M L) ∧ SF J M ∧ SB M S set dd (sfs B S set (dd + 1) (p * (dd + 1) ^ r) ((dd + 1) ^ r) q) ∧ SP M S B.2.2.2.2.1 dd k p := by
  have h8 : S.1 ≤ 8 := nt.1.1
  intro r
  induction r with
  | zero =>
    intro d k p q K hk hf hb hp hlt hwl
    obtain rfl : k = S.1 := by omega
    have hq := hb.2.2.1
    obtain ⟨M, m1, m2, m3, m4⟩ := k_keepRow (X := X) (d := d + 4) (al := al) (D := D) (L := L) (J := J) (a := sfb S (sfd (dd + 1) S.1 p) S.1) hb hf hp h8 (by omega)
    refine ⟨M, ?_, m2, ?_, m4⟩
    · rw [Cl_s]
      refine Eq.trans (show _ = Rn X (d + 5) co_Sh_layFrom (0, [some (vr 60), some (vr 49), some (vr (19 + 4 * sc)), some (vi (Int32.ofNat S.1)), some (vi (Int32.ofNat (sfb S (sfd (dd + 1) S.1 p) S.1))), none, none], [], pm_mm al D K L) from rfl) ?_
      have K0 : K (19 + 4 * sc) 0 = Int32.ofNat S.1 := (hf.1 _ 0 (by unfold plS; omega) (by omega) (by omega)).trans nt.2.1
      rw [sgb_Sh_layFrom_0 hs2, K0, n_dlt (by omega) (by omega), df (by omega), cond_false, m1]
      simp only [Option.bind_some, pm_av, sgb_Sh_layFrom_14]
    · have : sfs B S set (dd + 1) (p * (dd + 1) ^ 0) ((dd + 1) ^ 0) q = (sfb S (sfd (dd + 1) S.1 p) S.1, p) := by
        rw [Nat.pow_zero, Nat.mul_one]
        show sf1 B S set (dd + 1) p q = _
        rw [sf1, dt hlt, hwl]; rfl
      rw [this]; exact m3
  | succ r ih =>
    intro d k p q K hk hf hb hp hlt hwl
    have ih := ih d
    rw [show d + 6 + r = d + r + 6 by omega] at ih
    rw [show d + 6 + (r + 1) = d + r + 6 + 1 by omega]
    generalize d + r = z at ih ⊢
    have hkS : k < S.1 := by omega
    obtain ⟨q1, q2, q3, q4⟩ := nt.1.2 k hkS
    have hq := hb.2.2.1
    have hsm := sfb_real (S := S) (sh := sfd (dd + 1) k p) (fun j => Nat.lt_of_lt_of_le (sfd_lt (by omega)) (by omega)) k (by omega)
    have hstep := fun s (hs : s < dd + 1) => sfb_step (S := S) (e := dd + 1) (k := k) (p := p) (s := s) (by omega) hs
    generalize hsum : sfb S (sfd (dd + 1) k p) k = sum at hlt hsm hstep ⊢
    generalize hrm : min dd (12 - S.2.2.1 k - S.2.2.2 k) = room
    have fin : ∀ s K, s ≤ dd + 1 → SF J K → SB K S set dd (sfs B S set (dd + 1) (p * (dd + 1) ^ (r + 1)) (s * (dd + 1) ^ r) q) → SP K S B.2.2.2.2.1 dd k p → (∀ s', s ≤ s' → s' < dd + 1 → (sfs B S set (dd + 1) (p * (dd + 1) ^ (r + 1)) (s * (dd + 1) ^ r) q).1 ≤ sum + (if S.2.2.1 k + s' + S.2.2.2 k ≤ 12 then s' else 1000000)) → SF J K ∧ SB K S set dd (sfs B S set (dd + 1) (p * (dd + 1) ^ (r + 1)) ((dd + 1) ^ (r + 1)) q) ∧ SP K S B.2.2.2.2.1 dd k p := fun s K hs f1 f2 f3 hh => by
      have := sfs_rest (set := set) (e := dd + 1) (p := p) (s := s) (q := q) gB hrw (by omega) hk (fun s' a1 a2 => by rw [hstep s' a2]; exact hh s' a1 a2) (dd + 1 - s) (by omega)
      rw [show s + (dd + 1 - s) = dd + 1 by omega, Nat.mul_comm (dd + 1), ← Nat.pow_succ] at this
      rw [this]; exact ⟨f1, f2, f3⟩
    have loop : ∀ m s K, s + m = room + 1 → SF J K → SB K S set dd (sfs B S set (dd + 1) (p * (dd + 1) ^ (r + 1)) (s * (dd + 1) ^ r) q) → SP K S B.2.2.2.2.1 dd k p →
        ∃ M, Rn X (z + 6) co_Sh_layFrom (43, [some (vr 60), some (vr 49), some (vr (19 + 4 * sc)), some (vi (Int32.ofNat k)), some (vi (Int32.ofNat sum)), some (vi (Int32.ofNat room)), some (vi (Int32.ofNat s))], [], pm_mm al D K L) = some (none, pm_mm al D M L) ∧ SF J M ∧ SB M S set dd (sfs B S set (dd + 1) (p * (dd + 1) ^ (r + 1)) ((dd + 1) ^ (r + 1)) q) ∧ SP M S B.2.2.2.2.1 dd k p := by
      intro m
      induction m with
      | zero =>
        intro s K hs f1 f2 f3
        refine ⟨K, ?_, fin s K (by omega) f1 f2 f3 (fun s' a1 a2 => ?_)⟩
        · rw [sgb_Sh_layFrom_43 hs2, n_dlt (by omega) (by omega), dt (by omega), cond_true, sgb_Sh_layFrom_94]
        · have := f2.2.2.1
          rw [if_neg (by omega)]; omega
      | succ m ihm =>
        intro s K hs f1 f2 f3
        have hle := f2.2.2.1
        have hib := k_isBetter (X := X) (d := z + 5) (al := al) (D := D) (L := L) (a := sum + s) f2 (by omega)
        rw [sgb_Sh_layFrom_43 hs2, n_dlt (by omega) (by omega), df (by omega), cond_false, n_add, hib]
        simp only [Option.bind_some, pm_ai]
        rw [sgb_Sh_layFrom_59 hs2, b01_ne]
        by_cases hc : sum + s < (sfs B S set (dd + 1) (p * (dd + 1) ^ (r + 1)) (s * (dd + 1) ^ r) q).1
        · obtain ⟨M1, g1, g2, g3, g4⟩ := k_goesOn (X := X) (d := z + 2) (al := al) (D := D) (L := L) hs2 gB hdd hkS hbd nt f1 f2 f3 (show s ≤ dd by omega)
          rw [dt hc, Bool.not_true, cond_false, g1]
          simp only [Option.bind_some, pm_ai]
          rw [sgb_Sh_layFrom_71 hs2, b01_ne]
          have hsp := sfs_split (B := B) (S := S) (set := set) (e := dd + 1) (k := k) (p := p) (s := s) (r := r) (q := q) hk
          cases hv : sfv B S set (sfd (dd + 1) (k + 1) (p * (dd + 1) + s)) (k + 1) with
          | false =>
            rw [Bool.not_false, cond_true, sgb_Sh_layFrom_88 hs2, n_s]
            refine ihm (s + 1) M1 (by omega) g2 ?_ (SP_down g4 (by omega))
            rw [hsp, sfs_no gB hrw (by omega) (by omega) (.inr hv) _ (Nat.le_refl _)]; exact g3
          | true =>
            have hst := hstep s (by omega)
            rw [if_pos (by omega)] at hst
            obtain ⟨M2, i1, i2, i3, i4⟩ := ih (k + 1) (p * (dd + 1) + s) _ M1 (by omega) g2 g3 g4 (by rw [hst]; exact hc) hv
            rw [hst] at i1
            rw [Bool.not_true, cond_false, n_s, n_add, i1]
            simp only [Option.bind_some, pm_av]
            rw [sgb_Sh_layFrom_88 hs2, n_s]
            refine ihm (s + 1) M2 (by omega) i2 ?_ (SP_down i4 (by omega))
            rw [hsp, show S.1 - (k + 1) = r by omega]; exact i3
        · rw [df hc, Bool.not_false, cond_true, sgb_Sh_layFrom_94]
          refine ⟨K, rfl, fin s K (by omega) f1 f2 f3 (fun s' a1 a2 => ?_)⟩
          split <;> omega
    have K0 : K (19 + 4 * sc) 0 = Int32.ofNat S.1 := (hf.1 _ 0 (by unfold plS; omega) (by omega) (by omega)).trans nt.2.1
    have K1 : K (21 + 4 * sc) k = Int32.ofNat (S.2.2.1 k) := (hf.1 _ k (by unfold plS; omega) (by omega) (by omega)).trans (nt.2.2 k hkS).2.1
    have K2 : K (22 + 4 * sc) k = Int32.ofNat (S.2.2.2 k) := (hf.1 _ k (by unfold plS; omega) (by omega) (by omega)).trans (nt.2.2 k hkS).2.2
    have hmn : mn (Int32.ofNat dd) (12 - Int32.ofNat (S.2.2.1 k) - Int32.ofNat (S.2.2.2 k)) = Int32.ofNat room := by
      refine Eq.trans (show _ = mn (Int32.ofNat dd) (Int32.ofNat 12 - Int32.ofNat (S.2.2.1 k) - Int32.ofNat (S.2.2.2 k)) from rfl) ?_
      rw [n_sub (by omega), n_sub (by omega), n_mn _ _ (by omega) (by omega), hrm]
    rw [Cl_s]
    refine (fun (h : ∃ M, Rn X (z + 6) co_Sh_layFrom (0, [some (vr 60), some (vr 49), some (vr (19 + 4 * sc)), some (vi (Int32.ofNat k)), some (vi (Int32.ofNat sum)), none, none], [], pm_mm al D K L) = _ ∧ _) => h) ?_
    rw [sgb_Sh_layFrom_0 hs2, K0, n_dlt (by omega) (by omega), dt hkS, cond_true, n_in (by omega), dt (show k < 8 by omega), cond_true, cond_true, n_tn (by omega), K1, K2, hb.2.1, k_min, hmn]
    simp only [Option.bind_some, pm_ai]
    rw [sgb_Sh_layFrom_38 hs2]
    exact loop (room + 1) 0 K (by omega) hf (by rw [Nat.zero_mul]; exact hb) hp
end
