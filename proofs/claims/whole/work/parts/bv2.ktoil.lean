section
variable {X : Nat × (Nat → Int32)} {d : Nat} {al : List Nat} {D : Nat → Bool} {I : Nat → Nat → Int32} {L : Nat → Nat → Int64}
theorem k_toldFit {m : Nat → Nat} {i : Nat} {H : Nat → Bool} (hi : i < 4) (g : rG I m) (r : RL I m) (ha : agP X al D I L i H) : Cl X (d + 2) 155 [vr 1, vr (221 + 3 * i)] (pm_mm al (pm_tb (3 + i) D) I L) = some (some (vi (tfO H (fun t => (I 89 t).toNatClampNeg) (m 2))), pm_mm al (pm_tb (3 + i) D) I L) := by
  rw [Cl_s]
  show Rn X (d + 1) co_Ch_toldThatFit (0, [some (vr 1), some (vr (221 + 3 * i)), none, none], [], pm_mm al (pm_tb (3 + i) D) I L) = _
  obtain ⟨m2, e86⟩ := g.1 2 (by omega)
  have e4 : I 4 2 = Int32.ofNat (m 2) := (r.1 2 (by omega)).trans e86
  rw [sgb_Ch_toldThatFit_0 hi]
  have h := lf (σ := Unit) (m 2) (fun t _ => Rn X (d + 1) co_Ch_toldThatFit (4, [some (vr 1), some (vr (221 + 3 * i)), some (vi (tfO H (fun t => (I 89 t).toNatClampNeg) t)), some (vi (Int32.ofNat t))], [], pm_mm al (pm_tb (3 + i) D) I L)) (fun _ q => q) (fun t _ ht => by
    show Rn X (d + 1) co_Ch_toldThatFit _ = Rn X (d + 1) co_Ch_toldThatFit _
    obtain ⟨q1, q2⟩ := st_good g ht
    have e7 : I 7 t = Int32.ofNat (I 89 t).toNatClampNeg := (r.2.2.2.1 t ht).trans q1
    rw [sgb_Ch_toldThatFit_4 hi, e4, n_dle (by omega) (by omega), df (by omega), cond_false, n_in (by omega), dt (show t < 2 by omega), cond_true, n_tn (by omega), e7, n_in (by omega), dt q2, cond_true, n_tn (by omega), ha d _ q2]
    simp only [Option.bind_some, pm_ai]
    rw [sgb_Ch_toldThatFit_35 hi, b01_ne, sgb_Ch_toldThatFit_44 hi, sgb_Ch_toldThatFit_44 hi, n_s, tfO_s]
    cases H (I 89 t).toNatClampNeg with
    | true => rw [Bool.not_true, cond_false, cond_true]
    | false => rw [Bool.not_false, cond_true, cond_false, Int32.or_zero]) ()
  have h : Rn X (d + 1) co_Ch_toldThatFit (4, [some (vr 1), some (vr (221 + 3 * i)), some (vi (tfO H (fun t => (I 89 t).toNatClampNeg) 0)), some (vi (Int32.ofNat 0))], [], pm_mm al (pm_tb (3 + i) D) I L) = Rn X (d + 1) co_Ch_toldThatFit (4, [some (vr 1), some (vr (221 + 3 * i)), some (vi (tfO H (fun t => (I 89 t).toNatClampNeg) (m 2))), some (vi (Int32.ofNat (m 2)))], [], pm_mm al (pm_tb (3 + i) D) I L) := h
  rw [tfO_0] at h
  refine Eq.trans h ?_
  rw [sgb_Ch_toldThatFit_4 hi, e4, n_dle (by omega) (by omega), dt (Nat.le_refl _), cond_true]
end
