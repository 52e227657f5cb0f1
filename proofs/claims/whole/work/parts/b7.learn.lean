section
variable {X : Nat × (Nat → Int32)} {d : Nat} {al : List Nat} {D : Nat → Bool} {I : Nat → Nat → Int32} {L : Nat → Nat → Int64}
/-- the ways stand learnt -/
def wyP (B : PB) (w : Nat → Int32) (b : Nat) (J : Nat → Nat → Int32) (M : Nat → Nat → Int64) : Prop :=
  (∀ j, j < 13 → J (222 + 3 * b) j = Int32.ofNat (su (fun q => ic B w q j) 4096))
  ∧ M (220 + 3 * b) 2 = Int64.ofNat (su (wA B w) 4096)
  ∧ ∀ x, x < 4096 → M (221 + 3 * b) x = Int64.ofNat (wV B w x 12)
theorem wps_ext {B C : PB} {w v : Nat → Int32} (h : ∀ n t, t ≤ 12 → wps B w n t = wps C v n t) : (∀ n t, t < 12 → wS B w n t = wS C v n t) ∧ (∀ n t, t < 12 → wL B w n t = wL C v n t) ∧ wA B w = wA C v ∧ (∀ n, wV B w n 12 = wV C v n 12) ∧ ic B w = ic C v := by
  have h1 : ∀ n t, t < 12 → wS B w n t = wS C v n t := fun n t ht => by rw [wS, wS, h n (t + 1) (by omega)]
  have h2 : ∀ n t, t < 12 → wL B w n t = wL C v n t := fun n t ht => by rw [wL, wL, h n (t + 1) (by omega)]
  have h3 : wA B w = wA C v := by funext n; exact su_congr _ (fun t ht => h2 n t ht)
  refine ⟨h1, h2, h3, fun n => ?_, ?_⟩
  · have a1 : su (fun t => wS B w n t * 8 ^ t) 12 = su (fun t => wS C v n t * 8 ^ t) 12 := su_congr _ (fun t ht => by rw [h1 n t ht])
    have a2 : su (wL B w n) 12 = su (wL C v n) 12 := su_congr _ (fun t ht => h2 n t ht)
    rw [wV, wV, a1, a2]
  · funext x j; rw [ic, ic, h3]
theorem wyP_ext {B C : PB} {w v : Nat → Int32} {b : Nat} {J : Nat → Nat → Int32} {M : Nat → Nat → Int64} (h : ∀ n t, t ≤ 12 → wps B w n t = wps C v n t) (e : wyP B w b J M) : wyP C v b J M := by
  obtain ⟨_, _, h3, h4, h5⟩ := wps_ext h
  obtain ⟨e1, e2, e3⟩ := e
  rw [wyP, ← h3, ← h5]
  exact ⟨e1, e2, fun x hx => by rw [← h4]; exact e3 x hx⟩
def lnF (b : Nat) (I J : Nat → Nat → Int32) : Prop := (∀ a j, ¬ plS a j → ¬ (220 + 3 * b ≤ a ∧ a ≤ 222 + 3 * b) → J a j = I a j) ∧ J 57 0 = I 57 0 ∧ J 59 0 = I 59 0
def lnL (b : Nat) (L M : Nat → Nat → Int64) : Prop := ∀ a j, ¬ (220 + 3 * b ≤ a ∧ a ≤ 222 + 3 * b) → M a j = L a j
theorem wV_0 (B : PB) (w : Nat → Int32) (n : Nat) : wV B w n 0 = 0 := by rw [wV, su, su, Nat.zero_mul]
theorem k_learn {b n : Nat} (hb : b < 4) (hn : n ≤ 6) (h : spI I n (PBc I n) (I 52)) : ∃ J M, Cl X (d + 16) 98 [vr (220 + 3 * b), vr 49] (pm_mm al (pm_tb (3 + b) D) I L) = some (none, pm_mm al (pm_tb (3 + b) D) J M) ∧ lnF b I J ∧ lnL b L M ∧ J (220 + 3 * b) 3 = 1 ∧ wyP (PBc I n) (I 52) b J M := by
  rw [Cl_s]
  show ∃ J M, Rn X (d + 15) co_Wa_learn (0, [some (vr (220 + 3 * b)), some (vr 49), none], [], pm_mm al (pm_tb (3 + b) D) I L) = _ ∧ _
  rw [sgb_Wa_learn_0 hb]
  obtain ⟨K, k1, k2, k3⟩ := lp (σ := Nat → Nat → Int32) 13 (fun t K => Rn X (d + 15) co_Wa_learn (2, [some (vr (220 + 3 * b)), some (vr 49), some (vi (Int32.ofNat t))], [], pm_mm al (pm_tb (3 + b) D) K L)) (fun k K => (∀ a j, ¬ a = 222 + 3 * b → K a j = I a j) ∧ ∀ j, j < k → K (222 + 3 * b) j = 0) (fun t K ht hK => by
    refine ⟨pm_up K (222 + 3 * b) t 0, ?_, fun a j h1 => by rw [up_ne (by omega)]; exact hK.1 a j h1, fun j hj => ?_⟩
    · show Rn X (d + 15) co_Wa_learn _ = Rn X (d + 15) co_Wa_learn _
      have h12 : decide (12 < Int32.ofNat t) = false := (n_dlt (a := 12) (by omega) (by omega)).trans (df (by omega))
      rw [sgb_Wa_learn_2 hb, h12, cond_false, n_in (by omega), dt ht, cond_true, n_tn (by omega), n_s]
    · by_cases hjt : j = t
      · subst hjt; exact up_eq
      · rw [up_ne (by omega)]; exact hK.2 j (by omega)) 0 I (Nat.zero_le _) ⟨fun _ _ _ => rfl, fun j hj => absurd hj (Nat.not_lt_zero j)⟩
  have k1 : Rn X (d + 15) co_Wa_learn (2, [some (vr (220 + 3 * b)), some (vr 49), some (vi 0)], [], pm_mm al (pm_tb (3 + b) D) I L) = Rn X (d + 15) co_Wa_learn (2, [some (vr (220 + 3 * b)), some (vr 49), some (vi 13)], [], pm_mm al (pm_tb (3 + b) D) K L) := k1
  have hbg : ∀ a j, ¬ plS a j → bgI K a j = K a j := fun a j hp => bg_F a j hp
  have hI : spI (bgI K) n (PBc I n) (I 52) := by
    have h1 : spI K n (PBc I n) (I 52) := spI_up (b := b) h (fun a j _ c2 => k2 a j c2)
    obtain ⟨c1, c2, c3, c4, c5⟩ := h1
    have e51 : bgI K 51 = K 51 := by funext j; exact hbg 51 j (by unfold plS; omega)
    have e52 : bgI K 52 = K 52 := by funext j; exact hbg 52 j (by unfold plS; omega)
    refine ⟨(hbg 49 3 (by unfold plS; omega)).trans c1, by rw [e51]; exact c2, by rw [e52]; exact c3, ?_, e52.trans c5⟩
    rw [← c4]; exact PBc_up n hbg
  have eB : PBc K n = PBc I n := (spI_up (b := b) h (fun a j _ c2 => k2 a j c2)).2.2.2.1
  have hst : stC (bgI K) 0 (wps (PBc I n) (I 52) 0 0) := bg_st (PBc I n) n (I 52) _ eB.symm
  obtain ⟨J, M, s1, s2, s3, s4, s5, s6⟩ := k_spread (X := X) (d := d) (al := al) (D := D) hb hn 12 0 rfl 0 (by decide) (bgI K) (pm_up L (220 + 3 * b) 2 0) hI hst
  refine ⟨pm_up J (220 + 3 * b) 3 1, M, ?_, ⟨fun a j h1 h2 => ?_, ?_, ?_⟩, fun a j h1 => ?_, up_eq, fun j hj => ?_, ?_, fun x hx => ?_⟩
  · rw [k1, sgb_Wa_learn_2 hb, show decide ((12 : Int32) < 13) = true from rfl, cond_true, k_begin]
    simp only [Option.bind_some, pm_av]
    rw [sgb_Wa_learn_30 hb]
    rw [wV_0] at s1
    have s1 : Cl X (d + 15) 99 [vr (220 + 3 * b), vr 49, vi 0, vi 0, vl 0] (pm_mm al (pm_tb (3 + b) D) (bgI K) (pm_up L (220 + 3 * b) 2 0)) = some (none, pm_mm al (pm_tb (3 + b) D) J M) := s1
    rw [s1]
    simp only [Option.bind_some, pm_av]
    rw [sgb_Wa_learn_38 hb]
  · rw [up_ne (by omega), s2 a j (by unfold plS at h1; omega) (by omega), hbg a j h1, k2 a j (by omega)]
  · rw [up_ne (by omega), s2 57 0 (by omega) (by omega)]; exact k2 57 0 (by omega)
  · rw [up_ne (by omega), s2 59 0 (by omega) (by omega)]; exact k2 59 0 (by omega)
  · rw [s4 a j (by omega) (by omega), up_ne (by omega)]
  · rw [up_ne (by omega), s3, hbg _ j (by unfold plS; omega), k3 j hj, Int32.zero_add]
    show Int32.ofNat (su (fun q => ic (PBc I n) (I 52) (0 + 1 * q) j) 4096) = _
    rw [su_congr (g := fun q => ic (PBc I n) (I 52) q j) 4096 (fun q _ => by rw [Nat.one_mul, Nat.zero_add])]
  · rw [s5, up_eq, Int64.zero_add]
    show Int64.ofNat (su (fun q => wA (PBc I n) (I 52) (0 + 1 * q)) 4096) = _
    rw [su_congr (g := wA (PBc I n) (I 52)) 4096 (fun q _ => by rw [Nat.one_mul, Nat.zero_add])]
  · rw [s6 x hx, if_pos (Nat.mod_one x)]
end
