section
variable {X : Nat × (Nat → Int32)} {d : Nat} {al : List Nat} {D : Nat → Bool} {I : Nat → Nat → Int32} {L : Nat → Nat → Int64}
theorem mn_n {a b : Nat} (ha : a < 2000000) (hb : b < 2000000) : mn (Int32.ofNat a) (Int32.ofNat b) = Int32.ofNat (min a b) := by
  rw [t_eq, mn_ti, n_ti (by omega), n_ti (by omega), n_ti (by omega)]
  split <;> omega
theorem fE_rg (H : Nat → Bool) : ∀ n, (fN H n = 0 ∧ fE H n = Int32.ofNat 1000000) ∨ (¬ fN H n = 0 ∧ ∃ e, e ≤ 12 ∧ fE H n = Int32.ofNat e)
  | 0 => Or.inl ⟨by rw [fN, su], by rw [fE, fo]; rfl⟩
  | n + 1 => by
    have ih := fE_rg H n
    have ho := oN_le 12 n
    rw [fN_s, fE_s]
    cases H n with
    | false => exact ih
    | true =>
      right
      refine ⟨by show ¬ fN H n + 1 = 0; omega, ?_⟩
      rcases ih with ⟨_, h⟩ | ⟨_, e, he, h⟩
      · exact ⟨oN 12 n, ho, by rw [h, cond_true, mn_n (by omega) (by omega), Nat.min_eq_right (by omega)]⟩
      · exact ⟨min e (oN 12 n), by omega, by rw [h, cond_true, mn_n (by omega) (by omega)]⟩
theorem fM_rg (H : Nat → Bool) : ∀ n, (fN H n = 0 ∧ fM H n = -1) ∨ (¬ fN H n = 0 ∧ ∃ e, e ≤ 12 ∧ fM H n = Int32.ofNat e)
  | 0 => Or.inl ⟨by rw [fN, su], by rw [fM, fo]⟩
  | n + 1 => by
    have ih := fM_rg H n
    have ho := oN_le 12 n
    rw [fN_s, fM_s]
    cases H n with
    | false => exact ih
    | true =>
      right
      refine ⟨by show ¬ fN H n + 1 = 0; omega, ?_⟩
      rw [cond_true]
      rcases ih with ⟨_, h⟩ | ⟨_, e, he, h⟩
      · refine ⟨oN 12 n, ho, ?_⟩
        rw [h, if_neg (fun c => by rw [t_lt, n_ti (by omega), show (-1 : Int32).toInt = -1 from rfl] at c; omega)]
      · rw [h]
        split
        · exact ⟨e, he, rfl⟩
        · exact ⟨oN 12 n, ho, rfl⟩
theorem k_most {i : Nat} {H : Nat → Bool} (hi : i < 4) (ha : agP X al D I L i H) : Cl X (d + 2) 27 [vr 76, vr (221 + 3 * i)] (pm_mm al (pm_tb (3 + i) D) I L) = some (some (vi (fM H 4096)), pm_mm al (pm_tb (3 + i) D) I L) := by
  rw [Cl_s]
  show Rn X (d + 1) co_He_mostTrodden (0, [some (vr 76), some (vr (221 + 3 * i)), none, none], [], pm_mm al (pm_tb (3 + i) D) I L) = _
  rw [sgb_He_mostTrodden_0 hi]
  have h := lf (σ := Unit) 4096 (fun n _ => Rn X (d + 1) co_He_mostTrodden (4, [some (vr 76), some (vr (221 + 3 * i)), some (vi (fM H n)), some (vi (Int32.ofNat n))], [], pm_mm al (pm_tb (3 + i) D) I L)) (fun _ q => q) (fun n _ hn => by
    show Rn X (d + 1) co_He_mostTrodden _ = Rn X (d + 1) co_He_mostTrodden _
    have hon : on (Int32.ofNat n) = Int32.ofNat (oN 12 n) := on_oN (k := 12) (by omega) hn
    have en : (Int32.ofNat n).toInt = n := n_ti (by omega)
    have hmx : ∀ a b : Int32, mxx a b = if b < a then a else b := fun a b => by
      rw [mxx]
      by_cases c1 : a < b
      · rw [if_pos c1, if_neg (fun c => by rw [t_lt] at c c1; omega)]
      · rw [if_neg c1]
        by_cases c2 : b < a
        · rw [if_pos c2]
        · rw [if_neg c2, t_eq]; rw [t_lt] at c1 c2; omega
    rw [sgb_He_mostTrodden_4 hi, show decide ((4096 : Int32) ≤ Int32.ofNat n) = false from (n_dle (a := 4096) (by omega) (by omega)).trans (df (by omega)), cond_false, n_in (by omega), dt hn, cond_true, n_tn (by omega), ha d n hn]
    simp only [Option.bind_some, pm_ai]
    rw [sgb_He_mostTrodden_17 hi, b01_ne, k_bitCount (by omega) (by omega), hon, fM_s]
    simp only [Option.bind_some, pm_ai]
    rw [sgb_He_mostTrodden_25 hi, k_max, hmx]
    simp only [Option.bind_some, pm_ai]
    rw [sgb_He_mostTrodden_28 hi, sgb_He_mostTrodden_29 hi, sgb_He_mostTrodden_29 hi, n_s]
    cases H n <;> rfl) ()
  have h : Rn X (d + 1) co_He_mostTrodden (4, [some (vr 76), some (vr (221 + 3 * i)), some (vi (fM H 0)), some (vi (Int32.ofNat 0))], [], pm_mm al (pm_tb (3 + i) D) I L) = Rn X (d + 1) co_He_mostTrodden (4, [some (vr 76), some (vr (221 + 3 * i)), some (vi (fM H 4096)), some (vi (Int32.ofNat 4096))], [], pm_mm al (pm_tb (3 + i) D) I L) := h
  rw [show fM H 0 = -1 by rw [fM, fo]] at h
  generalize fM H 4096 = N at h ⊢
  refine Eq.trans h ?_
  rw [sgb_He_mostTrodden_4 hi, show decide ((4096 : Int32) ≤ Int32.ofNat 4096) = true from rfl, cond_true]
def cE (H : Nat → Bool) (n : Nat) : Int32 := cond (decide (fN H n = 0)) (-1) (fE H n)
theorem k_fewest {i : Nat} {H : Nat → Bool} (hi : i < 4) (ha : agP X al D I L i H) : Cl X (d + 2) 26 [vr 76, vr (221 + 3 * i)] (pm_mm al (pm_tb (3 + i) D) I L) = some (some (vi (cE H 4096)), pm_mm al (pm_tb (3 + i) D) I L) := by
  rw [Cl_s]
  show Rn X (d + 1) co_He_fewestTrodden (0, [some (vr 76), some (vr (221 + 3 * i)), none, none], [], pm_mm al (pm_tb (3 + i) D) I L) = _
  rw [sgb_He_fewestTrodden_0 hi]
  have h := lf (σ := Unit) 4096 (fun n _ => Rn X (d + 1) co_He_fewestTrodden (4, [some (vr 76), some (vr (221 + 3 * i)), some (vi (cE H n)), some (vi (Int32.ofNat n))], [], pm_mm al (pm_tb (3 + i) D) I L)) (fun _ q => q) (fun n _ hn => by
    show Rn X (d + 1) co_He_fewestTrodden _ = Rn X (d + 1) co_He_fewestTrodden _
    have hon : on (Int32.ofNat n) = Int32.ofNat (oN 12 n) := on_oN (k := 12) (by omega) hn
    have en : (Int32.ofNat n).toInt = n := n_ti (by omega)
    have ho := oN_le 12 n
    have hrg := fE_rg H n
    rw [sgb_He_fewestTrodden_4 hi, show decide ((4096 : Int32) ≤ Int32.ofNat n) = false from (n_dle (a := 4096) (by omega) (by omega)).trans (df (by omega)), cond_false, n_in (by omega), dt hn, cond_true, n_tn (by omega), ha d n hn]
    simp only [Option.bind_some, pm_ai]
    have y33 : ∀ x2 : Int32, Rn X (d + 1) co_He_fewestTrodden (33, [some (vr 76), some (vr (221 + 3 * i)), some (vi x2), some (vi (Int32.ofNat n))], [], pm_mm al (pm_tb (3 + i) D) I L) = Rn X (d + 1) co_He_fewestTrodden (4, [some (vr 76), some (vr (221 + 3 * i)), some (vi (Int32.ofNat (oN 12 n))), some (vi (Int32.ofNat (n + 1)))], [], pm_mm al (pm_tb (3 + i) D) I L) := fun x2 => by
      rw [sgb_He_fewestTrodden_33 hi, k_bitCount (by omega) (by omega), hon]
      simp only [Option.bind_some, pm_ai]
      rw [sgb_He_fewestTrodden_37 hi, sgb_He_fewestTrodden_38 hi, n_s]
    rw [sgb_He_fewestTrodden_17 hi, b01_ne, k_bitCount (by omega) (by omega), hon, y33]
    simp only [Option.bind_some, pm_ai]
    rw [sgb_He_fewestTrodden_29 hi, y33, sgb_He_fewestTrodden_38 hi, n_s]
    have hc : cE H (n + 1) = cond (decide (fN H n + cond (H n) 1 0 = 0)) (-1) (cond (H n) (mn (fE H n) (Int32.ofNat (oN 12 n))) (fE H n)) := by rw [cE, fN_s, fE_s]
    rw [hc]
    cases H n with
    | false => rfl
    | true =>
      rw [df (show ¬ fN H n + cond true 1 0 = 0 from Nat.succ_ne_zero _), Bool.not_true, cond_false, cond_false, cond_true]
      rcases hrg with ⟨z, e⟩ | ⟨z, e, he, ee⟩
      · rw [show cE H n = -1 by rw [cE, dt z]; rfl, show decide ((-1 : Int32) = -1) = true from rfl, cond_true, e, mn_n (by omega) (by omega), Nat.min_eq_right (by omega)]
      · rw [show cE H n = Int32.ofNat e by rw [cE, df z, ee]; rfl, show decide (Int32.ofNat e = -1) = false from df (fun c => by rw [t_eq, n_ti (by omega), show (-1 : Int32).toInt = -1 from rfl] at c; omega), cond_false, ee, n_dle (by omega) (by omega), mn_n (by omega) (by omega)]
        by_cases hle : e ≤ oN 12 n
        · rw [dt hle, cond_true, Nat.min_eq_left hle]
        · rw [df hle, cond_false, Nat.min_eq_right (by omega)]) ()
  have h : Rn X (d + 1) co_He_fewestTrodden (4, [some (vr 76), some (vr (221 + 3 * i)), some (vi (cE H 0)), some (vi (Int32.ofNat 0))], [], pm_mm al (pm_tb (3 + i) D) I L) = Rn X (d + 1) co_He_fewestTrodden (4, [some (vr 76), some (vr (221 + 3 * i)), some (vi (cE H 4096)), some (vi (Int32.ofNat 4096))], [], pm_mm al (pm_tb (3 + i) D) I L) := h
  rw [show cE H 0 = -1 by rw [cE, fN, su]; rfl] at h
  generalize cE H 4096 = N at h ⊢
  refine Eq.trans h ?_
  rw [sgb_He_fewestTrodden_4 hi, show decide ((4096 : Int32) ≤ Int32.ofNat 4096) = true from rfl, cond_true]
end
