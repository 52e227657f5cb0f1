section
variable {X : Nat × (Nat → Int32)} {d : Nat} {al : List Nat} {D : Nat → Bool} {I : Nat → Nat → Int32} {L : Nat → Nat → Int64}
theorem n_and (a b : Nat) : Int32.ofNat a &&& Int32.ofNat b = Int32.ofNat (a &&& b) := by
  apply Int32.toBitVec_inj.mp
  show BitVec.ofNat 32 a &&& BitVec.ofNat 32 b = BitVec.ofNat 32 (a &&& b)
  rw [BitVec.ofNat_and]
theorem n_pred {a : Nat} (h : 1 ≤ a) : Int32.ofNat a + (-1) = Int32.ofNat (a - 1) := by
  rw [show Int32.ofNat a + (-1) = Int32.ofNat a - 1 from (Int32.sub_eq_add_neg _ _).symm]
  exact n_sub (b := 1) h
def cU (h : Nat → Bool) (n : Nat) : Int32 := fo (fun x a => cond (h x) (a &&& Int32.ofNat x) a) n (-1)
theorem cU_s (h : Nat → Bool) (n : Nat) : cU h (n + 1) = cond (h n) (cU h n &&& Int32.ofNat n) (cU h n) := by rw [cU, fo]; rfl
theorem and4095 {x : Nat} (h : x < 4096) : (4095 : Int32) &&& Int32.ofNat x = Int32.ofNat x := by
  have e : Int32.ofNat 4095 &&& Int32.ofNat x = Int32.ofNat (4095 &&& x) := n_and 4095 x
  rw [show (4095 : Int32) = Int32.ofNat 4095 from rfl, e, Nat.and_comm, show (4095 : Nat) = 2 ^ 12 - 1 from rfl, Nat.and_two_pow_sub_one_eq_mod, Nat.mod_eq_of_lt h]
theorem cU_fU (h : Nat → Bool) : ∀ n, n ≤ 4096 → (fN h n = 0 ∧ cU h n = -1 ∧ fU h n = 4095) ∨ (¬ fN h n = 0 ∧ cU h n = fU h n)
  | 0, _ => Or.inl ⟨by rw [fN, su], by rw [cU, fo], by rw [fU, fo]⟩
  | n + 1, hn => by
    have ih := cU_fU h n (by omega)
    rw [fN_s, cU_s, fU_s]
    cases h n with
    | false => exact ih
    | true =>
      right
      refine ⟨by show ¬ fN h n + 1 = 0; omega, ?_⟩
      rw [cond_true, cond_true]
      rcases ih with ⟨_, e1, e2⟩ | ⟨_, e⟩
      · rw [e1, e2, and4095 (by omega)]; exact Int32.neg_one_and
      · rw [e]
theorem k_sure {i : Nat} {H : Nat → Bool} (hi : i < 4) (ha : agP X al D I L i H) : Cl X (d + 2) 25 [vr 76, vr (221 + 3 * i)] (pm_mm al (pm_tb (3 + i) D) I L) = some (some (vi (cond (decide (fN H 4096 = 0)) (-1) (fU H 4096))), pm_mm al (pm_tb (3 + i) D) I L) := by
  have hc : cond (decide (fN H 4096 = 0)) (-1) (fU H 4096) = cU H 4096 := by
    rcases cU_fU H 4096 (Nat.le_refl _) with ⟨z, e, _⟩ | ⟨z, e⟩
    · rw [dt z, e, cond_true]
    · rw [df z, e, cond_false]
  rw [hc, Cl_s]
  show Rn X (d + 1) co_He_sure (0, [some (vr 76), some (vr (221 + 3 * i)), none, none], [], pm_mm al (pm_tb (3 + i) D) I L) = _
  rw [sgb_He_sure_0 hi]
  have h := lf (σ := Unit) 4096 (fun n _ => Rn X (d + 1) co_He_sure (4, [some (vr 76), some (vr (221 + 3 * i)), some (vi (cU H n)), some (vi (Int32.ofNat n))], [], pm_mm al (pm_tb (3 + i) D) I L)) (fun _ q => q) (fun n _ hn => by
    show Rn X (d + 1) co_He_sure _ = Rn X (d + 1) co_He_sure _
    rw [sgb_He_sure_4 hi, show decide ((4096 : Int32) ≤ Int32.ofNat n) = false from (n_dle (a := 4096) (by omega) (by omega)).trans (df (by omega)), cond_false, n_in (by omega), dt hn, cond_true, n_tn (by omega), ha d n hn]
    simp only [Option.bind_some, pm_ai]
    rw [sgb_He_sure_17 hi, b01_ne, sgb_He_sure_24 hi, sgb_He_sure_24 hi, n_s, cU_s]
    cases H n with
    | true => rw [Bool.not_true, cond_false, cond_true]
    | false => rw [Bool.not_false, cond_true, cond_false]) ()
  have h : Rn X (d + 1) co_He_sure (4, [some (vr 76), some (vr (221 + 3 * i)), some (vi (cU H 0)), some (vi (Int32.ofNat 0))], [], pm_mm al (pm_tb (3 + i) D) I L) = Rn X (d + 1) co_He_sure (4, [some (vr 76), some (vr (221 + 3 * i)), some (vi (cU H 4096)), some (vi (Int32.ofNat 4096))], [], pm_mm al (pm_tb (3 + i) D) I L) := h
  rw [show cU H 0 = -1 by rw [cU, fo]] at h
  generalize cU H 4096 = N at h ⊢
  refine Eq.trans h ?_
  rw [sgb_He_sure_4 hi, show decide ((4096 : Int32) ≤ Int32.ofNat 4096) = true from rfl, cond_true]
theorem k_wayAt {i k : Nat} {H : Nat → Bool} (hi : i < 4) (hk : k < 2147483648) (ha : agP X al D I L i H) : Cl X (d + 2) 24 [vr 76, vr (221 + 3 * i), vi (Int32.ofNat k)] (pm_mm al (pm_tb (3 + i) D) I L) = some (some (vi (kt H k 4096 0)), pm_mm al (pm_tb (3 + i) D) I L) := by
  rw [Cl_s]
  show Rn X (d + 1) co_He_wayAt (0, [some (vr 76), some (vr (221 + 3 * i)), some (vi (Int32.ofNat k)), none, none], [], pm_mm al (pm_tb (3 + i) D) I L) = _
  rw [sgb_He_wayAt_0 hi]
  suffices h : ∀ r x o2, x + r = 4096 → fN H x ≤ k → Rn X (d + 1) co_He_wayAt (5, [some (vr 76), some (vr (221 + 3 * i)), o2, some (vi (Int32.ofNat (k - fN H x))), some (vi (Int32.ofNat x))], [], pm_mm al (pm_tb (3 + i) D) I L) = some (some (vi (kt H k r x)), pm_mm al (pm_tb (3 + i) D) I L) by
    have h0 := h 4096 0 (some (vi (Int32.ofNat k))) rfl (by rw [show fN H 0 = 0 by rw [fN, su]]; omega)
    rw [show fN H 0 = 0 by rw [fN, su], Nat.sub_zero] at h0
    exact h0
  intro r
  induction r with
  | zero =>
    intro x o2 hx _
    rw [show x = 4096 by omega, sgb_He_wayAt_5 hi, show decide ((4096 : Int32) ≤ Int32.ofNat 4096) = true from rfl, cond_true, kt]
  | succ r ih =>
    intro x o2 hx hle
    rw [sgb_He_wayAt_5 hi, show decide ((4096 : Int32) ≤ Int32.ofNat x) = false from (n_dle (a := 4096) (by omega) (by omega)).trans (df (by omega)), cond_false, n_in (by omega), dt (by omega), cond_true, n_tn (by omega), ha d x (by omega)]
    simp only [Option.bind_some, pm_ai]
    rw [sgb_He_wayAt_20 hi, b01_ne, show decide (Int32.ofNat (k - fN H x) = 0) = decide (k - fN H x = 0) from n_deq (b := 0) (by omega) (by omega), sgb_He_wayAt_33 hi, sgb_He_wayAt_33 hi, n_s, kt]
    cases hH : H x with
    | false =>
      have e : fN H (x + 1) = fN H x := by rw [fN_s, hH]; rfl
      have ihx := ih (x + 1) o2 (by omega) (by omega)
      rw [e] at ihx
      rw [Bool.not_false, cond_true, Bool.false_and, cond_false]; exact ihx
    | true =>
      have e : fN H (x + 1) = fN H x + 1 := by rw [fN_s, hH]; rfl
      rw [Bool.not_true, cond_false, Bool.true_and]
      by_cases c : fN H x = k
      · rw [dt (show k - fN H x = 0 by omega), dt c, cond_true, cond_true]
      · have ihx := ih (x + 1) (pm_nl o2) (by omega) (by omega)
        rw [e, show k - (fN H x + 1) = k - fN H x - 1 by omega] at ihx
        rw [df (show ¬ k - fN H x = 0 by omega), df c, cond_false, cond_false, n_pred (by omega)]; exact ihx
/-- a way's sounds -/
theorem sr3 {y t : Nat} (hy : y < 9223372036854775808) (ht : t < 12) : ((Int64.ofNat y) >>> ((3 * Int32.ofNat t).toInt64 &&& 63)).toInt32 &&& 7 = Int32.ofNat ((y >>> (3 * t)) &&& 7) := by
  have h0 : ∀ t : Fin 12, (((3 * Int32.ofNat t.val).toInt64 &&& 63).toBitVec.smod 64).toNat = 3 * t.val := by decide +kernel
  have h1 := h0 ⟨t, ht⟩
  simp only at h1
  have hq : y >>> (3 * t) ≤ y := by rw [Nat.shiftRight_eq_div_pow]; exact Nat.div_le_self _ _
  have h2 : (Int64.ofNat y) >>> ((3 * Int32.ofNat t).toInt64 &&& 63) = Int64.ofNat (y >>> (3 * t)) := by
    rw [u_eq, ← Int64.toInt_toBitVec, Int64.toBitVec_shiftRight, BitVec.sshiftRight', BitVec.toInt_sshiftRight, Int64.toInt_toBitVec, u_ti hy, h1, u_ti (by omega)]
    rfl
  have h3 : (Int64.ofNat (y >>> (3 * t))).toInt32 = Int32.ofNat (y >>> (3 * t)) := by
    rw [t_eq, Int64.toInt_toInt32, u_ti (by omega), Int32.toInt_ofNat']
  rw [h2, h3]
  exact n_and _ 7
theorem dg_get {a : Nat → Nat} (ha : ∀ t, a t < 8) (c : Nat) {t : Nat} (ht : t < 12) : ((dg a 12 + c * 1099511627776) >>> (3 * t)) &&& 7 = a t := by
  have l40 : dg a 12 < 2 ^ 40 := Nat.lt_of_lt_of_le (dg_lt ha 12) (by decide)
  have e40 : dg a 12 + c * 1099511627776 = 2 ^ 40 * c + dg a 12 := by
    rw [Nat.add_comm, Nat.mul_comm c, show (2 : Nat) ^ 40 = 1099511627776 from rfl]
  rw [e40]
  refine Nat.eq_of_testBit_eq (fun j => ?_)
  rw [Nat.testBit_and, Nat.testBit_shiftRight, Nat.testBit_two_pow_mul_add _ l40, show (7 : Nat) = 2 ^ 3 - 1 from rfl, Nat.testBit_two_pow_sub_one]
  by_cases hj : j < 3
  · rw [if_pos (by omega), dg_bit ha, dt (show 3 * t + j < 3 * 12 by omega), dt hj, Bool.true_and, Bool.and_true, show (3 * t + j) / 3 = t by omega, show (3 * t + j) % 3 = j by omega]
  · rw [df hj, Bool.and_false]
    exact (Nat.testBit_lt_two_pow (Nat.lt_of_lt_of_le (ha t) (show 2 ^ 3 ≤ 2 ^ j from Nat.pow_le_pow_right (by decide) (by omega)))).symm
theorem k_sounds {B : PB} {w : Nat → Int32} {x t : Nat} (ht : t < 12) : Cl X (d + 1) 103 [vl (Int64.ofNat (wV B w x 12)), vi (Int32.ofNat t)] (pm_mm al D I L) = some (some (vi (Int32.ofNat (wS B w x t))), pm_mm al D I L) := by
  rw [Cl_s]
  show Rn X d co_Wa_sounds (0, [some (vl (Int64.ofNat (wV B w x 12))), none, some (vi (Int32.ofNat t))], [], pm_mm al D I L) = _
  have h1 := (wV_rg B w x (k := 12) (Nat.le_refl _)).1
  have h2 : (wV B w x 12 >>> (3 * t)) &&& 7 = wS B w x t := dg_get (a := wS B w x) (fun t => by have := wS_le B w x t; omega) _ ht
  rw [sg_Wa_sounds_0, sr3 (by omega) ht, h2]
/-- what is counted -/
theorem k_countAlike {i : Nat} {H : Nat → Bool} {S : Nat → Nat → Nat} (hi : i < 4) (hS : ∀ x t, S x t < 8) (ha : ∀ J, (∀ a j, ¬ a = 77 → J a j = I a j) → agP X al D J L i H) (hs : ∀ x t, x < 4096 → t < 12 → ∀ J, Cl X (d + 1) 103 [vl (L (221 + 3 * i) x), vi (Int32.ofNat t)] (pm_mm al (pm_tb (3 + i) D) J L) = some (some (vi (Int32.ofNat (S x t))), pm_mm al (pm_tb (3 + i) D) J L)) :
    ∃ J, Cl X (d + 2) 29 [vr 76, vr (221 + 3 * i)] (pm_mm al (pm_tb (3 + i) D) I L) = some (none, pm_mm al (pm_tb (3 + i) D) J L) ∧ (∀ a j, ¬ a = 77 → J a j = I a j) ∧ ∀ t c, t < 12 → c < 8 → J 77 (8 * t + c) = Int32.ofNat (fS H S t c 4096) := by
  rw [Cl_s]
  show ∃ J, Rn X (d + 1) co_He_countAlike (0, [some (vr 76), some (vr (221 + 3 * i)), none, none], [], pm_mm al (pm_tb (3 + i) D) I L) = _ ∧ _
  obtain ⟨K, p1, p2, p3⟩ := lp 96 (fun n K => Rn X (d + 1) co_He_countAlike (2, [some (vr 76), some (vr (221 + 3 * i)), some (vi (Int32.ofNat n)), none], [], pm_mm al (pm_tb (3 + i) D) K L)) (fun n K => (∀ a j, ¬ a = 77 → K a j = I a j) ∧ ∀ x, x < n → K 77 x = 0) (fun n K hn hq => by
    refine ⟨pm_up K 77 n 0, ?_, fun a j h => by rw [up_ne (by omega)]; exact hq.1 a j h, fun x hx => ?_⟩
    · show Rn X (d + 1) co_He_countAlike _ = Rn X (d + 1) co_He_countAlike _
      rw [sgb_He_countAlike_2 hi, show decide ((96 : Int32) ≤ Int32.ofNat n) = false from (n_dle (a := 96) (by omega) (by omega)).trans (df (by omega)), cond_false, n_in (by omega), dt hn, cond_true, n_tn (by omega), n_s]
    · by_cases hxn : x = n
      · subst hxn; exact up_eq
      · rw [up_ne (by omega)]; exact hq.2 x (by omega)) 0 I (Nat.zero_le _) ⟨fun _ _ _ => rfl, fun x hx => absurd hx (Nat.not_lt_zero x)⟩
  obtain ⟨⟨J, o3⟩, q1, q2, q3⟩ := lp (σ := (Nat → Nat → Int32) × Option pm_V) 4096 (fun n q => Rn X (d + 1) co_He_countAlike (26, [some (vr 76), some (vr (221 + 3 * i)), some (vi (Int32.ofNat n)), q.2], [], pm_mm al (pm_tb (3 + i) D) q.1 L)) (fun n q => (∀ a j, ¬ a = 77 → q.1 a j = I a j) ∧ ∀ t c, t < 12 → c < 8 → q.1 77 (8 * t + c) = Int32.ofNat (fS H S t c n)) (fun n q hn hq => by
    obtain ⟨J, o3⟩ := q
    obtain ⟨h1, h2⟩ := hq
    simp only at h1 h2
    have hag := ha J h1 d n hn
    have st : Rn X (d + 1) co_He_countAlike (26, [some (vr 76), some (vr (221 + 3 * i)), some (vi (Int32.ofNat n)), o3], [], pm_mm al (pm_tb (3 + i) D) J L) = cond (!H n) (Rn X (d + 1) co_He_countAlike (77, [some (vr 76), some (vr (221 + 3 * i)), some (vi (Int32.ofNat n)), o3], [], pm_mm al (pm_tb (3 + i) D) J L)) (Rn X (d + 1) co_He_countAlike (44, [some (vr 76), some (vr (221 + 3 * i)), some (vi (Int32.ofNat n)), some (vi 0)], [], pm_mm al (pm_tb (3 + i) D) J L)) := by
      rw [sgb_He_countAlike_26 hi, show decide ((4096 : Int32) ≤ Int32.ofNat n) = false from (n_dle (a := 4096) (by omega) (by omega)).trans (df (by omega)), cond_false, n_in (by omega), dt hn, cond_true, n_tn (by omega), hag]
      simp only [Option.bind_some, pm_ai]
      rw [sgb_He_countAlike_39 hi, b01_ne]
    cases hH : H n with
    | false =>
      refine ⟨(J, o3), ?_, h1, fun t c ht hc => ?_⟩
      · show Rn X (d + 1) co_He_countAlike _ = Rn X (d + 1) co_He_countAlike _
        rw [st, hH, Bool.not_false, cond_true, sgb_He_countAlike_77 hi, n_s]
      · rw [fS_s, hH]; exact h2 t c ht hc
    | true =>
      obtain ⟨J2, r1, r2, r3⟩ := lp 12 (fun t J => Rn X (d + 1) co_He_countAlike (44, [some (vr 76), some (vr (221 + 3 * i)), some (vi (Int32.ofNat n)), some (vi (Int32.ofNat t))], [], pm_mm al (pm_tb (3 + i) D) J L)) (fun t K => (∀ a j, ¬ a = 77 → K a j = I a j) ∧ ∀ u c, u < 12 → c < 8 → K 77 (8 * u + c) = Int32.ofNat (fS H S u c n + (if u < t ∧ S n u = c then 1 else 0))) (fun t K ht hq => by
        obtain ⟨k1, k2⟩ := hq
        have hs8 := hS n t
        have v0 : K 77 (8 * t + S n t) = Int32.ofNat (fS H S t (S n t) n) := by
          rw [k2 t (S n t) ht hs8, if_neg (fun c => Nat.lt_irrefl t c.1), Nat.add_zero]
        refine ⟨pm_up K 77 (8 * t + S n t) (Int32.ofNat (fS H S t (S n t) n + 1)), ?_, fun a j h => by rw [up_ne (by omega)]; exact k1 a j h, fun u c hu hc => ?_⟩
        · show Rn X (d + 1) co_He_countAlike _ = Rn X (d + 1) co_He_countAlike _
          have h8 : Int32.ofNat t * 8 = Int32.ofNat (t * 8) := n_mul t 8
          rw [sgb_He_countAlike_44 hi, show decide ((12 : Int32) ≤ Int32.ofNat t) = false from (n_dle (a := 12) (by omega) (by omega)).trans (df (by omega)), cond_false, n_in (by omega), dt hn, cond_true, n_tn (by omega), hs n t hn ht]
          simp only [Option.bind_some, pm_ai]
          rw [sgb_He_countAlike_65 hi, h8, n_add (t * 8) (S n t), n_in (by omega), dt (by omega), cond_true, cond_true, n_tn (by omega), show t * 8 + S n t = 8 * t + S n t by omega, v0, n_s, n_s]
        · by_cases hut : u = t ∧ c = S n t
          · obtain ⟨rfl, rfl⟩ := hut
            rw [up_eq, if_pos ⟨by omega, rfl⟩]
          · rw [up_ne (by omega), k2 u c hu hc]
            by_cases hlt : u < t ∧ S n u = c
            · rw [if_pos hlt, if_pos ⟨by omega, hlt.2⟩]
            · rw [if_neg hlt, if_neg (fun e => by
                by_cases hu2 : u = t
                · exact hut ⟨hu2, by rw [← hu2]; exact e.2.symm⟩
                · exact hlt ⟨by omega, e.2⟩)]) 0 J (Nat.zero_le _) ⟨h1, fun u c hu hc => by rw [if_neg (fun e => Nat.not_lt_zero u e.1), Nat.add_zero]; exact h2 u c hu hc⟩
      have r1 : Rn X (d + 1) co_He_countAlike (44, [some (vr 76), some (vr (221 + 3 * i)), some (vi (Int32.ofNat n)), some (vi 0)], [], pm_mm al (pm_tb (3 + i) D) J L) = Rn X (d + 1) co_He_countAlike (44, [some (vr 76), some (vr (221 + 3 * i)), some (vi (Int32.ofNat n)), some (vi (Int32.ofNat 12))], [], pm_mm al (pm_tb (3 + i) D) J2 L) := r1
      refine ⟨(J2, some (vi (Int32.ofNat 12))), ?_, r2, fun t c ht hc => ?_⟩
      · show Rn X (d + 1) co_He_countAlike _ = Rn X (d + 1) co_He_countAlike _
        rw [st, hH, Bool.not_true, cond_false, r1, sgb_He_countAlike_44 hi, show decide ((12 : Int32) ≤ Int32.ofNat 12) = true from rfl, cond_true, sgb_He_countAlike_77 hi, n_s]
      · rw [fS_s, hH, Bool.true_and]
        show J2 77 (8 * t + c) = _
        rw [r3 t c ht hc]
        by_cases e : S n t = c
        · rw [if_pos ⟨ht, e⟩, dt e]; rfl
        · rw [if_neg (fun q => e q.2), df e]; rfl) 0 (K, none) (Nat.zero_le _) ⟨p2, fun t c ht hc => by show K 77 _ = _; rw [p3 _ (by omega), fS, su]; rfl⟩
  have p1 : Rn X (d + 1) co_He_countAlike (2, [some (vr 76), some (vr (221 + 3 * i)), some (vi 0), none], [], pm_mm al (pm_tb (3 + i) D) I L) = Rn X (d + 1) co_He_countAlike (2, [some (vr 76), some (vr (221 + 3 * i)), some (vi (Int32.ofNat 96)), none], [], pm_mm al (pm_tb (3 + i) D) K L) := p1
  have q1 : Rn X (d + 1) co_He_countAlike (26, [some (vr 76), some (vr (221 + 3 * i)), some (vi 0), none], [], pm_mm al (pm_tb (3 + i) D) K L) = Rn X (d + 1) co_He_countAlike (26, [some (vr 76), some (vr (221 + 3 * i)), some (vi (Int32.ofNat 4096)), o3], [], pm_mm al (pm_tb (3 + i) D) J L) := q1
  refine ⟨J, ?_, q2, q3⟩
  rw [sgb_He_countAlike_0 hi, p1, sgb_He_countAlike_2 hi, show decide ((96 : Int32) ≤ Int32.ofNat 96) = true from rfl, cond_true, q1, sgb_He_countAlike_26 hi, show decide ((4096 : Int32) ≤ Int32.ofNat 4096) = true from rfl, cond_true]
theorem mxx_n {a b : Nat} (ha : a < 2147483648) (hb : b < 2147483648) : mxx (Int32.ofNat a) (Int32.ofNat b) = Int32.ofNat (max a b) := by
  rw [mxx]
  by_cases h : a < b
  · rw [if_pos ((n_lt ha hb).mpr h), Nat.max_eq_right (by omega)]
  · rw [if_neg (fun c => h ((n_lt ha hb).mp c)), Nat.max_eq_left (by omega)]
theorem k_mostAlike {t : Nat} {f : Nat → Nat} (ht : t < 12) (hf : ∀ c, f c ≤ 4096) (e : ∀ c, c < 8 → I 77 (8 * t + c) = Int32.ofNat (f c)) : Cl X (d + 2) 30 [vr 76, vi (Int32.ofNat t)] (pm_mm al D I L) = some (some (vi (Int32.ofNat (mxs f 8))), pm_mm al D I L) := by
  rw [Cl_s]
  show Rn X (d + 1) co_He_mostAlike (0, [some (vr 76), some (vi (Int32.ofNat t)), none, none], [], pm_mm al D I L) = _
  rw [sg_He_mostAlike_0]
  have h := lf (σ := Unit) 8 (fun c _ => Rn X (d + 1) co_He_mostAlike (4, [some (vr 76), some (vi (Int32.ofNat t)), some (vi (Int32.ofNat (mxs f c))), some (vi (Int32.ofNat c))], [], pm_mm al D I L)) (fun _ q => q) (fun c _ hc => by
    show Rn X (d + 1) co_He_mostAlike _ = Rn X (d + 1) co_He_mostAlike _
    have h1 := mxs_le hf c
    have h2 := hf c
    have h8 : Int32.ofNat t * 8 = Int32.ofNat (t * 8) := n_mul t 8
    rw [sg_He_mostAlike_4, show decide ((8 : Int32) ≤ Int32.ofNat c) = false from (n_dle (a := 8) (by omega) (by omega)).trans (df (by omega)), cond_false, h8, n_add (t * 8) c, n_in (by omega), dt (by omega), cond_true, n_tn (by omega), show t * 8 + c = 8 * t + c by omega, e c hc, k_max, mxx_n (by omega) (by omega)]
    simp only [Option.bind_some, pm_ai]
    rw [sg_He_mostAlike_25, n_s, mxs_s]) ()
  refine Eq.trans h ?_
  rw [sg_He_mostAlike_4, show decide ((8 : Int32) ≤ Int32.ofNat 8) = true from rfl, cond_true]
def nxG (f : Nat → Nat) : Nat → Int32 × Nat
  | 0 => (-1, 1000000)
  | t + 1 => cond (decide (0 < f t) && decide (f t < (nxG f t).2)) (Int32.ofNat t, f t) (nxG f t)
theorem nxG_0 {f : Nat → Nat} : ∀ t, (∀ u, u < t → f u = 0) → nxG f t = (-1, 1000000)
  | 0, _ => rfl
  | t + 1, h => by
    rw [nxG, h t (by omega), df (Nat.lt_irrefl 0), Bool.false_and, cond_false]
    exact nxG_0 t (fun u hu => h u (by omega))
theorem nxG_F {f : Nat → Nat} : ∀ t, (∀ u, u < t → 0 < f u ∧ f u ≤ 4096) → (nxG f t).1 = (nxF f t).1 ∧ (t = 0 ∨ ((nxG f t).2 = (nxF f t).2 ∧ (nxF f t).2 ≤ 4096))
  | 0, _ => ⟨rfl, Or.inl rfl⟩
  | t + 1, h => by
    obtain ⟨ih1, ih2⟩ := nxG_F t (fun u hu => h u (by omega))
    obtain ⟨h0, h1⟩ := h t (by omega)
    have eG : nxG f (t + 1) = cond (decide (0 < f t) && decide (f t < (nxG f t).2)) (Int32.ofNat t, f t) (nxG f t) := rfl
    have eF : nxF f (t + 1) = (cond (decide (f t < (nxF f t).2)) (Int32.ofNat t) (nxF f t).1, min (nxF f t).2 (f t)) := rfl
    rw [eG, eF, dt h0, Bool.true_and]
    rcases ih2 with e | ⟨e1, e2⟩
    · subst e
      rw [show (nxG f 0).2 = 1000000 from rfl, show (nxF f 0).2 = 1000000 from rfl, dt (by omega), cond_true, cond_true]
      exact ⟨rfl, Or.inr ⟨by show f 0 = min 1000000 (f 0); omega, by show min 1000000 (f 0) ≤ 4096; omega⟩⟩
    · rw [e1]
      by_cases c : f t < (nxF f t).2
      · rw [dt c, cond_true, cond_true]
        exact ⟨rfl, Or.inr ⟨by show f t = min _ _; omega, by show min _ _ ≤ 4096; omega⟩⟩
      · rw [df c, cond_false, cond_false]
        exact ⟨ih1, Or.inr ⟨by rw [e1]; show _ = min _ _; omega, by show min _ _ ≤ 4096; omega⟩⟩
theorem k_nextToHear {i : Nat} {H : Nat → Bool} {S : Nat → Nat → Nat} (hi : i < 4) (hS : ∀ x t, S x t < 7) (ha : ∀ J, (∀ a j, ¬ a = 77 → J a j = I a j) → agP X al D J L i H) (hs : ∀ x t, x < 4096 → t < 12 → ∀ J, Cl X (d + 2) 103 [vl (L (221 + 3 * i) x), vi (Int32.ofNat t)] (pm_mm al (pm_tb (3 + i) D) J L) = some (some (vi (Int32.ofNat (S x t))), pm_mm al (pm_tb (3 + i) D) J L)) :
    ∃ J, Cl X (d + 4) 28 [vr 76, vr (221 + 3 * i)] (pm_mm al (pm_tb (3 + i) D) I L) = some (some (vi (cond (decide (fN H 4096 = 0)) (-1) (nxF (fun t => mxs (fun c => fS H S t c 4096) 7) 12).1)), pm_mm al (pm_tb (3 + i) D) J L) ∧ ∀ a j, ¬ a = 77 → J a j = I a j := by
  rw [Cl_s]
  show ∃ J, Rn X (d + 3) co_He_nextToHear (0, [some (vr 76), some (vr (221 + 3 * i)), none, none, none, none], [], pm_mm al (pm_tb (3 + i) D) I L) = _ ∧ _
  obtain ⟨J, j1, j2, j3⟩ := k_countAlike (X := X) (d := d + 1) (al := al) (D := D) (I := I) (L := L) (H := H) (S := S) hi (fun x t => by have := hS x t; omega) ha hs
  refine ⟨J, ?_, j2⟩
  rw [sgb_He_nextToHear_0 hi, j1]
  simp only [Option.bind_some, pm_av]
  have hle : ∀ t c, fS H S t c 4096 ≤ 4096 := fun t c => by have := fS_le H S t c 4096; omega
  have h7 : ∀ t, mxs (fun c => fS H S t c 4096) 8 = mxs (fun c => fS H S t c 4096) 7 := fun t => by
    have hz : fS H S t 7 4096 = 0 := (su_zero_iff _ 4096).mpr (fun x _ => by
      have := hS x t
      rw [df (show ¬ S x t = 7 by omega), Bool.and_false]; rfl)
    have hs : mxs (fun c => fS H S t c 4096) 8 = max (mxs (fun c => fS H S t c 4096) 7) (fS H S t 7 4096) := rfl
    rw [hs, hz, Nat.max_eq_left (Nat.zero_le _)]
  have hm : ∀ t, t < 12 → Cl X (d + 3) 30 [vr 76, vi (Int32.ofNat t)] (pm_mm al (pm_tb (3 + i) D) J L) = some (some (vi (Int32.ofNat (mxs (fun c => fS H S t c 4096) 7))), pm_mm al (pm_tb (3 + i) D) J L) := fun t ht => by
    rw [← h7]; exact k_mostAlike (d := d + 1) ht (hle t) (fun c hc => j3 t c ht hc)
  have hv : cond (decide (fN H 4096 = 0)) (-1) (nxF (fun t => mxs (fun c => fS H S t c 4096) 7) 12).1 = (nxG (fun t => mxs (fun c => fS H S t c 4096) 7) 12).1 := by
    by_cases hz : fN H 4096 = 0
    · have h0 : ∀ x, x < 4096 → H x = false := fun x hx => by
        have := (su_zero_iff _ 4096).mp hz x hx
        cases hh : H x with
        | false => rfl
        | true => rw [hh] at this; cases this
      have h1 : ∀ t, mxs (fun c => fS H S t c 4096) 7 = 0 := fun t => Nat.le_zero.mp (mxs_le (b := 0) (fun c => Nat.le_of_eq ((su_zero_iff _ 4096).mpr (fun x hx => by rw [h0 x hx, Bool.false_and]; rfl))) 7)
      rw [nxG_0 12 (fun u _ => h1 u), dt hz, cond_true]
    · have hx : ∃ x, x < 4096 ∧ H x = true := Classical.byContradiction (fun c => hz ((su_zero_iff _ 4096).mpr (fun x hx => by
        cases hh : H x with
        | false => rfl
        | true => exact absurd ⟨x, hx, hh⟩ c)))
      obtain ⟨x, hx, hh⟩ := hx
      have h1 : ∀ u, u < 12 → 0 < mxs (fun c => fS H S u c 4096) 7 ∧ mxs (fun c => fS H S u c 4096) 7 ≤ 4096 := fun u _ => by
        refine ⟨Nat.lt_of_lt_of_le ?_ (mxs_ge (f := fun c => fS H S u c 4096) (c := S x u) 7 (hS x u)), mxs_le (hle u) 7⟩
        have := su_le (fun q => cond (H q && decide (S q u = S x u)) 1 0) 4096 hx
        rw [hh, dt rfl, Bool.and_self, cond_true] at this
        exact this
      rw [df hz, cond_false, (nxG_F 12 h1).1]
  rw [hv]
  have hb : ∀ t, mxs (fun c => fS H S t c 4096) 7 ≤ 4096 := fun t => mxs_le (hle t) 7
  suffices key : ∀ f : Nat → Nat, (∀ t, t < 12 → Cl X (d + 3) 30 [vr 76, vi (Int32.ofNat t)] (pm_mm al (pm_tb (3 + i) D) J L) = some (some (vi (Int32.ofNat (f t))), pm_mm al (pm_tb (3 + i) D) J L)) → (∀ t, f t ≤ 4096) → Rn X (d + 3) co_He_nextToHear (5, [some (vr 76), some (vr (221 + 3 * i)), none, none, none, none], [], pm_mm al (pm_tb (3 + i) D) J L) = some (some (vi (nxG f 12).1), pm_mm al (pm_tb (3 + i) D) J L) from key _ hm hb
  clear hm hb hv
  intro f hm hb
  have hG : ∀ t, (nxG f t).2 ≤ 1000000 := fun t => by
    induction t with
    | zero => exact Nat.le_refl _
    | succ t ih =>
      have eG : nxG f (t + 1) = cond (decide (0 < f t) && decide (f t < (nxG f t).2)) (Int32.ofNat t, f t) (nxG f t) := rfl
      rw [eG]
      have := hb t
      cases (decide (0 < f t) && decide (f t < (nxG f t).2))
      · exact ih
      · show f t ≤ _; omega
  obtain ⟨⟨o1, o5⟩, h, _⟩ := lp (σ := Option pm_V × Option pm_V) 12 (fun t q => Rn X (d + 3) co_He_nextToHear (13, [some (vr 76), q.1, some (vi (Int32.ofNat (nxG f t).2)), some (vi (nxG f t).1), some (vi (Int32.ofNat t)), q.2], [], pm_mm al (pm_tb (3 + i) D) J L)) (fun _ _ => True) (fun t q ht _ => by
    obtain ⟨o1, o5⟩ := q
    have eG : nxG f (t + 1) = cond (decide (0 < f t) && decide (f t < (nxG f t).2)) (Int32.ofNat t, f t) (nxG f t) := rfl
    have hg := hG t
    have hft := hb t
    have st : Rn X (d + 3) co_He_nextToHear (13, [some (vr 76), o1, some (vi (Int32.ofNat (nxG f t).2)), some (vi (nxG f t).1), some (vi (Int32.ofNat t)), o5], [], pm_mm al (pm_tb (3 + i) D) J L) = Rn X (d + 3) co_He_nextToHear (13, [some (vr 76), cond (decide (0 < f t) && decide (f t < (nxG f t).2)) (pm_nl o1) o1, some (vi (Int32.ofNat (nxG f (t + 1)).2)), some (vi (nxG f (t + 1)).1), some (vi (Int32.ofNat (t + 1))), some (vi (Int32.ofNat (f t)))], [], pm_mm al (pm_tb (3 + i) D) J L) := by
      rw [sgb_He_nextToHear_13, show decide ((12 : Int32) ≤ Int32.ofNat t) = false from (n_dle (a := 12) (by omega) (by omega)).trans (df (by omega)), cond_false, hm t ht]
      simp only [Option.bind_some, pm_ai]
      rw [sgb_He_nextToHear_26, show decide (Int32.ofNat (f t) ≤ 0) = decide (f t ≤ 0) from n_dle (b := 0) (by omega) (by omega), n_dle (by omega) (by omega), sgb_He_nextToHear_45, sgb_He_nextToHear_45, n_s, eG]
      generalize nxG f t = q at hg ⊢
      by_cases c1 : f t ≤ 0
      · rw [dt c1, df (show ¬ 0 < f t by omega), cond_true, Bool.false_and, cond_false, cond_false]
      · rw [df c1, dt (show 0 < f t by omega), cond_false, Bool.true_and]
        by_cases c2 : q.2 ≤ f t
        · rw [dt c2, df (show ¬ f t < q.2 by omega), cond_true, cond_false, cond_false]
        · rw [df c2, dt (show f t < q.2 by omega), cond_false, cond_true, cond_true]
    exact ⟨(_, _), st, trivial⟩) 0 (pm_nl (some (vr (221 + 3 * i))), none) (Nat.zero_le _) trivial
  rw [sgb_He_nextToHear_5]
  refine Eq.trans h ?_
  rw [sgb_He_nextToHear_13, show decide ((12 : Int32) ≤ Int32.ofNat 12) = true from rfl, cond_true]
end
