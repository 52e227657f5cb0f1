section
variable {X : Nat × (Nat → Int32)} {d : Nat} {al : List Nat} {D : Nat → Bool}
def ic (B : PB) (w : Nat → Int32) (x j : Nat) : Nat := if wA B w x = 0 ∧ oN 12 x = j then 1 else 0
/-- what spreading from beat k on leaves behind -/
def spP (B : PB) (w : Nat → Int32) (b k r set : Nat) (I J : Nat → Nat → Int32) (L M : Nat → Nat → Int64) : Prop :=
  (∀ a j, ¬ (53 ≤ a ∧ a ≤ 59 ∧ k + 1 ≤ j) → ¬ (a = 222 + 3 * b) → J a j = I a j)
  ∧ (∀ j, J (222 + 3 * b) j = I (222 + 3 * b) j + Int32.ofNat (su (fun q => ic B w (set + 2 ^ k * q) j) (2 ^ r)))
  ∧ (∀ a j, ¬ a = 221 + 3 * b → ¬ (a = 220 + 3 * b ∧ j = 2) → M a j = L a j)
  ∧ M (220 + 3 * b) 2 = L (220 + 3 * b) 2 + Int64.ofNat (su (fun q => wA B w (set + 2 ^ k * q)) (2 ^ r))
  ∧ (∀ x, x < 4096 → M (221 + 3 * b) x = if x % 2 ^ k = set then Int64.ofNat (wV B w x 12) else L (221 + 3 * b) x)
def spI (I : Nat → Nat → Int32) (n : Nat) (B : PB) (w : Nat → Int32) : Prop := I 49 3 = Int32.ofNat n ∧ prm (I 51) n ∧ (∀ t, t < 12 → ∀ k, k < 32 → tb (I 52 t) k = true → k < n) ∧ PBc I n = B ∧ I 52 = w
theorem spI_up {I J : Nat → Nat → Int32} {n : Nat} {B : PB} {w : Nat → Int32} {b : Nat} (h : spI I n B w) (e : ∀ a j, ¬ (53 ≤ a ∧ a ≤ 59) → ¬ (a = 222 + 3 * b) → J a j = I a j) : spI J n B w := by
  obtain ⟨h1, h2, h3, h4, h5⟩ := h
  have e51 : J 51 = I 51 := by funext j; exact e 51 j (by omega) (by omega)
  have e52 : J 52 = I 52 := by funext j; exact e 52 j (by omega) (by omega)
  refine ⟨(e 49 3 (by omega) (by omega)).trans h1, by rw [e51]; exact h2, by rw [e52]; exact h3, ?_, e52.trans h5⟩
  have : dwC J = dwC I := by funext p; exact e 50 _ (by omega) (by omega)
  rw [← h4, PBc, PBc, e 49 0 (by omega) (by omega), e 49 1 (by omega) (by omega), e 49 2 (by omega) (by omega), e 49 4 (by omega) (by omega), e51, this]
theorem mod_s {x k set : Nat} (hs : set < 2 ^ k) : (x % 2 ^ k = set ↔ x % 2 ^ (k + 1) = set ∨ x % 2 ^ (k + 1) = set + 2 ^ k) := by
  have h1 : x % 2 ^ (k + 1) = x % 2 ^ k + 2 ^ k * (x / 2 ^ k % 2) := Nat.mod_pow_succ
  have h2 : x % 2 ^ k < 2 ^ k := Nat.mod_lt _ (Nat.two_pow_pos k)
  rw [h1]
  rcases Nat.mod_two_eq_zero_or_one (x / 2 ^ k) with h | h <;> rw [h] <;> omega
theorem su_half (f : Nat → Nat) (k r set : Nat) : su (fun q => f (set + 2 ^ k * q)) (2 ^ (r + 1)) = su (fun q => f (set + 2 ^ (k + 1) * q)) (2 ^ r) + su (fun q => f (set + 2 ^ k + 2 ^ (k + 1) * q)) (2 ^ r) := by
  rw [Nat.pow_succ 2 r, Nat.mul_comm (2 ^ r), su_eo]
  congr 1
  · exact su_congr _ (fun q _ => by rw [← Nat.mul_assoc, Nat.pow_succ])
  · exact su_congr _ (fun q _ => by rw [Nat.mul_add, ← Nat.mul_assoc, Nat.pow_succ, Nat.mul_one, Nat.add_assoc, Nat.add_comm (2 ^ k * 2 * q)])
theorem wps_s {B : PB} {w : Nat → Int32} {set k : Nat} (hk : k < 12) : wps B w set (k + 1) = nx B (w k) (tb (Int32.ofNat set) k) (wps B w set k) := by
  rw [wps, pst, trd_m1, hs_tb _ (by omega)]
theorem wV_s (B : PB) (w : Nat → Int32) (set k : Nat) : wV B w set (k + 1) = wV B w set k + (wS B w set k * 8 ^ k + wL B w set k * 1099511627776) := by
  rw [wV, wV, su, su]; omega
/-- of the same first beats -/
theorem wV_hi {B : PB} {w : Nat → Int32} {set k : Nat} (hk : k < 12) (hs : set < 2 ^ k) : wps B w (set + 2 ^ k) k = wps B w set k ∧ wV B w (set + 2 ^ k) k = wV B w set k := by
  have h12 : 2 ^ (k + 1) ≤ 2 ^ 12 := Nat.pow_le_pow_right (by omega) (by omega)
  have e12 : 2 ^ 12 = 4096 := rfl
  have es : 2 ^ (k + 1) = 2 * 2 ^ k := by rw [Nat.pow_succ, Nat.mul_comm]
  have hq : ∀ t, t ≤ k → wps B w (set + 2 ^ k) t = wps B w set t := fun t ht => wps_congr (by omega) (fun j hj => by
    rw [tb_n (by omega) (by omega), tb_n (by omega) (by omega), Nat.add_comm, Nat.testBit_two_pow_add_gt (by omega)])
  refine ⟨hq k (Nat.le_refl _), ?_⟩
  rw [wV, wV]
  have a1 : su (fun t => wS B w (set + 2 ^ k) t * 8 ^ t) k = su (fun t => wS B w set t * 8 ^ t) k := su_congr _ (fun t ht => by rw [wS, wS, hq (t + 1) (by omega)])
  have a2 : su (wL B w (set + 2 ^ k)) k = su (wL B w set) k := su_congr _ (fun t ht => by rw [wL, wL, hq (t + 1) (by omega)])
  rw [a1, a2]
theorem k_spread {b n : Nat} {B : PB} {w : Nat → Int32} (hb : b < 4) (hn : n ≤ 6) : ∀ r k, k + r = 12 → ∀ set, set < 2 ^ k → ∀ (I : Nat → Nat → Int32) (L : Nat → Nat → Int64), spI I n B w → stC I k (wps B w set k) →
    ∃ J M, Cl X (d + r + 3) 99 [vr (220 + 3 * b), vr 49, vi (Int32.ofNat k), vi (Int32.ofNat set), vl (Int64.ofNat (wV B w set k))] (pm_mm al (pm_tb (3 + b) D) I L) = some (none, pm_mm al (pm_tb (3 + b) D) J M) ∧ spP B w b k r set I J L M := by
  intro r
  induction r with
  | zero =>
    intro k hk set hs I L hI hst
    obtain rfl : k = 12 := by omega
    have hs : set < 4096 := hs
    obtain ⟨v1, v2⟩ := wV_rg B w set (k := 12) (Nat.le_refl _)
    have hz : set + 2 ^ 12 * 0 = set := by omega
    refine ⟨cond (decide (wV B w set 12 / 1099511627776 = 0)) (pm_up I (222 + 3 * b) (oN 12 set) (I (222 + 3 * b) (oN 12 set) + 1)) I, pm_up (pm_up L (221 + 3 * b) set (Int64.ofNat (wV B w set 12))) (220 + 3 * b) 2 (L (220 + 3 * b) 2 + Int64.ofNat (wV B w set 12 / 1099511627776)), ?_, fun a j h1 h2 => ?_, fun j => ?_, fun a j h1 h2 => ?_, ?_, fun x hx => ?_⟩
    · rw [Cl_s]
      show Rn X (d + 2) co_Wa_spread (0, [some (vr (220 + 3 * b)), some (vr 49), some (vi (Int32.ofNat 12)), some (vi (Int32.ofNat set)), some (vl (Int64.ofNat (wV B w set 12))), none], [], pm_mm al (pm_tb (3 + b) D) I L) = _
      rw [sgb_Wa_spread_0 hb, show decide (Int32.ofNat 12 < 12) = false from rfl, cond_false, k_keepWay hb hs v1]
      simp only [Option.bind_some, pm_av]
      rw [sgb_Wa_spread_13]
    · cases decide (wV B w set 12 / 1099511627776 = 0)
      · rfl
      · rw [cond_true, up_ne (by omega)]
    · show _ = _ + Int32.ofNat (0 + ic B w (set + 2 ^ 12 * 0) j)
      rw [hz, Nat.zero_add, ic, v2]
      show (cond (decide (wA B w set = 0)) (pm_up I (222 + 3 * b) (oN 12 set) (I (222 + 3 * b) (oN 12 set) + 1)) I : Nat → Nat → Int32) (222 + 3 * b) j = _
      by_cases ha : wA B w set = 0
      · rw [dt ha, cond_true]
        by_cases hj : oN 12 set = j
        · subst hj; rw [up_eq, if_pos ⟨ha, rfl⟩]; rfl
        · rw [up_ne (by omega), if_neg (fun c => hj c.2)]; exact (Int32.add_zero _).symm
      · rw [df ha, cond_false, if_neg (fun c => ha c.1)]; exact (Int32.add_zero _).symm
    · rw [up_ne (by omega), up_ne (by omega)]
    · show _ = _ + Int64.ofNat (0 + wA B w (set + 2 ^ 12 * 0))
      rw [hz, Nat.zero_add, up_eq, v2]; rfl
    · show _ = if x % 4096 = set then _ else _
      rw [Nat.mod_eq_of_lt hx, up_ne (by omega)]
      by_cases h : x = set
      · subst h; rw [up_eq, if_pos rfl]
      · rw [up_ne (by omega), if_neg h]
  | succ r ih =>
    intro k hk set hs I L hI hst
    have h12 : 2 ^ (k + 1) ≤ 2 ^ 12 := Nat.pow_le_pow_right (by omega) (by omega)
    have e12 : 2 ^ 12 = 4096 := rfl
    have es : 2 ^ (k + 1) = 2 * 2 ^ k := by rw [Nat.pow_succ, Nat.mul_comm]
    have hk12 : k < 12 := by omega
    have hpr : ∀ i, i < B.2.2.2.2.1 → ∃ p, p < B.2.2.2.2.1 ∧ B.2.2.2.2.2.2 i = Int32.ofNat p := by
      obtain ⟨_, h2, _, h4, _⟩ := hI
      rw [← h4]; exact fun i hi => h2.1 i hi
    have hB6 : B.2.2.2.2.1 ≤ 6 := by obtain ⟨_, _, _, h4, _⟩ := hI; rw [← h4]; exact hn
    have hbits : ∀ s t, psB B.2.2.2.2.1 (wps B w s t) := fun s t => ps_bits hB6 hpr t
    have stp : ∀ (I : Nat → Nat → Int32) (L : Nat → Nat → Int64) (tr : Bool) (s : Nat), spI I n B w → stC I k (wps B w s k) → tb (Int32.ofNat s) k = tr →
        ∃ J, Cl X (d + r + 3) 46 [vr 49, vi (Int32.ofNat k), vi (b01 tr)] (pm_mm al (pm_tb (3 + b) D) I L) = some (none, pm_mm al (pm_tb (3 + b) D) J L) ∧ spF I J k ∧ spI J n B w ∧ stC J (k + 1) (wps B w s (k + 1)) ∧ Cl X (d + r + 3) 101 [vr 49, vi (Int32.ofNat k)] (pm_mm al (pm_tb (3 + b) D) J L) = some (some (vl (Int64.ofNat (wS B w s k * 8 ^ k + wL B w s k * 1099511627776))), pm_mm al (pm_tb (3 + b) D) J L) := fun I L tr s hI hst htr => by
      obtain ⟨h1, h2, h3, h4, h5⟩ := hI
      obtain ⟨J, e1, e2, e3⟩ := k_step (X := X) (d := d + r + 1) (al := al) (D := pm_tb (3 + b) D) (L := L) (I := I) tr hn h1 hk12 h2 (h3 k hk12) hst
      rw [h4, h5, ← htr, ← wps_s hk12] at e3
      refine ⟨J, e1, e2, spI_up (b := b) ⟨h1, h2, h3, h4, h5⟩ (fun a j a1 a2 => e2 a j (by omega)), e3.1, ?_⟩
      exact k_ofBeat (d := d + r + 1) hk12 e3.2.1 e3.1.2.2.2 (fun q hq hb => by have := (hbits s (k + 1) q hq).2.1 hb; omega) (fun q hq hb => by have := (hbits s (k + 1) q hq).2.2.1 hb; omega)
    have t0 : tb (Int32.ofNat set) k = false := by rw [tb_n (by omega) (by omega), Nat.testBit_lt_two_pow hs]
    have t1 : tb (Int32.ofNat (set + 2 ^ k)) k = true := by rw [tb_n (by omega) (by omega), Nat.add_comm, Nat.testBit_two_pow_add_eq, Nat.testBit_lt_two_pow hs]; rfl
    obtain ⟨J1, a1, a2, a3, a4, a5⟩ := stp I L false set hI hst t0
    obtain ⟨J2, M2, b1, b2⟩ := ih (k + 1) (by omega) set (by omega) J1 L a3 a4
    obtain ⟨p1, p2, p3, p4, p5⟩ := b2
    have hI2 : spI J2 n B w := spI_up (b := b) a3 (fun a j c1 c2 => p1 a j (by omega) c2)
    obtain ⟨hw1, hw2⟩ := wV_hi (B := B) (w := w) hk12 hs
    have hst2 : stC J2 k (wps B w (set + 2 ^ k) k) := by
      have hj : ∀ a, 53 ≤ a → a ≤ 59 → J2 a k = I a k := fun a c1 c2 => by rw [p1 a k (by omega) (by omega), a2 a k (by omega)]
      rw [hw1]
      exact ⟨(hj 53 (by omega) (by omega)).trans hst.1, (hj 54 (by omega) (by omega)).trans hst.2.1, (hj 55 (by omega) (by omega)).trans hst.2.2.1, (hj 58 (by omega) (by omega)).trans hst.2.2.2⟩
    obtain ⟨J3, c1, c2, c3, c4, c5⟩ := stp J2 M2 true (set + 2 ^ k) hI2 hst2 t1
    obtain ⟨J4, M4, d1, d2⟩ := ih (k + 1) (by omega) (set + 2 ^ k) (by omega) J3 M2 c3 c4
    obtain ⟨q1, q2, q3, q4, q5⟩ := d2
    refine ⟨J4, M4, ?_, fun a j h1 h2 => ?_, fun j => ?_, fun a j h1 h2 => ?_, ?_, fun x hx => ?_⟩
    · rw [wV_s] at b1 d1
      rw [hw2] at d1
      rw [Cl_s]
      show Rn X (d + r + 3) co_Wa_spread (0, [some (vr (220 + 3 * b)), some (vr 49), some (vi (Int32.ofNat k)), some (vi (Int32.ofNat set)), some (vl (Int64.ofNat (wV B w set k))), none], [], pm_mm al (pm_tb (3 + b) D) I L) = _
      have hlt : decide (Int32.ofNat k < 12) = true := (n_dlt (b := 12) (by omega) (by omega)).trans (dt hk12)
      have a1 : Cl X (d + r + 3) 46 [vr 49, vi (Int32.ofNat k), vi 0] (pm_mm al (pm_tb (3 + b) D) I L) = _ := a1
      have c1 : Cl X (d + r + 3) 46 [vr 49, vi (Int32.ofNat k), vi 1] (pm_mm al (pm_tb (3 + b) D) J2 M2) = _ := c1
      rw [sgb_Wa_spread_0 hb, hlt, cond_true, a1]
      simp only [Option.bind_some, pm_av]
      rw [sgb_Wa_spread_20 hb, a5]
      simp only [Option.bind_some, pm_al]
      rw [sgb_Wa_spread_33 hb, n_s, un_add, b1]
      simp only [Option.bind_some, pm_av]
      rw [sgb_Wa_spread_37 hb, c1]
      simp only [Option.bind_some, pm_av]
      rw [sgb_Wa_spread_43 hb, c5, or_bit hk12 hs]
      simp only [Option.bind_some, pm_al]
      rw [sgb_Wa_spread_60 hb, n_s, un_add, d1]
      simp only [Option.bind_some, pm_av]
      rw [sgb_Wa_spread_64]
    · rw [q1 a j (by omega) h2, c2 a j (by omega), p1 a j (by omega) h2, a2 a j (by omega)]
    · rw [q2, c2 _ j (by omega), p2, a2 _ j (by omega), Int32.add_assoc, n_add, su_half (fun x => ic B w x j)]
    · rw [q3 a j h1 h2, p3 a j h1 h2]
    · rw [q4, p4, Int64.add_assoc, un_add, su_half (fun x => wA B w x)]
    · rw [q5 x hx, p5 x hx]
      have hm := mod_s (x := x) hs
      by_cases e1 : x % 2 ^ (k + 1) = set + 2 ^ k
      · rw [if_pos e1, if_pos (hm.mpr (Or.inr e1))]
      · rw [if_neg e1]
        by_cases e2 : x % 2 ^ (k + 1) = set
        · rw [if_pos e2, if_pos (hm.mpr (Or.inl e2))]
        · rw [if_neg e2, if_neg (fun c => (hm.mp c).elim e2 e1)]
end
