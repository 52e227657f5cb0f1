section
variable {X : Nat × (Nat → Int32)} {d : Nat} {al : List Nat} {D : Nat → Bool} {I : Nat → Nat → Int32} {L : Nat → Nat → Int64}
/-- the play by a set of trodden beats -/
def wps (B : PB) (w : Nat → Int32) (n : Nat) : Nat → PS := pst B w (trd (Int32.ofNat n) (-1))
/-- how many sound, how many are silent, on a beat -/
def wS (B : PB) (w : Nat → Int32) (n t : Nat) : Nat := cn (fun k => tb (wps B w n (t + 1)).2.2.2.1 k) 6
def wL (B : PB) (w : Nat → Int32) (n t : Nat) : Nat := cn (fun k => tb (wps B w n (t + 1)).2.2.2.2.1 k) 6
def wA (B : PB) (w : Nat → Int32) (n : Nat) : Nat := su (wL B w n) 12
def wV (B : PB) (w : Nat → Int32) (n k : Nat) : Nat := su (fun t => wS B w n t * 8 ^ t) k + su (wL B w n) k * 1099511627776
theorem wS_le (B : PB) (w : Nat → Int32) (n t : Nat) : wS B w n t ≤ 6 := cn_le _ 6
theorem wL_le (B : PB) (w : Nat → Int32) (n t : Nat) : wL B w n t ≤ 6 := cn_le _ 6
theorem su_eo (f : Nat → Nat) : ∀ m, su f (2 * m) = su (fun r => f (2 * r)) m + su (fun r => f (2 * r + 1)) m
  | 0 => rfl
  | m + 1 => by
    rw [show 2 * (m + 1) = 2 * m + 1 + 1 by omega, su, su, su, su, su_eo f m]; omega
theorem sh8 : ∀ (a : Fin 13) (t : Fin 12), Int64.ofNat a.val <<< ((3 * Int32.ofNat t.val).toInt64 &&& 63) = Int64.ofNat (a.val * 8 ^ t.val) := by decide +kernel
theorem sh40 : ∀ (a : Fin 13), Int64.ofNat a.val <<< ((40 : Int32).toInt64 &&& 63) = Int64.ofNat (a.val * 1099511627776) := by decide +kernel
theorem sr40 {y : Nat} (hy : y < 9223372036854775808) : ((Int64.ofNat y) >>> ((40 : Int32).toInt64 &&& 63)).toInt32 = Int32.ofNat (y / 1099511627776) := by
  have h1 : (((40 : Int32).toInt64 &&& 63).toBitVec.smod 64) = 40#64 := by decide
  have h2 : ((Int64.ofNat y) >>> ((40 : Int32).toInt64 &&& 63)).toInt = (y / 1099511627776 : Nat) := by
    rw [← Int64.toInt_toBitVec, Int64.toBitVec_shiftRight, h1, BitVec.sshiftRight', BitVec.toInt_sshiftRight, Int64.toInt_toBitVec, u_ti hy, Int.shiftRight_eq_div_pow]
    rfl
  rw [t_eq, Int64.toInt_toInt32, h2, n_ti (by omega)]
  exact bm (by omega) (by omega)
/-- only the beats before count -/
theorem wps_congr {B : PB} {w : Nat → Int32} {n m t : Nat} (ht : t ≤ 12) (h : ∀ k, k < t → tb (Int32.ofNat n) k = tb (Int32.ofNat m) k) : wps B w n t = wps B w m t :=
  pst_tr t (fun u hu => by rw [trd_m1, trd_m1, hs_tb _ (by omega), hs_tb _ (by omega), h u hu])
theorem tb_n {n k : Nat} (hn : n < 4096) (hk : k < 32) : tb (Int32.ofNat n) k = n.testBit k := by
  rw [tb]
  show (BitVec.ofNat 32 n).getLsbD k = _
  rw [BitVec.getLsbD_ofNat]; simp [hk]
theorem k_wsil {y : Nat} (hy : y < 9223372036854775808) : Cl X (d + 1) 102 [vl (Int64.ofNat y)] (pm_mm al D I L) = some (some (vi (Int32.ofNat (y / 1099511627776))), pm_mm al D I L) := by
  rw [Cl_s]
  show Rn X d co_Wa_silences (0, [some (vl (Int64.ofNat y)), none], [], pm_mm al D I L) = _
  rw [sg_Wa_silences_0, sr40 hy]

theorem wv_lt (B : PB) (w : Nat → Int32) (n : Nat) : ∀ k, su (fun t => wS B w n t * 8 ^ t) k < 8 ^ k
  | 0 => by show 0 < 1; omega
  | k + 1 => by
    have ih := wv_lt B w n k
    have h6 := Nat.mul_le_mul_right (8 ^ k) (wS_le B w n k)
    rw [su, Nat.pow_succ]; omega
theorem wl_le (B : PB) (w : Nat → Int32) (n : Nat) : ∀ k, su (wL B w n) k ≤ 6 * k
  | 0 => Nat.le_refl _
  | k + 1 => by
    have ih := wl_le B w n k
    have := wL_le B w n k
    rw [su]; omega
theorem wV_rg (B : PB) (w : Nat → Int32) (n : Nat) {k : Nat} (hk : k ≤ 12) : wV B w n k < 100000000000000 ∧ wV B w n k / 1099511627776 = su (wL B w n) k := by
  have h1 := wv_lt B w n k
  have h2 := wl_le B w n k
  have h3 : 8 ^ k ≤ 8 ^ 12 := Nat.pow_le_pow_right (by omega) hk
  have h4 : 8 ^ 12 = 68719476736 := rfl
  rw [wV]; omega
theorem or_bit {n k : Nat} (hk : k < 12) (hn : n < 2 ^ k) : Int32.ofNat n ||| (1 <<< (Int32.ofNat k &&& 31)) = Int32.ofNat (n + 2 ^ k) := by
  have h12 : 2 ^ (k + 1) ≤ 2 ^ 12 := Nat.pow_le_pow_right (by omega) (by omega)
  have e12 : 2 ^ 12 = 4096 := rfl
  have es : 2 ^ (k + 1) = 2 * 2 ^ k := by rw [Nat.pow_succ, Nat.mul_comm]
  refine tb_ext (fun j hj => ?_)
  rw [tb_or, tb_shl (by omega) hj, tb_n (by omega) hj, tb_n (by omega) hj, Nat.add_comm n]
  by_cases h : k = j
  · subst h; rw [dt rfl, Nat.testBit_two_pow_add_eq, Nat.testBit_lt_two_pow hn]; rfl
  · rw [df h, Bool.or_false]
    by_cases h2 : j < k
    · rw [Nat.testBit_two_pow_add_gt h2]
    · have h3 : 2 ^ (k + 1) ≤ 2 ^ j := Nat.pow_le_pow_right (by omega) (by omega)
      rw [Nat.testBit_lt_two_pow (show n < 2 ^ j by omega), Nat.testBit_lt_two_pow (show 2 ^ k + n < 2 ^ j by omega)]
theorem k_ofBeat {t : Nat} {x y : Int32} (ht : t < 12) (e1 : I 57 (t + 1) = x) (e2 : I 58 (t + 1) = y) (h1 : ∀ k, k < 32 → tb x k = true → k < 6) (h2 : ∀ k, k < 32 → tb y k = true → k < 6) : Cl X (d + 2) 101 [vr 49, vi (Int32.ofNat t)] (pm_mm al D I L) = some (some (vl (Int64.ofNat (cn (fun k => tb x k) 6 * 8 ^ t + cn (fun k => tb y k) 6 * 1099511627776))), pm_mm al D I L) := by
  rw [Cl_s]
  show Rn X (d + 1) co_Wa_ofBeat (0, [some (vr 49), some (vi (Int32.ofNat t)), none, none, none, none], [], pm_mm al D I L) = _
  have s1 := sma_b (n := 6) (by omega) h1
  have s2 := sma_b (n := 6) (by omega) h2
  have c1 := cn_le (fun k => tb x k) 6
  have c2 := cn_le (fun k => tb y k) 6
  rw [sg_Wa_ofBeat_49_0, n_s, n_in (by omega), dt (by omega), cond_true, n_tn (by omega), e1, k_bitCount s1.1 s1.2, on_n (n := 6) (by omega) h1]
  simp only [Option.bind_some, pm_ai]
  rw [sg_Wa_ofBeat_49_11, n_s, n_in (by omega), dt (by omega), cond_true, n_tn (by omega), e2, k_bitCount s2.1 s2.2, on_n (n := 6) (by omega) h2]
  simp only [Option.bind_some, pm_ai]
  rw [sg_Wa_ofBeat_49_24, i64_n (by omega), i64_n (by omega)]
  have q1 := sh8 ⟨cn (fun k => tb x k) 6, by omega⟩ ⟨t, ht⟩
  have q2 := sh40 ⟨cn (fun k => tb y k) 6, by omega⟩
  simp only at q1 q2
  rw [q1, q2, un_add]
theorem oN_le (k n : Nat) : oN k n ≤ k := cn_le _ k
theorem k_keepWay {b n y : Nat} (hb : b < 4) (hn : n < 4096) (hy : y < 100000000000000) : Cl X (d + 2) 100 [vr (220 + 3 * b), vi (Int32.ofNat n), vl (Int64.ofNat y)] (pm_mm al (pm_tb (3 + b) D) I L) = some (none, pm_mm al (pm_tb (3 + b) D) (cond (decide (y / 1099511627776 = 0)) (pm_up I (222 + 3 * b) (oN 12 n) (I (222 + 3 * b) (oN 12 n) + 1)) I) (pm_up (pm_up L (221 + 3 * b) n (Int64.ofNat y)) (220 + 3 * b) 2 (L (220 + 3 * b) 2 + Int64.ofNat (y / 1099511627776)))) := by
  rw [Cl_s]
  show Rn X (d + 1) co_Wa_keepWay (0, [some (vr (220 + 3 * b)), some (vi (Int32.ofNat n)), some (vl (Int64.ofNat y)), none], [], pm_mm al (pm_tb (3 + b) D) I L) = _
  have ho := oN_le 12 n
  have en : (Int32.ofNat n).toInt = n := n_ti (by omega)
  have hdz : decide (Int32.ofNat (y / 1099511627776) = 0) = decide (y / 1099511627776 = 0) := n_deq (b := 0) (by omega) (by omega)
  rw [sgb_Wa_keepWay_0 hb, n_in (by omega), dt hn, cond_true, n_tn (by omega), k_wsil (by omega)]
  simp only [Option.bind_some, pm_ai]
  rw [sgb_Wa_keepWay_16 hb, k_wsil (by omega)]
  simp only [Option.bind_some, pm_ai]
  rw [sgb_Wa_keepWay_25 hb, hdz, i64_n (by omega)]
  cases decide (y / 1099511627776 = 0) with
  | false => rw [cond_false, sgb_Wa_keepWay_41]; rfl
  | true =>
    rw [cond_true, k_bitCount (by omega) (by omega), on_oN (k := 12) (by omega) hn]
    simp only [Option.bind_some, pm_ai]
    rw [sgb_Wa_keepWay_36 hb, n_in (by omega), dt (by omega), cond_true, cond_true, n_tn (by omega), sgb_Wa_keepWay_41]; rfl
end
