section
variable {X : Nat × (Nat → Int32)} {d : Nat} {al : List Nat} {D : Nat → Bool} {I : Nat → Nat → Int32} {L : Nat → Nat → Int64}
theorem ltr_rg {T : Nat → Int32} {k : Nat} (h : ltr T k = true) : T k = Int32.ofNat (T k).toNatClampNeg ∧ 97 ≤ (T k).toNatClampNeg ∧ (T k).toNatClampNeg ≤ 122 := by
  have e97 : (97 : Int32).toInt = 97 := rfl
  have e122 : (122 : Int32).toInt = 122 := rfl
  have e0 : (0 : Int32).toInt = 0 := rfl
  rw [ltr, Bool.and_eq_true, Bool.not_eq_true', Bool.not_eq_true', decide_eq_false_iff_not, decide_eq_false_iff_not, t_lt, t_lt] at h
  refine ⟨n_of (t_le.mpr (by omega)), ?_, ?_⟩ <;> (rw [t_tn]; omega)
def wac (T : Nat → Int32) (b : Nat) : Nat → Nat
  | 0 => 0
  | m + 1 => wac T b m * 256 + (T (b + m)).toNatClampNeg
def vls : List Nat → Nat
  | [] => 0
  | c :: ds => vls ds * 256 + c
theorem wac_lt {T : Nat → Int32} {b : Nat} : ∀ m, (∀ k, k < m + 1 → ltr T (b + k) = true) → wac T b (m + 1) < 123 * 256 ^ m
  | 0, h => by
    obtain ⟨_, h1, h2⟩ := ltr_rg (h 0 (by omega))
    rw [wac, wac]; omega
  | m + 1, h => by
    have ih := wac_lt m (fun k hk => h k (by omega))
    obtain ⟨_, h1, h2⟩ := ltr_rg (h (m + 1) (by omega))
    have hp : 256 ^ (m + 1) = 256 ^ m * 256 := Nat.pow_succ ..
    rw [wac, hp]; omega
theorem sh8b (a : Nat) : Int64.ofNat a <<< ((8 : Int32).toInt64 &&& 63) = Int64.ofNat (a * 256) := by
  apply Int64.toBitVec_inj.mp
  rw [Int64.toBitVec_shiftLeft]
  have h1 : ((((8 : Int32).toInt64 &&& 63).toBitVec.smod 64)) = 8#64 := by decide
  rw [h1]
  show BitVec.ofNat 64 a <<< 8#64 = BitVec.ofNat 64 (a * 256)
  apply BitVec.eq_of_toNat_eq
  rw [BitVec.shiftLeft_eq', BitVec.toNat_shiftLeft, BitVec.toNat_ofNat, BitVec.toNat_ofNat, BitVec.toNat_ofNat, show 8 % 2 ^ 64 = 8 from rfl, Nat.shiftLeft_eq, show (2 : Nat) ^ 8 = 256 from rfl]
  omega
theorem w64_wac {T : Nat → Int32} {b : Nat} : ∀ m, (∀ k, k < m → ltr T (b + k) = true) → w64 T b m = Int64.ofNat (wac T b m)
  | 0, _ => rfl
  | m + 1, h => by
    obtain ⟨h0, h1, h2⟩ := ltr_rg (h m (by omega))
    have ea : T (b + m) &&& 255 = Int32.ofNat (T (b + m)).toNatClampNeg := by
      have : Int32.ofNat (T (b + m)).toNatClampNeg &&& Int32.ofNat 255 = Int32.ofNat ((T (b + m)).toNatClampNeg &&& 255) := n_and _ 255
      rw [← h0] at this
      rw [show (255 : Int32) = Int32.ofNat 255 from rfl, this, show (255 : Nat) = 2 ^ 8 - 1 from rfl, Nat.and_two_pow_sub_one_eq_mod, Nat.mod_eq_of_lt (by omega)]
    rw [w64, wac, w64_wac m (fun k hk => h k (by omega)), sh8b, ea, i64_n (by omega), un_or]
    congr 1
    rw [Nat.mul_comm, show (256 : Nat) = 2 ^ 8 from rfl]
    exact (Nat.two_pow_add_eq_or_of_lt (by omega) _).symm
theorem spw_wac {T : Nat → Int32} {b : Nat} : ∀ m ds, (∀ k, k < m → ltr T (b + k) = true) → (∀ c, c ∈ ds → 0 < c ∧ c < 256) → (spw T b m ds = true ↔ wac T b m = vls ds)
  | 0, [], _, _ => ⟨fun _ => rfl, fun _ => rfl⟩
  | 0, c :: ds, _, hd => by
    refine ⟨fun h => (by cases h), fun h => ?_⟩
    have := hd c (List.mem_cons_self ..)
    rw [wac, vls] at h; omega
  | m + 1, [], h, _ => by
    refine ⟨fun h => (by cases h), fun hh => ?_⟩
    obtain ⟨_, h1, h2⟩ := ltr_rg (h m (by omega))
    rw [wac, vls] at hh; omega
  | m + 1, c :: ds, h, hd => by
    obtain ⟨h0, h1, h2⟩ := ltr_rg (h m (by omega))
    have hc := hd c (List.mem_cons_self ..)
    have ih := spw_wac m ds (fun k hk => h k (by omega)) (fun c hc => hd c (List.mem_cons_of_mem _ hc))
    have ec : (Int32.ofNat c = T (b + m)) ↔ c = (T (b + m)).toNatClampNeg := by
      constructor
      · intro e; rw [← e, n_tn (by omega)]
      · intro e; rw [h0, ← e]
    rw [spw, Bool.and_eq_true, decide_eq_true_iff, ih, wac, vls, ec]
    omega
theorem spw_ltr {T : Nat → Int32} {b : Nat} : ∀ m ds, (∀ c, c ∈ ds → 97 ≤ c ∧ c ≤ 122) → spw T b (m + 1) ds = true → ltr T b = true
  | m, [], _, h => by cases h
  | 0, c :: ds, hd, h => by
    rw [spw, Bool.and_eq_true, decide_eq_true_iff, Nat.add_zero] at h
    have hc := hd c (List.mem_cons_self ..)
    rw [ltr, ← h.1, show decide (Int32.ofNat c < 97) = false from (n_dlt (b := 97) (by omega) (by omega)).trans (df (by omega)), show decide (122 < Int32.ofNat c) = false from (n_dlt (a := 122) (by omega) (by omega)).trans (df (by omega))]; rfl
  | m + 1, c :: ds, hd, h => by
    rw [spw, Bool.and_eq_true] at h
    exact spw_ltr m ds (fun c hc => hd c (List.mem_cons_of_mem _ hc)) h.2
def Wc (w : Nat) : Int64 := match w with
  | 0 => 27696064067762035
  | 1 => 8319400191629685864
  | 2 => 1885958245
  | 3 => 1852798053
  | 4 => 500135453028
  | 5 => 1919251316
  | _ => 448377483876
theorem wch_rg {w : Nat} (hw : w < 7) : (∀ c, c ∈ wch w → 97 ≤ c ∧ c ≤ 122) ∧ (wch w).length ≤ 8 ∧ Wc w = Int64.ofNat (vls (wch w)) ∧ vls (wch w) < 9223372036854775808 ∧ 0 < vls (wch w) := by
  have hc : w = 0 ∨ w = 1 ∨ w = 2 ∨ w = 3 ∨ w = 4 ∨ w = 5 ∨ w = 6 := by omega
  rcases hc with c | c | c | c | c | c | c <;> subst c <;> exact ⟨by decide, by decide, rfl, by decide, by decide⟩
/-- a token as a word -/
def yw (T : Nat → Int32) (n b : Nat) : Int64 := cond (decide (knd T n b = 2)) (wv T b (te T n b - b)) 0
theorem knd2 {T : Nat → Int32} {n b : Nat} (hb : b < n) : decide (knd T n b = 2) = ltr T b := by
  rw [knd, dt hb, cond_true]
  cases ltr T b with
  | true => rfl
  | false =>
    cases dgi T b with
    | true => cases decide (te T n b - b ≤ 2) <;> rfl
    | false => cases decide (T b = 59) <;> rfl
theorem te_ltr {T : Nat → Int32} {n b : Nat} (h : ltr T b = true) : ∀ k, k < te T n b - b → ltr T (b + k) = true := fun k hk => by
  have : te T n b = spn (ltr T) (n - (b + 1)) (b + 1) := by rw [te, h, cond_true]
  by_cases e : k = 0
  · rw [e]; exact h
  · exact spn_in (n - (b + 1)) (b + 1) (b + k) (by omega) (by rw [← this]; omega)
theorem yw_ok {T : Nat → Int32} {n b w : Nat} (hb : b < n) (hw : w < 7) : decide (lg_cmp (yw T n b) (Wc w) = 0) = spw T b (te T n b - b) (wch w) := by
  obtain ⟨w1, w2, w3, w4, w5⟩ := wch_rg hw
  have ht := te_rg (T := T) hb
  rw [show decide (lg_cmp (yw T n b) (Wc w) = 0) = decide (yw T n b = Wc w) from decide_eq_decide.mpr (lg_cmp_eq _ _), yw, knd2 hb, w3]
  cases hl : ltr T b with
  | false =>
    have e : spw T b (te T n b - b) (wch w) = false := by
      cases hs : spw T b (te T n b - b) (wch w) with
      | false => rfl
      | true =>
        rw [show te T n b - b = (te T n b - b - 1) + 1 by omega] at hs
        rw [spw_ltr _ _ w1 hs] at hl; cases hl
    rw [cond_false, e]
    exact df (fun c => by have := (un_eq (a := 0) (by omega) w4).mp c; omega)
  | true =>
    have hL := te_ltr (n := n) hl
    rw [cond_true, wv]
    by_cases h8 : te T n b - b ≤ 8
    · have hlt := wac_lt (T := T) (b := b) (te T n b - b - 1) (fun k hk => hL k (by omega))
      rw [show te T n b - b - 1 + 1 = te T n b - b by omega] at hlt
      have hp : 256 ^ (te T n b - b - 1) ≤ 256 ^ 7 := Nat.pow_le_pow_right (by omega) (by omega)
      have h7 : (256 : Nat) ^ 7 = 72057594037927936 := by decide
      rw [dt h8, cond_true, w64_wac _ hL, Bool.eq_iff_iff, decide_eq_true_iff, un_eq (by omega) w4, spw_wac _ _ hL (fun c hc => by have := w1 c hc; omega)]
    · rw [df h8, cond_false, spw_f (fun c => by omega)]
      exact df (fun c => by have := (un_eq (a := 0) (by omega) w4).mp c; omega)
end
