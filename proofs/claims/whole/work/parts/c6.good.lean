section
variable {X : Nat × (Nat → Int32)} {d : Nat} {al : List Nat} {D : Nat → Bool} {I : Nat → Nat → Int32} {L : Nat → Nat → Int64}
theorem mkr_0 {f : Nat × Nat} {ok : Bool} {c b : Nat} (hc : ¬ c = 0) (h : (mkr f ok c b).1 = 0) : ok = true ∧ f.1 = 0 := by
  rw [mkr, mkf] at h
  cases ok with
  | true => exact ⟨rfl, h⟩
  | false =>
    rw [cond_false] at h
    by_cases e : f.1 = 0
    · rw [dt e, cond_true] at h; exact absurd h hc
    · rw [df e, cond_false] at h; exact absurd h e
theorem rdn_good {T : Nat → Int32} {n w : Nat} : ∀ (r i p : Nat) (v : Nat → Nat) (f : Nat × Nat) (v' : Nat → Nat) (f' : Nat × Nat) (p' : Nat), rdn T n w r i p v f = .inr (v', f', p') → f'.1 = 0 → f.1 = 0 ∧ (∀ k, i ≤ k → k < i + r → rng w k (v' k) = true ∧ v' k < 100) ∧ ∀ k, k < i → v' k = v k
  | 0, i, p, v, f, v', f', p', h, h0 => by
    rw [rdn] at h
    cases h
    exact ⟨h0, fun k h1 h2 => absurd h2 (by omega), fun _ _ => rfl⟩
  | r + 1, i, p, v, f, v', f', p', h, h0 => by
    rw [rdn] at h
    cases hc : (decide (sk T n p < n) && isn T n (sk T n p)) with
    | false => rw [hc, cond_false] at h; cases h
    | true =>
      rw [hc, cond_true] at h
      rw [Bool.and_eq_true, decide_eq_true_iff] at hc
      obtain ⟨g1, g2, g3⟩ := rdn_good r (i + 1) _ _ _ v' f' p' h h0
      obtain ⟨k1, k2⟩ := mkr_0 (by omega) g1
      have ei : v' i = nvb T n (sk T n p) := by rw [g3 i (by omega), vu, if_pos rfl]
      refine ⟨k2, fun k h1 h2 => ?_, fun k hk => ?_⟩
      · by_cases e : k = i
        · subst e; rw [ei]; exact ⟨k1, nvb_lt hc.1 hc.2⟩
        · exact g2 k (by omega) (by omega)
      · rw [g3 k (by omega), vu, if_neg (by omega)]
theorem rng_b {w i v : Nat} {lo hi : Nat} (h : rng w i v = true) (hv : v < 100) (e1 : pm_sv 904 (w * 4 + i) = Int32.ofNat lo) (e2 : pm_sv 905 (w * 4 + i) = Int32.ofNat hi) (h1 : lo < 1000) (h2 : hi < 1000) : rg (Int32.ofNat v) lo hi := by
  rw [rng, Bool.and_eq_true, Bool.not_eq_true', decide_eq_false_iff_not, decide_eq_true_iff, e1, e2, n_lt (by omega) (by omega), n_le (by omega) (by omega)] at h
  rw [rg, n_ti (by omega)]; omega
/-- what was told without a fault is good -/
def GP (s ℓ : Nat) (P : Nat → Int32) : Prop := match s with
  | 0 => ℓ ≤ 6 ∧ rg (P 1) 1 99 ∧ rg (P 2) 0 9 ∧ rg (P 3) 0 20 ∧ rg (P 4) 0 12 ∧ ∀ p, p < ℓ → rg (P (5 + p)) 1 9 ∧ rg (P (11 + p)) 0 9 ∧ rg (P (17 + p)) 0 9 ∧ rg (P (23 + p)) 0 9
  | 1 => ℓ ≤ 8 ∧ ∀ k, k < ℓ → rg (P (1 + 3 * k)) 0 5 ∧ rg (P (2 + 3 * k)) 0 11 ∧ rg (P (3 + 3 * k)) 1 6
  | 2 => rg (P 0) 0 4095
  | _ => ℓ ≤ 8 ∧ ∀ k, k < ℓ → rg (P (1 + 2 * k)) 0 11 ∧ rg (P (2 + 2 * k)) 0 6
theorem set_or {x : Int32} {v : Nat} (h : rg x 0 4095) (hv : v ≤ 11) : rg (x ||| (1 <<< (Int32.ofNat v &&& 31))) 0 4095 := by
  have h1 : sma x := ⟨h.1, by have := h.2; omega⟩
  have h2 := sma_b (x := x ||| (1 <<< (Int32.ofNat v &&& 31))) (n := 12) (Nat.le_refl _) (fun k hk hb => by
    rw [tb_or, tb_shl (by omega) hk, Bool.or_eq_true, decide_eq_true_iff] at hb
    rcases hb with hb | hb
    · exact Nat.lt_of_not_le (fun c => by rw [tb_sma h1 c] at hb; cases hb)
    · omega)
  exact ⟨h2.1, by have := h2.2; omega⟩
theorem set_and {x y : Int32} (h : rg x 0 4095) : rg (x &&& y) 0 4095 := by
  have h1 : sma x := ⟨h.1, by have := h.2; omega⟩
  have h2 := sma_b (x := x &&& y) (n := 12) (Nat.le_refl _) (fun k hk hb => by
    rw [tb_and, Bool.and_eq_true] at hb
    exact Nat.lt_of_not_le (fun c => by rw [tb_sma h1 c] at hb; cases hb.1))
  exact ⟨h2.1, by have := h2.2; omega⟩
theorem rg_le {x : Int32} {v hi : Nat} (h : rg (Int32.ofNat v) 0 hi) (hv : v < 100) : v ≤ hi := by
  have := h.2; rw [n_ti (by omega)] at this; omega
theorem GP_step {w ℓ : Nat} {v : Nat → Nat} {P : Nat → Int32} (hw : w < 7) (g : GP (sow w) ℓ P) (hl : lno w = 0 ∨ ℓ + 1 ≤ lno w) (hv : ∀ k, k < nno w → rng w k (v k) = true ∧ v k < 100) : GP (sow w) (lnn w ℓ) (pay w ℓ v P) := by
  have hc : w = 0 ∨ w = 1 ∨ w = 2 ∨ w = 3 ∨ w = 4 ∨ w = 5 ∨ w = 6 := by omega
  rcases hc with c | c | c | c | c | c | c <;> subst c
  · obtain ⟨g1, g2, g3, g4, g5, g6⟩ := g
    have a0 := rng_b (lo := 1) (hi := 99) (hv 0 (by decide)).1 (hv 0 (by decide)).2 rfl rfl (by omega) (by omega)
    have a1 := rng_b (lo := 0) (hi := 9) (hv 1 (by decide)).1 (hv 1 (by decide)).2 rfl rfl (by omega) (by omega)
    have a2 := rng_b (lo := 0) (hi := 20) (hv 2 (by decide)).1 (hv 2 (by decide)).2 rfl rfl (by omega) (by omega)
    refine ⟨g1, ?_, ?_, ?_, ?_, fun p hp => ?_⟩
    · rw [pay, pu_ne (by omega), pu_ne (by omega), pu_eq]; exact a0
    · rw [pay, pu_ne (by omega), pu_eq]; exact a1
    · rw [pay, pu_eq]; exact a2
    · rw [pay, pu_ne (by omega), pu_ne (by omega), pu_ne (by omega)]; exact g5
    · obtain ⟨w1, w2, w3, w4⟩ := g6 p hp
      refine ⟨?_, ?_, ?_, ?_⟩ <;> rw [pay, pu_ne (by omega), pu_ne (by omega), pu_ne (by omega)] <;> assumption
  · obtain ⟨g1, g2, g3, g4, g5, g6⟩ := g
    have a0 := rng_b (lo := 0) (hi := 12) (hv 0 (by decide)).1 (hv 0 (by decide)).2 rfl rfl (by omega) (by omega)
    refine ⟨g1, by rw [pay, pu_ne (by omega)]; exact g2, by rw [pay, pu_ne (by omega)]; exact g3, by rw [pay, pu_ne (by omega)]; exact g4, by rw [pay, pu_eq]; exact a0, fun p hp => ?_⟩
    obtain ⟨w1, w2, w3, w4⟩ := g6 p hp
    refine ⟨?_, ?_, ?_, ?_⟩ <;> rw [pay, pu_ne (by omega)] <;> assumption
  · have hl6 : ℓ + 1 ≤ 6 := by rcases hl with h | h
                               · cases h
                               · exact h
    obtain ⟨g1, g2, g3, g4, g5, g6⟩ := g
    have a0 := rng_b (lo := 1) (hi := 9) (hv 0 (by decide)).1 (hv 0 (by decide)).2 rfl rfl (by omega) (by omega)
    have a1 := rng_b (lo := 0) (hi := 9) (hv 1 (by decide)).1 (hv 1 (by decide)).2 rfl rfl (by omega) (by omega)
    have a2 := rng_b (lo := 0) (hi := 9) (hv 2 (by decide)).1 (hv 2 (by decide)).2 rfl rfl (by omega) (by omega)
    have a3 := rng_b (lo := 0) (hi := 9) (hv 3 (by decide)).1 (hv 3 (by decide)).2 rfl rfl (by omega) (by omega)
    rw [show lnn 2 ℓ = ℓ + 1 from rfl, pay, dt (show ℓ < 6 by omega), cond_true]
    refine ⟨hl6, ?_, ?_, ?_, ?_, fun p hp => ?_⟩
    · rw [pu_ne (by omega), pu_ne (by omega), pu_ne (by omega), pu_ne (by omega)]; exact g2
    · rw [pu_ne (by omega), pu_ne (by omega), pu_ne (by omega), pu_ne (by omega)]; exact g3
    · rw [pu_ne (by omega), pu_ne (by omega), pu_ne (by omega), pu_ne (by omega)]; exact g4
    · rw [pu_ne (by omega), pu_ne (by omega), pu_ne (by omega), pu_ne (by omega)]; exact g5
    · by_cases e : p = ℓ
      · subst e
        refine ⟨?_, ?_, ?_, ?_⟩
        · rw [pu_ne (by omega), pu_ne (by omega), pu_ne (by omega), pu_eq]; exact a0
        · rw [pu_ne (by omega), pu_ne (by omega), pu_eq]; exact a1
        · rw [pu_ne (by omega), pu_eq]; exact a2
        · rw [pu_eq]; exact a3
      · obtain ⟨w1, w2, w3, w4⟩ := g6 p (by omega)
        refine ⟨?_, ?_, ?_, ?_⟩ <;> rw [pu_ne (by omega), pu_ne (by omega), pu_ne (by omega), pu_ne (by omega)] <;> assumption
  · have hl8 : ℓ + 1 ≤ 8 := by rcases hl with h | h
                               · cases h
                               · exact h
    obtain ⟨g1, g6⟩ := g
    have a0 := rng_b (lo := 0) (hi := 5) (hv 0 (by decide)).1 (hv 0 (by decide)).2 rfl rfl (by omega) (by omega)
    have a1 := rng_b (lo := 0) (hi := 11) (hv 1 (by decide)).1 (hv 1 (by decide)).2 rfl rfl (by omega) (by omega)
    have a2 := rng_b (lo := 1) (hi := 6) (hv 2 (by decide)).1 (hv 2 (by decide)).2 rfl rfl (by omega) (by omega)
    rw [show lnn 3 ℓ = ℓ + 1 from rfl, pay, dt (show ℓ < 8 by omega), cond_true]
    refine ⟨hl8, fun p hp => ?_⟩
    by_cases e : p = ℓ
    · subst e
      refine ⟨?_, ?_, ?_⟩
      · rw [pu_ne (by omega), pu_ne (by omega), pu_eq]; exact a0
      · rw [pu_ne (by omega), pu_eq]; exact a1
      · rw [pu_eq]; exact a2
    · obtain ⟨w1, w2, w3⟩ := g6 p (by omega)
      refine ⟨?_, ?_, ?_⟩ <;> rw [pu_ne (by omega), pu_ne (by omega), pu_ne (by omega)] <;> assumption
  · have a0 := rng_b (lo := 0) (hi := 11) (hv 0 (by decide)).1 (hv 0 (by decide)).2 rfl rfl (by omega) (by omega)
    have h11 := rg_le (x := 0) a0 (hv 0 (by decide)).2
    show rg (pay 4 ℓ v P 0) 0 4095
    rw [pay, pu_eq]; exact set_or g h11
  · show rg (pay 5 ℓ v P 0) 0 4095
    rw [pay, pu_eq]; exact set_and g
  · have hl8 : ℓ + 1 ≤ 8 := by rcases hl with h | h
                               · cases h
                               · exact h
    obtain ⟨g1, g6⟩ := g
    have a0 := rng_b (lo := 0) (hi := 11) (hv 0 (by decide)).1 (hv 0 (by decide)).2 rfl rfl (by omega) (by omega)
    have a1 := rng_b (lo := 0) (hi := 6) (hv 1 (by decide)).1 (hv 1 (by decide)).2 rfl rfl (by omega) (by omega)
    have ep : pay 6 ℓ v P = pu (pu P (1 + 2 * ℓ) (Int32.ofNat (v 0))) (2 + 2 * ℓ) (Int32.ofNat (v 1)) := by
      show cond (decide (ℓ < 8)) _ _ = _
      rw [dt (by omega), cond_true]
    rw [show lnn 6 ℓ = ℓ + 1 from rfl, ep]
    refine ⟨hl8, fun p hp => ?_⟩
    by_cases e : p = ℓ
    · subst e
      refine ⟨?_, ?_⟩
      · rw [pu_ne (by omega), pu_eq]; exact a0
      · rw [pu_eq]; exact a1
    · obtain ⟨w1, w2⟩ := g6 p (by omega)
      refine ⟨?_, ?_⟩ <;> rw [pu_ne (by omega), pu_ne (by omega)] <;> assumption
theorem lne_good {s n b ℓ : Nat} {T : Nat → Int32} {f : Nat × Nat} {w : Nat} {v : Nat → Nat} {f' : Nat × Nat} {p : Nat} (hs : s < 4) (h : lne s T n b ℓ f = .inr (w, v, f', p)) : sow w = s ∧ w < 7 ∧ (f'.1 = 0 → f.1 = 0 ∧ (lno w = 0 ∨ ℓ + 1 ≤ lno w) ∧ ∀ k, k < nno w → rng w k (v k) = true ∧ v k < 100) := by
  rw [lne] at h
  by_cases hw : wat s T b (te T n b - b) = 7
  · rw [dt hw, cond_true] at h; cases h
  · obtain ⟨s1, s2⟩ := sow_wat hs hw
    rw [df hw, cond_false] at h
    generalize wat s T b (te T n b - b) = w0 at s1 s2 h
    cases hr : rdn T n w0 (nno w0) 0 (te T n b) (fun _ => 0) (lnf w0 ℓ f b) with
    | inl q => rw [hr, lnx] at h; cases h
    | inr x =>
      obtain ⟨v0, f0, p0⟩ := x
      rw [hr, lnx] at h
      cases hc : (decide (sk T n p0 < n) && decide (T (sk T n p0) = 59)) with
      | false => rw [hc, cond_false] at h; cases h
      | true =>
        rw [hc, cond_true] at h
        cases h
        refine ⟨s1, s2, fun h0 => ?_⟩
        obtain ⟨g1, g2, _⟩ := rdn_good _ _ _ _ _ _ _ _ hr h0
        obtain ⟨k1, k2⟩ := mkr_0 (by omega) g1
        rw [Bool.or_eq_true, decide_eq_true_iff, decide_eq_true_iff] at k1
        exact ⟨k2, k1, fun k hk => g2 k (by omega) (by omega)⟩
theorem txt_good {s n : Nat} {T : Nat → Int32} (hs : s < 4) : ∀ (r b ℓ : Nat) (f : Nat × Nat) (P : Nat → Int32) (ℓ' : Nat) (f' : Nat × Nat) (P' : Nat → Int32), txt s T n r b ℓ f P = .inr (ℓ', f', P') → f'.1 = 0 → f.1 = 0 ∧ (GP s ℓ P → GP s ℓ' P')
  | 0, b, ℓ, f, P, ℓ', f', P', h, h0 => by rw [txt] at h; cases h; exact ⟨h0, fun g => g⟩
  | r + 1, b, ℓ, f, P, ℓ', f', P', h, h0 => by
    rw [txt] at h
    by_cases hb : b < n
    · rw [dt hb, cond_true] at h
      cases hl : lne s T n b ℓ f with
      | inl q => rw [hl, txx] at h; cases h
      | inr x =>
        obtain ⟨w, v, f0, p⟩ := x
        rw [hl, txx] at h
        obtain ⟨i1, i2⟩ := txt_good hs r _ _ _ _ _ _ _ h h0
        obtain ⟨l1, l2, l3⟩ := lne_good hs hl
        obtain ⟨m1, m2, m3⟩ := l3 i1
        exact ⟨m1, fun g => i2 (by rw [← l1] at g ⊢; exact GP_step l2 g m2 m3)⟩
    · rw [df hb, cond_false] at h; cases h; exact ⟨h0, fun g => g⟩
end
