section
variable {X : Nat × (Nat → Int32)} {d : Nat} {al : List Nat} {D : Nat → Bool} {I : Nat → Nat → Int32} {L : Nat → Nat → Int64}
/-- the reference's fault so far, its place ahead of q -/
def fR (f : Nat × Nat) (q : Nat) (I : Nat → Nat → Int32) : Prop := f.1 < 100 ∧ f.2 ≤ 600 ∧ (¬ f.1 = 0 → f.2 < q) ∧ I 81 17 = Int32.ofNat f.1 ∧ (¬ f.1 = 0 → I 81 18 = Int32.ofNat f.2)
theorem fR_up {J : Nat → Nat → Int32} {f : Nat × Nat} {q q' : Nat} (h : fR f q I) (hq : q ≤ q') (e : ∀ j, j = 17 ∨ j = 18 → J 81 j = I 81 j) : fR f q' J := ⟨h.1, h.2.1, fun c => Nat.lt_of_lt_of_le (h.2.2.1 c) hq, (e 17 (by omega)).trans h.2.2.2.1, fun c => (e 18 (by omega)).trans (h.2.2.2.2 c)⟩
theorem c_later {f : Nat × Nat} {c q : Nat} (h : fR f q I) (hc : 1 ≤ c) (hc2 : c < 100) (hq : q ≤ 600) : ∃ J, Cl X (d + 1) 179 [vr 81, vi (Int32.ofNat c), vi (Int32.ofNat q)] (pm_mm al D I L) = some (none, pm_mm al D J L) ∧ (∀ a j, ¬ (a = 81 ∧ (j = 17 ∨ j = 18)) → J a j = I a j) ∧ fR (mkf f c q) (q + 1) J := by
  obtain ⟨h1, h2, h3, h4, h5⟩ := h
  rw [Cl_s]
  show ∃ J, Rn X d co_Mo_later (0, [some (vr 81), some (vi (Int32.ofNat c)), some (vi (Int32.ofNat q))], [], pm_mm al D I L) = _ ∧ _
  rw [sg_Mo_later_0, h4, show decide (Int32.ofNat f.1 = 0) = decide (f.1 = 0) from n_deq (b := 0) (by omega) (by omega), sg_Mo_later_31, sg_Mo_later_41, sg_Mo_later_41, mkf]
  by_cases hf : f.1 = 0
  · rw [dt hf, cond_true, cond_true]
    exact ⟨_, rfl, fun a j hn => by rw [up_ne (by omega), up_ne (by omega)], hc2, hq, fun _ => by show q < q + 1; omega, by rw [up_ne (by omega), up_eq], fun _ => up_eq⟩
  · have h3' := h3 hf
    rw [df hf, cond_false, cond_false, h5 hf, n_dlt (by omega) (by omega), df (by omega), cond_false, n_deq (by omega) (by omega), df (by omega), cond_false]
    exact ⟨I, rfl, fun _ _ _ => rfl, h1, h2, fun _ => by omega, h4, h5⟩
theorem c_fails : Cl X (d + 1) 178 [vr 81] (pm_mm al D I L) = some (some (vi 0), pm_mm al D (pm_up I 81 16 (I 81 12)) L) := by
  rw [Cl_s]
  show Rn X d co_Mo_fails (0, [some (vr 81)], [], pm_mm al D I L) = _
  rw [sg_Mo_fails_0]
theorem knd3 {T : Nat → Int32} {n b : Nat} : decide (knd T n b = 3) = (decide (b < n) && isn T n b) := by
  rw [knd, isn]
  cases decide (b < n) with
  | false => rfl
  | true =>
    rw [cond_true, Bool.true_and]
    cases hd : dgi T b with
    | true =>
      rw [dgi_ltr hd, cond_false, cond_true, Bool.true_and]
      cases decide (te T n b - b ≤ 2) <;> rfl
    | false =>
      rw [Bool.false_and]
      cases ltr T b with
      | true => rfl
      | false => cases decide (T b = 59) <;> rfl
theorem in_rng {w i v : Nat} : (if pm_sv 904 (w * 4 + i) ≤ Int32.ofNat v ∧ Int32.ofNat v ≤ pm_sv 905 (w * 4 + i) then (1 : Int32) else 0) = b01 (rng w i v) := by
  rw [rng]
  by_cases h1 : Int32.ofNat v < pm_sv 904 (w * 4 + i)
  · rw [dt h1, if_neg (fun c => Int32.not_lt.mpr c.1 h1)]; rfl
  · by_cases h2 : Int32.ofNat v ≤ pm_sv 905 (w * 4 + i)
    · rw [df h1, dt h2, if_pos ⟨Int32.not_lt.mp h1, h2⟩]; rfl
    · rw [df h1, df h2, if_neg (fun c => h2 c.2)]; rfl
def tksR (a j : Nat) : Prop := a = 81 ∧ (j = 10 ∨ j = 12 ∨ j = 13 ∨ j = 14 ∨ j = 16 ∨ j = 17 ∨ j = 18 ∨ j = 22)
theorem knd_le (T : Nat → Int32) (n b : Nat) : knd T n b ≤ 4 := by
  rw [knd]
  cases decide (b < n) with
  | false => show 0 ≤ 4; omega
  | true =>
    rw [cond_true]
    cases ltr T b with
    | true => show 2 ≤ 4; omega
    | false =>
      rw [cond_false]
      cases dgi T b with
      | true =>
        rw [cond_true]
        cases decide (te T n b - b ≤ 2)
        · show 1 ≤ 4; omega
        · show 3 ≤ 4; omega
      | false =>
        rw [cond_false]
        cases decide (T b = 59)
        · show 1 ≤ 4; omega
        · show 4 ≤ 4; omega
/-- one number taken by the reference -/
theorem c_take {T : Nat → Int32} {n b w i : Nat} {f : Nat × Nat} (h : tpM I T n) (hb : b ≤ n) (hw : w < 7) (hi : i < 4) (ht : TK T n b I L) (hf : fR f b I) (hg : f.1 = 0 → I 81 22 = 1) :
    ((decide (b < n) && isn T n b) = false → Cl X (d + 3) 180 [vr 81, vi (Int32.ofNat i), vi (pm_sv 904 (w * 4 + i)), vi (pm_sv 905 (w * 4 + i))] (pm_mm al D I L) = some (some (vi 0), pm_mm al D (pm_up I 81 16 (Int32.ofNat b)) L))
    ∧ ((decide (b < n) && isn T n b) = true → ∃ J M, Cl X (d + 3) 180 [vr 81, vi (Int32.ofNat i), vi (pm_sv 904 (w * 4 + i)), vi (pm_sv 905 (w * 4 + i))] (pm_mm al D I L) = some (some (vi 1), pm_mm al D J M) ∧ (∀ a j, ¬ tksR a j → ¬ (a = 92 ∧ j = i) → J a j = I a j) ∧ (∀ a j, ¬ (a = 81 ∧ j = 15) → M a j = L a j) ∧ J 92 i = Int32.ofNat (nvb T n b) ∧ TK T n (sk T n (te T n b)) J M ∧ fR (mkr f (rng w i (nvb T n b)) 2 b) (sk T n (te T n b)) J ∧ ((mkr f (rng w i (nvb T n b)) 2 b).1 = 0 → J 81 22 = 1)) := by
  have hn := h.2.1
  obtain ⟨t12, t10, t13, t14, t15⟩ := ht
  have hk4 := knd_le T n b
  rw [Cl_s]
  have s0 : Rn X (d + 2) co_Mo_take (0, [some (vr 81), some (vi (Int32.ofNat i)), some (vi (pm_sv 904 (w * 4 + i))), some (vi (pm_sv 905 (w * 4 + i)))], [], pm_mm al D I L) = cond (decide (b < n) && isn T n b) (((Cl X (d + 2) 165 [vi (I 81 14), vi (pm_sv 904 (w * 4 + i)), vi (pm_sv 905 (w * 4 + i))] (pm_mm al D (pm_up I 92 i (I 81 14)) L)).bind pm_ai).bind (fun r => Rn X (d + 2) co_Mo_take (32, [some (vr 81), some (vi (Int32.ofNat i)), some (vi (pm_sv 904 (w * 4 + i))), some (vi (pm_sv 905 (w * 4 + i)))], [vi r.1], r.2))) (some (some (vi 0), pm_mm al D (pm_up I 81 16 (Int32.ofNat b)) L)) := by
    rw [sg_Mo_take_0, t13, show decide (Int32.ofNat (knd T n b) = 3) = decide (knd T n b = 3) from n_deq (b := 3) (by omega) (by omega), knd3, n_in (by omega), dt hi, cond_true, n_tn (by omega), c_fails (d := d + 1)]
    simp only [Option.bind_some, pm_ai]
    rw [sg_Mo_take_12, show pm_01 0 = true from rfl, cond_true, t12]
  refine ⟨fun c => ?_, fun c => ?_⟩
  · show Rn X (d + 2) co_Mo_take (0, [some (vr 81), some (vi (Int32.ofNat i)), some (vi (pm_sv 904 (w * 4 + i))), some (vi (pm_sv 905 (w * 4 + i)))], [], pm_mm al D I L) = _
    rw [s0, c, cond_false]
  · have c' := c
    rw [Bool.and_eq_true, decide_eq_true_iff] at c'
    have hbn := c'.1
    obtain ⟨u1, u2⟩ := te_rg (T := T) hbn
    have e14 : I 81 14 = Int32.ofNat (nvb T n b) := t14 (of_decide_eq_true (by rw [knd3]; exact c))
    have e10 : I 81 10 = Int32.ofNat (te T n b) := by rw [t10, dt hbn, cond_true]
    show ∃ J M, Rn X (d + 2) co_Mo_take (0, [some (vr 81), some (vi (Int32.ofNat i)), some (vi (pm_sv 904 (w * 4 + i))), some (vi (pm_sv 905 (w * 4 + i)))], [], pm_mm al D I L) = _ ∧ _
    rw [s0, c, cond_true, c_in, e14, in_rng]
    simp only [Option.bind_some, pm_ai]
    rw [sg_Mo_take_32, b01_ne]
    generalize hK : pm_up I 92 i (Int32.ofNat (nvb T n b)) = K
    have k1 : ∀ a j, ¬ (a = 92 ∧ j = i) → K a j = I a j := fun a j hh => by rw [← hK]; exact up_ne hh
    have k92 : K 92 i = Int32.ofNat (nvb T n b) := by rw [← hK]; exact up_eq
    obtain ⟨g1, g2⟩ := sk_rg (T := T) (n := n) (p := te T n b) u2
    have fin : ∀ (J0 : Nat → Nat → Int32), (∀ a j, ¬ (a = 81 ∧ (j = 17 ∨ j = 18 ∨ j = 22)) → J0 a j = K a j) → fR (mkr f (rng w i (nvb T n b)) 2 b) (b + 1) J0 → ((mkr f (rng w i (nvb T n b)) 2 b).1 = 0 → J0 81 22 = 1) → ∃ J M, Rn X (d + 2) co_Mo_take (49, [some (vr 81), some (vi (Int32.ofNat i)), some (vi (pm_sv 904 (w * 4 + i))), some (vi (pm_sv 905 (w * 4 + i)))], [], pm_mm al D J0 L) = some (some (vi 1), pm_mm al D J M) ∧ (∀ a j, ¬ tksR a j → ¬ (a = 92 ∧ j = i) → J a j = I a j) ∧ (∀ a j, ¬ (a = 81 ∧ j = 15) → M a j = L a j) ∧ J 92 i = Int32.ofNat (nvb T n b) ∧ TK T n (sk T n (te T n b)) J M ∧ fR (mkr f (rng w i (nvb T n b)) 2 b) (sk T n (te T n b)) J ∧ ((mkr f (rng w i (nvb T n b)) 2 b).1 = 0 → J 81 22 = 1) := fun J0 hj hfr hgd => by
      obtain ⟨J, M, c1, c2, c3, c4⟩ := c_token (X := X) (d := d) (al := al) (D := D) (I := J0) (L := L) (T := T) (n := n) (p := te T n b) (tpM_up h (fun a j hh => by rw [hj a j (by omega), k1 a j (by omega)])) u2 (by rw [hj _ _ (by omega), k1 _ _ (by omega)]; exact e10)
      refine ⟨J, M, ?_, fun a j h1 h2 => by unfold tksR at h1; rw [c2 a j (by omega), hj a j (by omega), k1 a j h2], c3, by rw [c2 _ _ (by omega), hj _ _ (by omega)]; exact k92, c4, fR_up hfr (by omega) (fun j hh => c2 _ _ (by omega)), fun hz => by rw [c2 _ _ (by omega)]; exact hgd hz⟩
      rw [sg_Mo_take_49, c1]
      simp only [Option.bind_some, pm_av]
      rw [sg_Mo_take_53]
    cases hr : rng w i (nvb T n b) with
    | true =>
      rw [hr] at fin
      obtain ⟨J, M, f1⟩ := fin K (fun _ _ _ => rfl) (by rw [mkr, cond_true]; exact fR_up hf (by omega) (fun j hh => k1 _ _ (by omega))) (fun hz => by rw [k1 _ _ (by omega)]; exact hg (by rw [mkr, cond_true] at hz; exact hz))
      exact ⟨J, M, by rw [Bool.not_true, cond_false]; exact f1.1, f1.2⟩
    | false =>
      rw [hr] at fin
      obtain ⟨J0, l1, l2, l3⟩ := c_later (X := X) (d := d + 1) (al := al) (D := D) (L := L) (c := 2) (q := b) (fR_up hf (Nat.le_refl b) (fun j hh => k1 _ _ (by omega))) (by omega) (by omega) (by omega)
      have l1 : Cl X (d + 2) 179 [vr 81, vi 2, vi (Int32.ofNat b)] (pm_mm al D K L) = some (none, pm_mm al D J0 L) := l1
      obtain ⟨J, M, f1⟩ := fin (pm_up J0 81 22 0) (fun a j hh => by rw [up_ne (by omega), l2 a j (by omega)]) (by rw [mkr, cond_false]; exact fR_up l3 (Nat.le_refl _) (fun j hh => up_ne (by omega))) (fun hz => by
        exfalso
        have := mkr_0 (by omega) hz
        cases this.1)
      refine ⟨J, M, ?_, f1.2⟩
      rw [Bool.not_false, cond_true, k1 81 12 (by omega), t12, l1]
      simp only [Option.bind_some, pm_av]
      rw [sg_Mo_take_44]
      exact f1.1
/-- the numbers of a line: the reference -/
theorem c_takes {T : Nat → Int32} {n w : Nat} (hw : w < 7) (F : Nat → pm_M → Option pm_R) (hF : ∀ i, i < nno w → ∀ (J J' : Nat → Nat → Int32) (M M' : Nat → Nat → Int64) (u : Int32), Cl X (d + 3) 180 [vr 81, vi (Int32.ofNat i), vi (pm_sv 904 (w * 4 + i)), vi (pm_sv 905 (w * 4 + i))] (pm_mm al D J M) = some (some (vi u), pm_mm al D J' M') → F i (pm_mm al D J M) = cond (decide (u = 0)) (some (some (vi 0), pm_mm al D J' M')) (F (i + 1) (pm_mm al D J' M'))) : ∀ (r i p : Nat) (v : Nat → Nat) (f : Nat × Nat) (J : Nat → Nat → Int32) (M : Nat → Nat → Int64), i + r = nno w → p ≤ n → tpM J T n → TK T n (sk T n p) J M → fR f (sk T n p) J → (f.1 = 0 → J 81 22 = 1) → (∀ k, k < i → J 92 k = Int32.ofNat (v k)) →
    match rdn T n w r i p v f with
    | .inl q => ∃ J' M', F i (pm_mm al D J M) = some (some (vi 0), pm_mm al D J' M') ∧ J' 81 16 = Int32.ofNat q ∧ (∀ a j, ¬ a = 81 → ¬ a = 92 → J' a j = J a j) ∧ ∀ a j, ¬ (a = 81 ∧ j = 15) → M' a j = M a j
    | .inr (v', f', p') => ∃ J' M', F i (pm_mm al D J M) = F (nno w) (pm_mm al D J' M') ∧ p' ≤ n ∧ p ≤ p' ∧ (∀ a j, ¬ tksR a j → ¬ a = 92 → J' a j = J a j) ∧ (∀ a j, ¬ (a = 81 ∧ j = 15) → M' a j = M a j) ∧ TK T n (sk T n p') J' M' ∧ fR f' (sk T n p') J' ∧ (f'.1 = 0 → J' 81 22 = 1) ∧ ∀ k, k < nno w → J' 92 k = Int32.ofNat (v' k)
  | 0, i, p, v, f, J, M, hi, hp, hT, ht, hf, hg, hv => by
    rw [rdn]
    have e : i = nno w := by omega
    subst e
    exact ⟨J, M, rfl, hp, Nat.le_refl _, fun _ _ _ _ => rfl, fun _ _ _ => rfl, ht, hf, hg, hv⟩
  | r + 1, i, p, v, f, J, M, hi, hp, hT, ht, hf, hg, hv => by
    obtain ⟨s1, s2⟩ := sk_rg (T := T) hp
    have h5 := (sv_lno hw).2.2.2.2
    obtain ⟨n1, n2⟩ := c_take (X := X) (d := d) (al := al) (D := D) (I := J) (L := M) (w := w) (i := i) hT s2 hw (by omega) ht hf hg
    rw [rdn]
    cases hc : (decide (sk T n p < n) && isn T n (sk T n p)) with
    | false =>
      rw [cond_false]
      refine ⟨pm_up J 81 16 (Int32.ofNat (sk T n p)), M, ?_, up_eq, fun a j h1 h2 => up_ne (by omega), fun _ _ _ => rfl⟩
      rw [hF i (by omega) _ _ _ _ _ (n1 hc), show decide ((0 : Int32) = 0) = true from rfl, cond_true]
    | true =>
      rw [cond_true]
      obtain ⟨K, N, k1, k2, k3, k4, k5, k6, k7⟩ := n2 hc
      rw [Bool.and_eq_true, decide_eq_true_iff] at hc
      obtain ⟨u1, u2⟩ := te_rg (T := T) hc.1
      have ih := c_takes hw F hF r (i + 1) (te T n (sk T n p)) (vu v i (nvb T n (sk T n p))) (mkr f (rng w i (nvb T n (sk T n p))) 2 (sk T n p)) K N (by omega) u2 (tpM_up hT (fun a j hh => k2 a j (by unfold tksR; omega) (by omega))) k5 k6 k7 (fun k hk => by
        unfold vu
        by_cases e : k = i
        · rw [if_pos e, e]; exact k4
        · rw [if_neg e, k2 _ _ (by unfold tksR; omega) (by omega)]; exact hv k (by omega))
      have st : F i (pm_mm al D J M) = F (i + 1) (pm_mm al D K N) := by
        rw [hF i (by omega) _ _ _ _ _ k1, show decide ((1 : Int32) = 0) = false from rfl, cond_false]
      rw [st]
      revert ih
      cases rdn T n w r (i + 1) (te T n (sk T n p)) (vu v i (nvb T n (sk T n p))) (mkr f (rng w i (nvb T n (sk T n p))) 2 (sk T n p)) with
      | inl q =>
        intro ih
        obtain ⟨J', M', c1, c2, c3, c4⟩ := ih
        exact ⟨J', M', c1, c2, fun a j h1 h2 => by rw [c3 a j h1 h2, k2 a j (by unfold tksR; omega) (by omega)], fun a j hh => by rw [c4 a j hh, k3 a j hh]⟩
      | inr x =>
        obtain ⟨v', f', p'⟩ := x
        intro ih
        obtain ⟨J', M', c1, c2, c3, c4, c5, c6, c7, c8, c9⟩ := ih
        exact ⟨J', M', c1, c2, by omega, fun a j h1 h2 => by rw [c4 a j h1 h2, k2 a j h1 (by omega)], fun a j hh => by rw [c5 a j hh, k3 a j hh], c6, c7, c8, c9⟩
end
