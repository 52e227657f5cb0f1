section
variable {X : Nat × (Nat → Int32)} {d : Nat} {al : List Nat} {D : Nat → Bool} {I : Nat → Nat → Int32} {L : Nat → Nat → Int64}
/-- over the sets that fit: how many; the fewest, the most beats; the beats of all; by beat, trodden; by beat and number -/
def fN (h : Nat → Bool) (n : Nat) : Nat := su (fun x => cond (h x) 1 0) n
def fE (h : Nat → Bool) (n : Nat) : Int32 := fo (fun x a => cond (h x) (mn a (Int32.ofNat (oN 12 x))) a) n 1000000
def fM (h : Nat → Bool) (n : Nat) : Int32 := fo (fun x a => cond (h x) (if Int32.ofNat (oN 12 x) < a then a else Int32.ofNat (oN 12 x)) a) n (-1)
def fU (h : Nat → Bool) (n : Nat) : Int32 := fo (fun x a => cond (h x) (a &&& Int32.ofNat x) a) n 4095
def fT (h : Nat → Bool) (t n : Nat) : Nat := su (fun x => cond (h x && tb (Int32.ofNat x) t) 1 0) n
def fS (h : Nat → Bool) (S : Nat → Nat → Nat) (t c n : Nat) : Nat := su (fun x => cond (h x && decide (S x t = c)) 1 0) n
theorem fN_s (h : Nat → Bool) (n : Nat) : fN h (n + 1) = fN h n + cond (h n) 1 0 := by rw [fN, su_s]; rfl
theorem fT_s (h : Nat → Bool) (t n : Nat) : fT h t (n + 1) = fT h t n + cond (h n && tb (Int32.ofNat n) t) 1 0 := by rw [fT, su_s]; rfl
theorem fS_s (h : Nat → Bool) (S : Nat → Nat → Nat) (t c n : Nat) : fS h S t c (n + 1) = fS h S t c n + cond (h n && decide (S n t = c)) 1 0 := by rw [fS, su_s]; rfl
theorem fE_s (h : Nat → Bool) (n : Nat) : fE h (n + 1) = cond (h n) (mn (fE h n) (Int32.ofNat (oN 12 n))) (fE h n) := by rw [fE, fo]; rfl
theorem fM_s (h : Nat → Bool) (n : Nat) : fM h (n + 1) = cond (h n) (if Int32.ofNat (oN 12 n) < fM h n then fM h n else Int32.ofNat (oN 12 n)) (fM h n) := by rw [fM, fo]; rfl
theorem fU_s (h : Nat → Bool) (n : Nat) : fU h (n + 1) = cond (h n) (fU h n &&& Int32.ofNat n) (fU h n) := by rw [fU, fo]; rfl
def lgW (I : Nat → Nat → Int32) (b s : Nat) : Nat → Nat → Nat := wS (bdO I b) (wn (scO I s))
def lgH (I : Nat → Nat → Int32) (b s l x : Nat) : Bool := hrd (lgO I l) (lgW I b s x) 0 (lgO I l).1
/-- what stands behind the sets below n -/
def llN (h : Nat → Bool) (S : Nat → Nat → Nat) (n : Nat) (K : Nat → Nat → Int32) : Prop :=
  K 81 52 = Int32.ofNat (fN h n) ∧ K 81 56 = fE h n ∧ K 81 57 = fM h n ∧ K 81 58 = fU h n ∧ (∀ t, t < 12 → K 110 t = Int32.ofNat (fT h t n)) ∧ (∀ t c, t < 12 → c < 7 → K 109 (7 * t + c) = Int32.ofNat (fS h S t c n)) ∧ ∀ x, x < n → K 108 x = b01 (h x)
def ldS (a j : Nat) : Prop := ctS a j ∨ a = 108
theorem ldP_up {K K' : Nat → Nat → Int32} {b s : Nat} (h : ldP I K b s) (e : ∀ a j, ¬ ldS a j → K' a j = K a j) : ldP I K' b s := by
  obtain ⟨z1, ⟨z2, z3, z4, z5, z6, z7⟩, z8, z9⟩ := h
  have q : ∀ a j, (a = 81 ∧ j < 30) ∨ a = 93 ∨ a = 94 → K' a j = K a j := fun a j h => e a j (by unfold ldS ctS; omega)
  exact ⟨z1.trans (fun a h1 h2 => by funext j; exact e a j (by unfold ldS ctS; omega)), ⟨(q 81 23 (by omega)).trans z2, (q 81 25 (by omega)).trans z3, (q 81 27 (by omega)).trans z4, (q 81 28 (by omega)).trans z5, (q 81 29 (by omega)).trans z6, fun p hp => (q 94 p (by omega)).trans (z7 p hp)⟩, (q 81 24 (by omega)).trans z8, fun t ht => (q 93 t (by omega)).trans (z9 t ht)⟩
theorem lgP_up {K K' : Nat → Nat → Int32} {l : Nat} (h : lgP I K l) (e : ∀ a j, a = 90 ∨ (a = 81 ∧ j = 51) → K' a j = K a j) : lgP I K' l := ⟨h.1, (e 81 51 (by omega)).trans h.2.1, by rw [← h.2.2]; funext j; exact e 90 j (by omega)⟩
/-- one set more -/
theorem c_logStep {m : Nat → Nat} {b s l n : Nat} {K : Nat → Nat → Int32} (o1 o2 o3 : Option pm_V) (g : rG I m) (hb : b < m 0) (hl : l < m 3) (hn : n < 4096) (hK : ldP I K b s) (hP : lgP I K l) (hN : llN (lgH I b s l) (lgW I b s) n K) :
    ∃ K', Rn X (d + 4) co_Mo_layLog (94, [some (vr 81), o1, o2, o3, some (vi (Int32.ofNat n))], [], pm_mm al D K L) = Rn X (d + 4) co_Mo_layLog (94, [some (vr 81), o1, o2, pm_nl o3, some (vi (Int32.ofNat (n + 1)))], [], pm_mm al D K' L) ∧ ldP I K' b s ∧ lgP I K' l ∧ llN (lgH I b s l) (lgW I b s) (n + 1) K' := by
  obtain ⟨gg, gn⟩ := lg_good g hl
  obtain ⟨K1, p1, p2, p3, p4, p5, p6⟩ := c_playN (X := X) (d := d + 1) (al := al) (D := D) (L := L) (n := n) g hb hK
  have hs : ∀ t, t < 12 → on (K1 97 t) = Int32.ofNat (lgW I b s n t) ∧ lgW I b s n t ≤ 6 := fun t ht => by
    rw [(p4 t ht).1]
    obtain ⟨w1, w2⟩ := wbits g hb (wn (scO I s)) n (t + 1)
    exact ⟨on_n (n := 6) (by omega) (fun k hk hc => by have := (w1 k hk).2.1 hc; omega), wS_le _ _ n t⟩
  have hP1 : lgP I K1 l := lgP_up hP (fun a j h => p2 a j (by omega) (by omega))
  have hh := c_isHeard (X := X) (d := d + 1) (al := al) (D := D) (L := L) gg gn hP1 hs
  have hh : Cl X (d + 4) 246 [vr 81] (pm_mm al D K1 L) = some (some (vi (b01 (lgH I b s l n))), pm_mm al D K1 L) := hh
  generalize hK2 : pm_up K1 108 n (b01 (lgH I b s l n)) = K2
  have k2F : ∀ a j, ¬ (a = 108 ∧ j = n) → K2 a j = K1 a j := fun a j h => by rw [← hK2, up_ne h]
  have k2F' : ∀ a j, ¬ (95 ≤ a ∧ a ≤ 100) → ¬ (a = 81 ∧ 37 ≤ j ∧ j ≤ 39) → ¬ (a = 108 ∧ j = n) → K2 a j = K a j := fun a j h1 h2 h3 => (k2F a j h3).trans (p2 a j h1 h2)
  have hl2 : ldP I K2 b s := ldP_up p3 (fun a j h => k2F a j (by unfold ldS at h; omega))
  have hP2 : lgP I K2 l := lgP_up hP1 (fun a j h => k2F a j (by omega))
  have v108 : K2 108 n = b01 (lgH I b s l n) := by rw [← hK2, up_eq]
  obtain ⟨n1, n2, n3, n4, n5, n6, n7⟩ := hN
  have st : Rn X (d + 4) co_Mo_layLog (94, [some (vr 81), o1, o2, o3, some (vi (Int32.ofNat n))], [], pm_mm al D K L) = cond (!lgH I b s l n) (Rn X (d + 4) co_Mo_layLog (136, [some (vr 81), o1, o2, o3, some (vi (Int32.ofNat n))], [], pm_mm al D K2 L)) (((Cl X (d + 4) 248 [vr 81, vi (Int32.ofNat n)] (pm_mm al D K2 L)).bind pm_av).bind (fun r => Rn X (d + 4) co_Mo_layLog (136, [some (vr 81), o1, o2, o3, some (vi (Int32.ofNat n))], [], r))) := by
    rw [sg_Mo_layLog_94, show decide ((4096 : Int32) ≤ Int32.ofNat n) = false from (n_dle (a := 4096) (by omega) (by omega)).trans (df (by omega)), cond_false, p1]
    simp only [Option.bind_some, pm_av]
    rw [sg_Mo_layLog_109, hh]
    simp only [Option.bind_some, pm_ai]
    have h01 : pm_01 (b01 (lgH I b s l n)) = true := by cases lgH I b s l n <;> rfl
    rw [sg_Mo_layLog_119, n_in (by omega), dt hn, h01, Bool.and_self, cond_true, cond_true, n_tn (by omega), hK2, v108, b01_ne]
  cases hc : lgH I b s l n with
  | false =>
    refine ⟨K2, ?_, hl2, hP2, ?_, ?_, ?_, ?_, fun t ht => ?_, fun t c ht hc7 => ?_, fun x hx => ?_⟩
    · rw [st, hc, Bool.not_false, cond_true, sg_Mo_layLog_136, n_s]
    · rw [k2F' _ _ (by omega) (by omega) (by omega), n1, fN_s, hc]; rfl
    · rw [k2F' _ _ (by omega) (by omega) (by omega), n2, fE_s, hc]; rfl
    · rw [k2F' _ _ (by omega) (by omega) (by omega), n3, fM_s, hc]; rfl
    · rw [k2F' _ _ (by omega) (by omega) (by omega), n4, fU_s, hc]; rfl
    · rw [k2F' _ _ (by omega) (by omega) (by omega), n5 t ht, fT_s, hc]; rfl
    · rw [k2F' _ _ (by omega) (by omega) (by omega), n6 t c ht hc7, fS_s, hc]; rfl
    · by_cases hxn : x = n
      · subst hxn; exact v108
      · rw [k2F' _ _ (by omega) (by omega) (by omega), n7 x (by omega)]
  | true =>
    have hs2 : ∀ t, t < 12 → on (K2 97 t) = Int32.ofNat (lgW I b s n t) ∧ lgW I b s n t ≤ 6 := fun t ht => by rw [k2F 97 t (by omega)]; exact hs t ht
    obtain ⟨K3, c1, c2, c3, c4, c5, c6, c7, c8⟩ := c_counts (X := X) (d := d + 1) (al := al) (D := D) (L := L) hn hs2
    refine ⟨K3, ?_, ldP_up hl2 (fun a j h => c2 a j (fun c => h (Or.inl c))), lgP_up hP2 (fun a j h => c2 a j (by unfold ctS; omega)), ?_, ?_, ?_, ?_, fun t ht => ?_, fun t c ht hc7 => ?_, fun x hx => ?_⟩
    · rw [st, hc, Bool.not_true, cond_false, c1]
      simp only [Option.bind_some, pm_av]
      rw [sg_Mo_layLog_136, n_s]
    · rw [c3, k2F' _ _ (by omega) (by omega) (by omega), n1, fN_s, hc, n_s]; rfl
    · rw [c4, k2F' _ _ (by omega) (by omega) (by omega), n2, fE_s, hc]; rfl
    · rw [c5, k2F' _ _ (by omega) (by omega) (by omega), n3, fM_s, hc]; rfl
    · rw [c6, k2F' _ _ (by omega) (by omega) (by omega), n4, fU_s, hc]; rfl
    · rw [c7 t ht, k2F' _ _ (by omega) (by omega) (by omega), n5 t ht, fT_s, hc, Bool.true_and]
      cases tb (Int32.ofNat n) t
      · exact Int32.add_zero _
      · exact n_s _
    · rw [c8 t c ht hc7, k2F' _ _ (by omega) (by omega) (by omega), n6 t c ht hc7, fS_s, hc, Bool.true_and]
      by_cases h : lgW I b s n t = c
      · rw [if_pos h, dt h]; exact n_s _
      · rw [if_neg h, df h]; exact Int32.add_zero _
    · rw [c2 108 x (by unfold ctS; omega)]
      by_cases hxn : x = n
      · subst hxn; exact v108
      · rw [k2F' _ _ (by omega) (by omega) (by omega), n7 x (by omega)]
end
