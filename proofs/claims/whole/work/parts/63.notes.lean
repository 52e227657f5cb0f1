section
variable {X : Nat × (Nat → Int32)} {d : Nat} {al : List Nat} {D : Nat → Bool} {I : Nat → Nat → Int32} {L : Nat → Nat → Int64}
/-- a score: how many notes; their pipes, beats, lengths -/
abbrev SC : Type := Nat × (Nat → Nat) × (Nat → Nat) × (Nat → Nat)
def scO (I : Nat → Nat → Int32) (s : Nat) : SC := ((I 88 (25 * s)).toNatClampNeg, fun k => (I 88 (25 * s + 1 + 3 * k + 0)).toNatClampNeg, fun k => (I 88 (25 * s + 1 + 3 * k + 1)).toNatClampNeg, fun k => (I 88 (25 * s + 1 + 3 * k + 2)).toNatClampNeg)
def scG (S : SC) : Prop := S.1 ≤ 8 ∧ ∀ k, k < S.1 → S.2.1 k < 6 ∧ 1 ≤ S.2.2.2 k ∧ S.2.2.2 k ≤ 6 ∧ S.2.2.1 k + S.2.2.2 k ≤ 12
/-- a told score of the reference is good -/
def gS (I : Nat → Nat → Int32) (s : Nat) : Prop := scG (scO I s) ∧ 0 ≤ I 88 (25 * s) ∧ ∀ k, k < (scO I s).1 → 0 ≤ I 88 (25 * s + 1 + 3 * k + 0) ∧ 0 ≤ I 88 (25 * s + 1 + 3 * k + 1) ∧ 0 ≤ I 88 (25 * s + 1 + 3 * k + 2)
def wn1 (S : SC) (t k : Nat) (a : Int32) : Int32 := if S.2.2.1 k ≤ t ∧ t < S.2.2.1 k + S.2.2.2 k then a ||| (1 <<< (Int32.ofNat (S.2.1 k) &&& 31)) else a
def wn (S : SC) (t : Nat) : Int32 := fo (wn1 S t) S.1 0
theorem ups_ups {α : Type} (f : Nat → Nat → α) (a : Nat) (g h : Nat → α) : pm_ups (pm_ups f a g) a h = pm_ups f a h := by
  funext b k; simp only [pm_ups]; split <;> rfl
theorem c_layNotes {s : Nat} (hs : s < 8) (e : I 81 24 = Int32.ofNat s) (g : gS I s) : Cl X (d + 3) 203 [vr 81] (pm_mm al D I L) = some (none, pm_mm al D (pm_ups I 93 (fun t => if t < 12 then wn (scO I s) t else I 93 t)) L) := by
  obtain ⟨⟨g1, g2⟩, g3, g4⟩ := g
  rw [Cl_s]
  show Rn X (d + 2) co_Mo_layNotes (0, [some (vr 81), none], [], pm_mm al D I L) = _
  have eN : I 88 (25 * s) = Int32.ofNat (scO I s).1 := n_of g3
  simp only [sg_Mo_layNotes_0, c_noNotes, Option.bind_some, pm_av, sg_Mo_layNotes_4]
  have h : ∀ n k, k + n = (scO I s).1 → Rn X (d + 2) co_Mo_layNotes (6, [some (vr 81), some (vi (Int32.ofNat k))], [], pm_mm al D (pm_ups I 93 (fun t => if t < 12 then fo (wn1 (scO I s) t) k 0 else I 93 t)) L) = some (none, pm_mm al D (pm_ups I 93 (fun t => if t < 12 then wn (scO I s) t else I 93 t)) L) := by
    intro n
    induction n with
    | zero =>
      intro k hk
      have hk : k = (scO I s).1 := by omega
      rw [sg_Mo_layNotes_6, c_notes (I := pm_ups I 93 (fun t => if t < 12 then fo (wn1 (scO I s) t) k 0 else I 93 t)) hs e]
      simp only [Option.bind_some, pm_ai, sg_Mo_layNotes_11]
      have h0 : decide ((pm_ups I 93 (fun t => if t < 12 then fo (wn1 (scO I s) t) k 0 else I 93 t)) 88 (25 * s) ≤ Int32.ofNat k) = true := by
        rw [show pm_ups I 93 (fun t => if t < 12 then fo (wn1 (scO I s) t) k 0 else I 93 t) 88 (25 * s) = I 88 (25 * s) from rfl, eN, hk]
        exact decide_eq_true (Int32.le_refl _)
      rw [h0, cond_true, hk]; rfl
    | succ n ih =>
      intro k hk
      have hkN : k < (scO I s).1 := by omega
      obtain ⟨q1, q2, q3, q4⟩ := g2 k hkN
      obtain ⟨r1, r2, r3⟩ := g4 k hkN
      have h0 : decide (Int32.ofNat (scO I s).1 ≤ Int32.ofNat k) = false := (n_dle (by omega) (by omega)).trans (decide_eq_false (by omega))
      have hl := c_layNote (X := X) (d := d) (al := al) (D := D) (L := L) (I := pm_ups I 93 (fun t => if t < 12 then fo (wn1 (scO I s) t) k 0 else I 93 t)) (s := s) (k := k) (lt := 0) hs (by omega) e (n_of r1) (n_of r2) (n_of r3) (show (scO I s).2.2.1 k < 12 by omega) q3 (by omega)
      have hl : Cl X (d + 2) 202 [vr 81, vi (Int32.ofNat k), vi 0] _ = _ := hl
      rw [sg_Mo_layNotes_6, c_notes (I := pm_ups I 93 (fun t => if t < 12 then fo (wn1 (scO I s) t) k 0 else I 93 t)) hs e]
      simp only [Option.bind_some, pm_ai, sg_Mo_layNotes_11]
      rw [show pm_ups I 93 (fun t => if t < 12 then fo (wn1 (scO I s) t) k 0 else I 93 t) 88 (25 * s) = I 88 (25 * s) from rfl, eN, h0, cond_false, hl]
      simp only [Option.bind_some, pm_av, sg_Mo_layNotes_20, n_s]
      rw [← ih (k + 1) (by omega), ups_ups]
      refine congrArg (fun g => Rn X (d + 2) co_Mo_layNotes (6, [some (vr 81), some (vi (Int32.ofNat (k + 1)))], [], pm_mm al D (pm_ups I 93 g) L)) (funext fun j => ?_)
      show (if (scO I s).2.2.1 k + 0 ≤ j ∧ j < (scO I s).2.2.1 k + 0 + (scO I s).2.2.2 k ∧ j < 12 then (if j < 12 then fo (wn1 (scO I s) j) k 0 else I 93 j) ||| (1 <<< (Int32.ofNat ((scO I s).2.1 k) &&& 31)) else (if j < 12 then fo (wn1 (scO I s) j) k 0 else I 93 j)) = (if j < 12 then wn1 (scO I s) j k (fo (wn1 (scO I s) j) k 0) else I 93 j)
      by_cases hj : j < 12
      · simp only [hj, if_true, and_true, Nat.add_zero, wn1]
      · simp only [hj, and_false, if_false]
  exact h (scO I s).1 0 (Nat.zero_add _)
/-- how many are silent in all; whether none is -/
def sil1 (g : Nat → Int32) (t : Nat) (n : Int32) : Int32 := n + on (g t)
theorem c_silentAll : Cl X (d + 3) 211 [vr 81] (pm_mm al D I L) = some (some (vi (fo (sil1 (I 98)) 12 0)), pm_mm al D I L) := by
  rw [Cl_s]
  show Rn X (d + 2) co_Mo_silentAll (0, [some (vr 81), none, none], [], pm_mm al D I L) = _
  rw [sg_Mo_silentAll_0]
  have h := lf 12 (fun k n => Rn X (d + 2) co_Mo_silentAll (4, [some (vr 81), some (vi n), some (vi (Int32.ofNat k))], [], pm_mm al D I L)) (sil1 (I 98)) (fun k n hk => by
    have h0 : decide ((12 : Int32) ≤ Int32.ofNat k) = false := (n_dle (a := 12) (by decide) (by omega)).trans (decide_eq_false (by omega))
    show Rn X (d + 2) co_Mo_silentAll _ = Rn X (d + 2) co_Mo_silentAll _
    rw [sg_Mo_silentAll_4, h0, cond_false, n_in (by omega), decide_eq_true hk, cond_true, n_tn (by omega), c_ones]
    simp only [Option.bind_some, pm_ai, sg_Mo_silentAll_20, n_s, sil1]) 0
  exact h.trans (by rw [sg_Mo_silentAll_4]; rfl)
def well (g : Nat → Int32) : Nat → Nat → Bool
  | _, 0 => true
  | k, n + 1 => decide (g k = 0) && well g (k + 1) n
theorem c_isWell : Cl X (d + 1) 212 [vr 81] (pm_mm al D I L) = some (some (vi (b01 (well (I 98) 0 12))), pm_mm al D I L) := by
  rw [Cl_s]
  show Rn X d co_Mo_isWell (0, [some (vr 81), none], [], pm_mm al D I L) = _
  rw [sg_Mo_isWell_0]
  suffices h : ∀ n k, k + n = 12 → Rn X d co_Mo_isWell (2, [some (vr 81), some (vi (Int32.ofNat k))], [], pm_mm al D I L) = some (some (vi (b01 (well (I 98) k n))), pm_mm al D I L) from h 12 0 rfl
  intro n
  induction n with
  | zero => intro k hk; have : k = 12 := by omega
            subst this; rw [sg_Mo_isWell_2]; rfl
  | succ n ih =>
    intro k hk
    have h0 : decide ((12 : Int32) ≤ Int32.ofNat k) = false := (n_dle (a := 12) (by decide) (by omega)).trans (decide_eq_false (by omega))
    rw [sg_Mo_isWell_2, h0, cond_false, n_in (by omega), decide_eq_true (by omega), cond_true, n_tn (by omega), n_s, well]
    cases decide (I 98 k = 0) with
    | true => exact ih (k + 1) (by omega)
    | false => rfl
/-- the numbers behind a beat -/
def bhd (s : PS) (what : Int32) : Int32 := cond (decide (what = 0)) s.1 (cond (decide (what = 1)) s.2.1 (cond (decide (what = 2)) s.2.2.2.1 (cond (decide (what = 3)) s.2.2.2.2.1 (cond (decide (what = 4)) s.2.2.2.2.2.1 (cond (decide (what = 5)) s.2.2.1 (-1))))))
theorem c_ofPlayed {B : PB} {w : Nat → Int32} {tr : Nat → Int32 → Bool} {t : Nat} (what : Int32) (ht : t < 12) (h : plR B w tr 12 I) : Cl X (d + 1) 213 [vr 81, vi (Int32.ofNat t), vi what] (pm_mm al D I L) = some (some (vi (bhd (pst B w tr (t + 1)) what)), pm_mm al D I L) := by
  rw [Cl_s]
  show Rn X d co_Mo_ofPlayed (0, [some (vr 81), some (vi (Int32.ofNat t)), some (vi what)], [], pm_mm al D I L) = _
  obtain ⟨h1, h2, h3, h4, h5, h6⟩ := h.1 t ht
  have hin : pm_in (Int32.ofNat t) 12 = true := (n_in (by omega)).trans (decide_eq_true ht)
  rw [sg_Mo_ofPlayed_0]
  simp only [hin, cond_true, n_tn (show t < 2147483648 by omega), h1, h2, h3, h4, h5, h6, bhd]
  cases decide (what = 0) <;> cases decide (what = 1) <;> cases decide (what = 2) <;> cases decide (what = 3) <;> cases decide (what = 4) <;> cases decide (what = 5) <;> rfl
end
