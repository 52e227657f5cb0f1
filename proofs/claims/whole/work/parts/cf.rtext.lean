section
variable {X : Nat × (Nat → Int32)} {d : Nat} {al : List Nat} {D : Nat → Bool} {I : Nat → Nat → Int32} {L : Nat → Nat → Int64}
theorem c_noteLine {T : Nat → Int32} {n b ℓ : Nat} {f : Nat × Nat} {P : Nat → Int32} (h : LW T n b 1 ℓ f P I L) :
    match lnr 1 T n b ℓ f with
    | .inl q => ∃ J M, Cl X (d + 5) 185 [vr 81, vl (yw T n b), vi (Int32.ofNat b)] (pm_mm al D I L) = some (some (vi 0), pm_mm al D J M) ∧ lnB T n q I J L M
    | .inr (w, v, f', p) => ∃ J M, Cl X (d + 5) 185 [vr 81, vl (yw T n b), vi (Int32.ofNat b)] (pm_mm al D I L) = some (some (vi 1), pm_mm al D J M) ∧ lnG T n b 1 w ℓ v f' p P I J L M := by
  have hb := h.2.1
  have y3 : decide (lg_cmp (yw T n b) 1852798053 = 0) = spw T b (te T n b - b) (wch 3) := yw_ok (w := 3) hb (by omega)
  rw [Cl_s]
  have sh : ∀ r, (cond (Nat.ble (pm_wd [vr 81, vl (yw T n b), vi (Int32.ofNat b)]) (pm_mx 185)) (Rn X (d + 4) (pm_co 185) (0, pm_ent (pm_mx 185) [vr 81, vl (yw T n b), vi (Int32.ofNat b)], [], pm_mm al D I L)) none = r) = (Rn X (d + 4) co_Mo_noteLine (0, [some (vr 81), some (vl (yw T n b)), none, some (vi (Int32.ofNat b))], [], pm_mm al D I L) = r) := fun _ => rfl
  simp only [sh]
  rw [lnr, wat]
  cases h3 : spw T b (te T n b - b) (wch 3) with
  | true =>
    simp only [cond_true, cond_false]
    rw [df (show ¬ 3 = 7 by omega), cond_false]
    have pl := c_note (X := X) (d := d) (al := al) (D := D) (y := yw T n b) h (by rw [y3, h3])
    show match (match rdn T n 3 3 0 (te T n b) (fun _ => 0) (lnf 3 ℓ f b) with
      | .inl q => .inl q
      | .inr (v, f', p) => .inr (3, v, f', p) : Nat ⊕ (Nat × (Nat → Nat) × (Nat × Nat) × Nat)) with
      | .inl q => _
      | .inr (w, v, f', p) => _
    revert pl
    cases rdn T n 3 3 0 (te T n b) (fun _ => 0) (lnf 3 ℓ f b) with
    | inl q => exact fun pl => pl
    | inr x => exact fun pl => pl
  | false =>
    simp only [cond_true, cond_false, decide_true]
    refine ⟨_, _, ?_, lnB_0 h⟩
    rw [sg_Mo_noteLine_0, y3, h3, cond_false, c_fails (d := d + 3)]
    simp only [Option.bind_some, pm_ai]
    rw [sg_Mo_noteLine_12, show pm_01 0 = true from rfl, cond_true]
theorem c_heardLine {T : Nat → Int32} {n b ℓ : Nat} {f : Nat × Nat} {P : Nat → Int32} (h : LW T n b 3 ℓ f P I L) :
    match lnr 3 T n b ℓ f with
    | .inl q => ∃ J M, Cl X (d + 5) 187 [vr 81, vl (yw T n b), vi (Int32.ofNat b)] (pm_mm al D I L) = some (some (vi 0), pm_mm al D J M) ∧ lnB T n q I J L M
    | .inr (w, v, f', p) => ∃ J M, Cl X (d + 5) 187 [vr 81, vl (yw T n b), vi (Int32.ofNat b)] (pm_mm al D I L) = some (some (vi 1), pm_mm al D J M) ∧ lnG T n b 3 w ℓ v f' p P I J L M := by
  have hb := h.2.1
  have y6 : decide (lg_cmp (yw T n b) 448377483876 = 0) = spw T b (te T n b - b) (wch 6) := yw_ok (w := 6) hb (by omega)
  rw [Cl_s]
  have sh : ∀ r, (cond (Nat.ble (pm_wd [vr 81, vl (yw T n b), vi (Int32.ofNat b)]) (pm_mx 187)) (Rn X (d + 4) (pm_co 187) (0, pm_ent (pm_mx 187) [vr 81, vl (yw T n b), vi (Int32.ofNat b)], [], pm_mm al D I L)) none = r) = (Rn X (d + 4) co_Mo_heardLine (0, [some (vr 81), some (vl (yw T n b)), none, some (vi (Int32.ofNat b))], [], pm_mm al D I L) = r) := fun _ => rfl
  simp only [sh]
  rw [lnr, wat]
  cases h6 : spw T b (te T n b - b) (wch 6) with
  | true =>
    simp only [cond_true, cond_false]
    rw [df (show ¬ 6 = 7 by omega), cond_false]
    have pl := c_heard (X := X) (d := d) (al := al) (D := D) (y := yw T n b) h (by rw [y6, h6])
    show match (match rdn T n 6 2 0 (te T n b) (fun _ => 0) (lnf 6 ℓ f b) with
      | .inl q => .inl q
      | .inr (v, f', p) => .inr (6, v, f', p) : Nat ⊕ (Nat × (Nat → Nat) × (Nat × Nat) × Nat)) with
      | .inl q => _
      | .inr (w, v, f', p) => _
    revert pl
    cases rdn T n 6 2 0 (te T n b) (fun _ => 0) (lnf 6 ℓ f b) with
    | inl q => exact fun pl => pl
    | inr x => exact fun pl => pl
  | false =>
    simp only [cond_true, cond_false, decide_true]
    refine ⟨_, _, ?_, lnB_0 h⟩
    rw [sg_Mo_heardLine_0, y6, h6, cond_false, c_fails (d := d + 3)]
    simp only [Option.bind_some, pm_ai]
    rw [sg_Mo_heardLine_12, show pm_01 0 = true from rfl, cond_true]
theorem c_treadLine {T : Nat → Int32} {n b ℓ : Nat} {f : Nat × Nat} {P : Nat → Int32} (h : LW T n b 2 ℓ f P I L) :
    match lnr 2 T n b ℓ f with
    | .inl q => ∃ J M, Cl X (d + 5) 186 [vr 81, vl (yw T n b)] (pm_mm al D I L) = some (some (vi 0), pm_mm al D J M) ∧ lnB T n q I J L M
    | .inr (w, v, f', p) => ∃ J M, Cl X (d + 5) 186 [vr 81, vl (yw T n b)] (pm_mm al D I L) = some (some (vi 1), pm_mm al D J M) ∧ lnG T n b 2 w ℓ v f' p P I J L M := by
  have hb := h.2.1
  have y4 : decide (lg_cmp (yw T n b) 500135453028 = 0) = spw T b (te T n b - b) (wch 4) := yw_ok (w := 4) hb (by omega)
  have y5 : decide (lg_cmp (yw T n b) 1919251316 = 0) = spw T b (te T n b - b) (wch 5) := yw_ok (w := 5) hb (by omega)
  rw [Cl_s]
  have sh : ∀ r, (cond (Nat.ble (pm_wd [vr 81, vl (yw T n b)]) (pm_mx 186)) (Rn X (d + 4) (pm_co 186) (0, pm_ent (pm_mx 186) [vr 81, vl (yw T n b)], [], pm_mm al D I L)) none = r) = (Rn X (d + 4) co_Mo_treadLine (0, [some (vr 81), some (vl (yw T n b)), none], [], pm_mm al D I L) = r) := fun _ => rfl
  have s4 : spw T b (te T n b - b) (wch 4) = true → Rn X (d + 4) co_Mo_treadLine (0, [some (vr 81), some (vl (yw T n b)), none], [], pm_mm al D I L) = Rn X (d + 4) co_Mo_treadLine (21, [some (vr 81), some (vl (yw T n b)), none], [], pm_mm al D I L) := fun q => by rw [sg_Mo_treadLine_0, y4, q, cond_true]
  have s5 : spw T b (te T n b - b) (wch 5) = true → Rn X (d + 4) co_Mo_treadLine (0, [some (vr 81), some (vl (yw T n b)), none], [], pm_mm al D I L) = Rn X (d + 4) co_Mo_treadLine (21, [some (vr 81), some (vl (yw T n b)), none], [], pm_mm al D I L) := fun q => by
    rw [sg_Mo_treadLine_0, y4, y5, q, cond_true]
    cases spw T b (te T n b - b) (wch 4) <;> simp only [cond_true, cond_false]
  simp only [sh]
  rw [lnr, wat]
  cases h4 : spw T b (te T n b - b) (wch 4) with
  | true =>
    simp only [cond_true, cond_false]
    rw [df (show ¬ 4 = 7 by omega), cond_false]
    have pl := c_tread (X := X) (d := d) (al := al) (D := D) (y := yw T n b) h (by rw [y4, h4])
    rw [← s4 h4] at pl
    show match (match rdn T n 4 1 0 (te T n b) (fun _ => 0) (lnf 4 ℓ f b) with
      | .inl q => .inl q
      | .inr (v, f', p) => .inr (4, v, f', p) : Nat ⊕ (Nat × (Nat → Nat) × (Nat × Nat) × Nat)) with
      | .inl q => _
      | .inr (w, v, f', p) => _
    revert pl
    cases rdn T n 4 1 0 (te T n b) (fun _ => 0) (lnf 4 ℓ f b) with
    | inl q => exact fun pl => pl
    | inr x => exact fun pl => pl
  | false =>
    cases h5 : spw T b (te T n b - b) (wch 5) with
    | true =>
      simp only [cond_true, cond_false]
      rw [df (show ¬ 5 = 7 by omega), cond_false]
      have pl := c_rest (X := X) (d := d) (al := al) (D := D) (y := yw T n b) h (by rw [y4, h4])
      rw [← s5 h5] at pl
      show match (match rdn T n 5 1 0 (te T n b) (fun _ => 0) (lnf 5 ℓ f b) with
        | .inl q => .inl q
        | .inr (v, f', p) => .inr (5, v, f', p) : Nat ⊕ (Nat × (Nat → Nat) × (Nat × Nat) × Nat)) with
        | .inl q => _
        | .inr (w, v, f', p) => _
      revert pl
      cases rdn T n 5 1 0 (te T n b) (fun _ => 0) (lnf 5 ℓ f b) with
      | inl q => exact fun pl => pl
      | inr x => exact fun pl => pl
    | false =>
      simp only [cond_true, cond_false, decide_true]
      refine ⟨_, _, ?_, lnB_0 h⟩
      rw [sg_Mo_treadLine_0, y4, y5, h4, h5, cond_false, cond_false, c_fails (d := d + 3)]
      simp only [Option.bind_some, pm_ai]
      rw [sg_Mo_treadLine_20, show pm_01 0 = true from rfl, cond_true]
theorem c_textLine {T : Nat → Int32} {n b s ℓ : Nat} {f : Nat × Nat} {P : Nat → Int32} (hs : s < 4) (h : LW T n b s ℓ f P I L) :
    match lnr s T n b ℓ f with
    | .inl q => ∃ J M, Cl X (d + 6) 188 [vr 81, vi (Int32.ofNat s), vl (yw T n b), vi (Int32.ofNat b)] (pm_mm al D I L) = some (some (vi 0), pm_mm al D J M) ∧ lnB T n q I J L M
    | .inr (w, v, f', p) => ∃ J M, Cl X (d + 6) 188 [vr 81, vi (Int32.ofNat s), vl (yw T n b), vi (Int32.ofNat b)] (pm_mm al D I L) = some (some (vi 1), pm_mm al D J M) ∧ lnG T n b s w ℓ v f' p P I J L M := by
  rw [Cl_s]
  have sh : ∀ r, (cond (Nat.ble (pm_wd [vr 81, vi (Int32.ofNat s), vl (yw T n b), vi (Int32.ofNat b)]) (pm_mx 188)) (Rn X (d + 5) (pm_co 188) (0, pm_ent (pm_mx 188) [vr 81, vi (Int32.ofNat s), vl (yw T n b), vi (Int32.ofNat b)], [], pm_mm al D I L)) none = r) = (Rn X (d + 5) co_Mo_textLine (0, [some (vr 81), some (vi (Int32.ofNat s)), some (vl (yw T n b)), none, some (vi (Int32.ofNat b))], [], pm_mm al D I L) = r) := fun _ => rfl
  simp only [sh]
  have hc : s = 0 ∨ s = 1 ∨ s = 2 ∨ s = 3 := by omega
  rcases hc with c | c | c | c <;> subst c
  · have pl := c_bandLine (X := X) (d := d) (al := al) (D := D) h
    have go : ∀ u J M, pm_01 u = true → Cl X (d + 5) 183 [vr 81, vl (yw T n b), vi (Int32.ofNat b)] (pm_mm al D I L) = some (some (vi u), pm_mm al D J M) → Rn X (d + 5) co_Mo_textLine (0, [some (vr 81), some (vi (Int32.ofNat 0)), some (vl (yw T n b)), none, some (vi (Int32.ofNat b))], [], pm_mm al D I L) = some (some (vi u), pm_mm al D J M) := fun u J M hu hc => by
      rw [sg_Mo_textLine_0, show decide (Int32.ofNat 0 = 0) = true from rfl, cond_true, hc]
      simp only [Option.bind_some, pm_ai]
      rw [sg_Mo_textLine_35, hu, cond_true]
    revert pl
    cases lnr 0 T n b ℓ f with
    | inl q =>
      intro pl
      obtain ⟨J, M, c1, c2⟩ := pl
      exact ⟨J, M, go 0 J M rfl c1, c2⟩
    | inr x =>
      obtain ⟨w, v, f', p⟩ := x
      intro pl
      obtain ⟨J, M, c1, c2⟩ := pl
      exact ⟨J, M, go 1 J M rfl c1, c2⟩
  · have pl := c_noteLine (X := X) (d := d) (al := al) (D := D) h
    have go : ∀ u J M, pm_01 u = true → Cl X (d + 5) 185 [vr 81, vl (yw T n b), vi (Int32.ofNat b)] (pm_mm al D I L) = some (some (vi u), pm_mm al D J M) → Rn X (d + 5) co_Mo_textLine (0, [some (vr 81), some (vi (Int32.ofNat 1)), some (vl (yw T n b)), none, some (vi (Int32.ofNat b))], [], pm_mm al D I L) = some (some (vi u), pm_mm al D J M) := fun u J M hu hc => by
      rw [sg_Mo_textLine_0, show decide (Int32.ofNat 1 = 0) = false from rfl, cond_false, show decide (Int32.ofNat 1 = 1) = true from rfl, cond_true, hc]
      simp only [Option.bind_some, pm_ai]
      rw [sg_Mo_textLine_43, hu, cond_true]
    revert pl
    cases lnr 1 T n b ℓ f with
    | inl q =>
      intro pl
      obtain ⟨J, M, c1, c2⟩ := pl
      exact ⟨J, M, go 0 J M rfl c1, c2⟩
    | inr x =>
      obtain ⟨w, v, f', p⟩ := x
      intro pl
      obtain ⟨J, M, c1, c2⟩ := pl
      exact ⟨J, M, go 1 J M rfl c1, c2⟩
  · have pl := c_treadLine (X := X) (d := d) (al := al) (D := D) h
    have go : ∀ u J M, pm_01 u = true → Cl X (d + 5) 186 [vr 81, vl (yw T n b)] (pm_mm al D I L) = some (some (vi u), pm_mm al D J M) → Rn X (d + 5) co_Mo_textLine (0, [some (vr 81), some (vi (Int32.ofNat 2)), some (vl (yw T n b)), none, some (vi (Int32.ofNat b))], [], pm_mm al D I L) = some (some (vi u), pm_mm al D J M) := fun u J M hu hc => by
      rw [sg_Mo_textLine_0, show decide (Int32.ofNat 2 = 0) = false from rfl, cond_false, show decide (Int32.ofNat 2 = 1) = false from rfl, cond_false, show decide (Int32.ofNat 2 = 2) = true from rfl, cond_true, hc]
      simp only [Option.bind_some, pm_ai]
      rw [sg_Mo_textLine_49, hu, cond_true]
    revert pl
    cases lnr 2 T n b ℓ f with
    | inl q =>
      intro pl
      obtain ⟨J, M, c1, c2⟩ := pl
      exact ⟨J, M, go 0 J M rfl c1, c2⟩
    | inr x =>
      obtain ⟨w, v, f', p⟩ := x
      intro pl
      obtain ⟨J, M, c1, c2⟩ := pl
      exact ⟨J, M, go 1 J M rfl c1, c2⟩
  · have pl := c_heardLine (X := X) (d := d) (al := al) (D := D) h
    have go : ∀ u J M, pm_01 u = true → Cl X (d + 5) 187 [vr 81, vl (yw T n b), vi (Int32.ofNat b)] (pm_mm al D I L) = some (some (vi u), pm_mm al D J M) → Rn X (d + 5) co_Mo_textLine (0, [some (vr 81), some (vi (Int32.ofNat 3)), some (vl (yw T n b)), none, some (vi (Int32.ofNat b))], [], pm_mm al D I L) = some (some (vi u), pm_mm al D J M) := fun u J M hu hc => by
      rw [sg_Mo_textLine_0, show decide (Int32.ofNat 3 = 0) = false from rfl, cond_false, show decide (Int32.ofNat 3 = 1) = false from rfl, cond_false, show decide (Int32.ofNat 3 = 2) = false from rfl, cond_false, hc]
      simp only [Option.bind_some, pm_ai]
      rw [sg_Mo_textLine_57, hu, cond_true]
    revert pl
    cases lnr 3 T n b ℓ f with
    | inl q =>
      intro pl
      obtain ⟨J, M, c1, c2⟩ := pl
      exact ⟨J, M, go 0 J M rfl c1, c2⟩
    | inr x =>
      obtain ⟨w, v, f', p⟩ := x
      intro pl
      obtain ⟨J, M, c1, c2⟩ := pl
      exact ⟨J, M, go 1 J M rfl c1, c2⟩
theorem lne_lnr (s : Nat) (T : Nat → Int32) (n b ℓ : Nat) (f : Nat × Nat) : lne s T n b ℓ f = (match lnr s T n b ℓ f with
    | .inl q => .inl q
    | .inr (w, v, f', p) => cond (decide (sk T n p < n) && decide (T (sk T n p) = 59)) (.inr (w, v, f', sk T n p + 1)) (.inl (sk T n p))) := by
  rw [lne, lnr]
  generalize wat s T b (te T n b - b) = w
  cases decide (w = 7) with
  | true => rfl
  | false =>
    rw [cond_false, cond_false]
    cases rdn T n w (nno w) 0 (te T n b) (fun _ => 0) (lnf w ℓ f b) with
    | inl q => rfl
    | inr x => obtain ⟨v, f', p⟩ := x; rfl
theorem knd0 {T : Nat → Int32} {n b : Nat} : decide (knd T n b = 0) = !decide (b < n) := by
  rw [knd]
  cases decide (b < n) with
  | false => rfl
  | true =>
    rw [cond_true]
    cases ltr T b with
    | true => rfl
    | false =>
      cases dgi T b with
      | true => cases decide (te T n b - b ≤ 2) <;> rfl
      | false => cases decide (T b = 59) <;> rfl
theorem knd4 {T : Nat → Int32} {n b : Nat} : decide (knd T n b = 4) = (decide (b < n) && decide (T b = 59)) := by
  rw [knd]
  cases decide (b < n) with
  | false => rfl
  | true =>
    rw [cond_true, Bool.true_and]
    by_cases h : T b = 59
    · have e1 : ltr T b = false := by rw [ltr, h]; rfl
      have e2 : dgi T b = false := by rw [dgi, h]; rfl
      rw [e1, e2, dt h]; rfl
    · rw [df h]
      cases ltr T b with
      | true => rfl
      | false =>
        cases dgi T b with
        | true => cases decide (te T n b - b ≤ 2) <;> rfl
        | false => rfl
/-- between lines: the reference -/
def AL (T : Nat → Int32) (n s b ℓ : Nat) (f : Nat × Nat) (P : Nat → Int32) (J : Nat → Nat → Int32) (M : Nat → Nat → Int64) : Prop := tpM J T n ∧ b ≤ n ∧ TK T n b J M ∧ fR f b J ∧ RP s ℓ P f J
theorem RP_up {s ℓ : Nat} {P : Nat → Int32} {f : Nat × Nat} {J : Nat → Nat → Int32} (h : RP s ℓ P f I) (e : ∀ a j, a = 91 ∨ (a = 81 ∧ j = 21) → J a j = I a j) : RP s ℓ P f J := by
  unfold RP at h ⊢
  split at h
  · exact ⟨(e _ _ (by omega)).trans h.1, fun k h1 h2 => (e _ _ (by omega)).trans (h.2 k h1 h2)⟩
  · exact ⟨(e _ _ (by omega)).trans h.1, fun k h1 h2 => (e _ _ (by omega)).trans (h.2.1 k h1 h2), fun c => by rw [e _ _ (by omega)]; exact h.2.2 c⟩
  · exact fun c => (e _ _ (by omega)).trans (h c)
  · exact ⟨(e _ _ (by omega)).trans h.1, fun k h1 h2 => (e _ _ (by omega)).trans (h.2 k h1 h2)⟩
theorem c_lines {T : Nat → Int32} {n s : Nat} (hs : s < 4) : ∀ (r b ℓ : Nat) (f : Nat × Nat) (P : Nat → Int32) (o3 : Option pm_V) (J : Nat → Nat → Int32) (M : Nat → Nat → Int64), n ≤ b + r → AL T n s b ℓ f P J M →
    match txt s T n r b ℓ f P with
    | .inl q => ∃ J' M', Rn X (d + 6) co_Mo_allLines (2, [some (vr 81), some (vi (Int32.ofNat s)), some (vi 1), o3], [], pm_mm al D J M) = some (some (vi 0), pm_mm al D J' M') ∧ J' 81 16 = Int32.ofNat q ∧ fr3 J J' ∧ frL M M'
    | .inr (ℓ', f', P') => ∃ J' M', Rn X (d + 6) co_Mo_allLines (2, [some (vr 81), some (vi (Int32.ofNat s)), some (vi 1), o3], [], pm_mm al D J M) = some (some (vi 1), pm_mm al D J' M') ∧ AL T n s n ℓ' f' P' J' M' ∧ fr3 J J' ∧ frL M M' := by
  have e10 : decide ((1 : Int32) = 0) = false := rfl
  have h74 : ∀ (u : Int32) (o0 o1 o3 : Option pm_V) (K : Nat → Nat → Int32) (N : Nat → Nat → Int64), pm_01 u = true → Rn X (d + 6) co_Mo_allLines (74, [o0, o1, some (vi u), o3], [], pm_mm al D K N) = some (some (vi u), pm_mm al D K N) := fun u o0 o1 o3 K N hu => by rw [sg_Mo_allLines_74, hu, cond_true]
  have hfail : ∀ (o3 : Option pm_V) (K : Nat → Nat → Int32) (N : Nat → Nat → Int64), Rn X (d + 6) co_Mo_allLines (63, [some (vr 81), some (vi (Int32.ofNat s)), some (vi 0), o3], [], pm_mm al D K N) = some (some (vi 0), pm_mm al D K N) := fun o3 K N => by
    rw [sg_Mo_allLines_63, show decide ((0 : Int32) = 0) = true from rfl, cond_true, sg_Mo_allLines_71, sg_Mo_allLines_2, show decide ((0 : Int32) = 0) = true from rfl, cond_true, h74 0 _ _ _ _ _ rfl]
  have hend : ∀ (ℓ : Nat) (f : Nat × Nat) (P : Nat → Int32) (o3 : Option pm_V) (J : Nat → Nat → Int32) (M : Nat → Nat → Int64), AL T n s n ℓ f P J M → ∃ J' M', Rn X (d + 6) co_Mo_allLines (2, [some (vr 81), some (vi (Int32.ofNat s)), some (vi 1), o3], [], pm_mm al D J M) = some (some (vi 1), pm_mm al D J' M') ∧ AL T n s n ℓ f P J' M' ∧ fr3 J J' ∧ frL M M' := fun ℓ f P o3 J M h => by
    have hk4 := knd_le T n n
    refine ⟨J, M, ?_, h, fun _ _ _ _ _ => rfl, fun _ _ _ => rfl⟩
    rw [sg_Mo_allLines_2, e10, cond_false, h.2.2.1.2.2.1, show decide (Int32.ofNat (knd T n n) = 0) = decide (knd T n n = 0) from n_deq (b := 0) (by omega) (by omega), knd0, df (Nat.lt_irrefl n), Bool.not_false, cond_true, h74 1 _ _ _ _ _ rfl]
  intro r
  induction r with
  | zero =>
    intro b ℓ f P o3 J M hr h
    rw [txt]
    have e : b = n := by have := h.2.1; omega
    subst e
    exact hend ℓ f P o3 J M h
  | succ r ih =>
    intro b ℓ f P o3 J M hr h
    rw [txt]
    by_cases hb : b < n
    · rw [dt hb, cond_true, lne_lnr]
      obtain ⟨hT, hbn, hK, hf, hR⟩ := h
      have hn := hT.2.1
      have hk4 := knd_le T n b
      have hLW : LW T n b s ℓ f P (pm_up J 81 22 1) M := ⟨tpM_up hT (fun a j hh => up_ne (by omega)), hb, TK_up hK (fun j hj => up_ne (by omega)), fR_up hf (Nat.le_refl _) (fun j hj => up_ne (by omega)), up_eq, RP_up hR (fun a j hh => up_ne (by omega))⟩
      have s0 : Rn X (d + 6) co_Mo_allLines (2, [some (vr 81), some (vi (Int32.ofNat s)), some (vi 1), o3], [], pm_mm al D J M) = ((Cl X (d + 6) 188 [vr 81, vi (Int32.ofNat s), vl (yw T n b), vi (Int32.ofNat b)] (pm_mm al D (pm_up J 81 22 1) M)).bind pm_ai).bind (fun r => Rn X (d + 6) co_Mo_allLines (45, [some (vr 81), some (vi (Int32.ofNat s)), some (vi 1), some (vi (Int32.ofNat b))], [vi r.1], r.2)) := by
        rw [sg_Mo_allLines_2, e10, cond_false, hK.2.2.1, show decide (Int32.ofNat (knd T n b) = 0) = decide (knd T n b = 0) from n_deq (b := 0) (by omega) (by omega), knd0, dt hb, Bool.not_true, cond_false, show decide (Int32.ofNat (knd T n b) = 2) = decide (knd T n b = 2) from n_deq (b := 2) (by omega) (by omega), hK.1, sg_Mo_allLines_41, sg_Mo_allLines_41, yw]
        by_cases h2 : knd T n b = 2
        · rw [dt h2, cond_true, cond_true, hK.2.2.2.2 h2]
        · rw [df h2, cond_false, cond_false]
      have tl := c_textLine (X := X) (d := d) (al := al) (D := D) hs hLW
      rw [s0]
      revert tl
      cases lnr s T n b ℓ f with
      | inl q =>
        intro tl
        obtain ⟨K, N, c1, c2, c3, c4⟩ := tl
        refine ⟨K, N, ?_, c2, fun a j h1 h2 h3 => by rw [c3 a j h1 h2 h3, up_ne (by omega)], c4⟩
        rw [c1]
        simp only [Option.bind_some, pm_ai]
        rw [sg_Mo_allLines_45, show decide ((0 : Int32) = 0) = true from rfl, cond_true, hfail]
      | inr x =>
        obtain ⟨w, v, f', p⟩ := x
        intro tl
        obtain ⟨K, N, c1, c2, c3, c4, c5, c6, c7, c8, c9⟩ := tl
        have hk4p := knd_le T n (sk T n p)
        obtain ⟨g1, g2⟩ := sk_rg (T := T) c3
        have e4 : decide (K 81 13 = 4) = (decide (sk T n p < n) && decide (T (sk T n p) = 59)) := by
          rw [c5.2.2.1, show decide (Int32.ofNat (knd T n (sk T n p)) = 4) = decide (knd T n (sk T n p) = 4) from n_deq (b := 4) (by omega) (by omega), knd4]
        rw [c1]
        simp only [Option.bind_some, pm_ai]
        rw [sg_Mo_allLines_45, e10, cond_false, e4, c_fails (d := d + 5)]
        simp only [Option.bind_some, pm_ai]
        rw [sg_Mo_allLines_62, hfail]
        cases h59 : (decide (sk T n p < n) && decide (T (sk T n p) = 59)) with
        | false =>
          rw [cond_false, cond_false, txx]
          exact ⟨_, _, rfl, by rw [up_eq]; exact c5.1, fun a j h1 h2 h3 => by rw [up_ne (by omega), c8 a j h1 h2 h3, up_ne (by omega)], c9⟩
        | true =>
          rw [Bool.and_eq_true, decide_eq_true_iff, decide_eq_true_iff] at h59
          rw [cond_true, cond_true, txx]
          have hte59 : te T n (sk T n p) = sk T n p + 1 := by
            have e1 : ltr T (sk T n p) = false := by rw [ltr, h59.2]; rfl
            have e2 : dgi T (sk T n p) = false := by rw [dgi, h59.2]; rfl
            rw [te, e1, e2, cond_false, cond_false]
          obtain ⟨Q, W, t1, t2, t3, t4⟩ := c_token (X := X) (d := d + 4) (al := al) (D := D) (I := K) (L := N) (T := T) (n := n) (p := sk T n p + 1) c2 (by omega) (by rw [c5.2.1, dt h59.1, cond_true, hte59])
          obtain ⟨k1, k2⟩ := sk_rg (T := T) (n := n) (p := sk T n p + 1) (by omega)
          have := ih (sk T n (sk T n p + 1)) (lnn w ℓ) f' (pay w ℓ v P) (some (vi (Int32.ofNat b))) Q W (by omega) ⟨tpM_up c2 (fun a j hh => t2 a j (by omega)), k2, t4, fR_up c6 (by omega) (fun j hj => t2 _ _ (by omega)), RP_up c7 (fun a j hh => t2 a j (by omega))⟩
          rw [sg_Mo_allLines_63, e10, cond_false, t1]
          simp only [Option.bind_some, pm_av]
          rw [sg_Mo_allLines_71]
          have frQ : fr3 J Q := fun a j h1 h2 h3 => by rw [t2 a j (by omega), c8 a j h1 h2 h3, up_ne (by omega)]
          have frW : frL M W := fun a j hh => by rw [t3 a j hh, c9 a j hh]
          revert this
          cases txt s T n r (sk T n (sk T n p + 1)) (lnn w ℓ) f' (pay w ℓ v P) with
          | inl q =>
            intro hh
            obtain ⟨J', M', x1, x2, x3, x4⟩ := hh
            exact ⟨J', M', x1, x2, fun a j h1 h2 h3 => by rw [x3 a j h1 h2 h3, frQ a j h1 h2 h3], fun a j hh => by rw [x4 a j hh, frW a j hh]⟩
          | inr x =>
            obtain ⟨ℓ', f'', P'⟩ := x
            intro hh
            obtain ⟨J', M', x1, x2, x3, x4⟩ := hh
            exact ⟨J', M', x1, x2, fun a j h1 h2 h3 => by rw [x3 a j h1 h2 h3, frQ a j h1 h2 h3], fun a j hh => by rw [x4 a j hh, frW a j hh]⟩
    · rw [df hb, cond_false]
      have e : b = n := by have := h.2.1; omega
      subst e
      exact hend ℓ f P o3 J M h
end
