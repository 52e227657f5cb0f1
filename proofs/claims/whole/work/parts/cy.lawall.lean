section
variable {X : Nat × (Nat → Int32)} {d : Nat}
theorem st_z {a j : Nat} (h : ¬ (a = 2 ∨ a = 9 ∨ a = 14 ∨ a = 19 ∨ a = 23 ∨ a = 27 ∨ a = 30 ∨ a = 34 ∨ a = 35 ∨ a = 40 ∨ a = 44 ∨ a = 60 ∨ a = 76 ∨ a = 85)) : st_I a j = 0 := by
  have h2 : ¬ a = 2 := by omega
  have h9 : ¬ a = 9 := by omega
  have h14 : ¬ a = 14 := by omega
  have h19 : ¬ a = 19 := by omega
  have h23 : ¬ a = 23 := by omega
  have h27 : ¬ a = 27 := by omega
  have h30 : ¬ a = 30 := by omega
  have h34 : ¬ a = 34 := by omega
  have h35 : ¬ a = 35 := by omega
  have h40 : ¬ a = 40 := by omega
  have h44 : ¬ a = 44 := by omega
  have h60 : ¬ a = 60 := by omega
  have h76 : ¬ a = 76 := by omega
  have h85 : ¬ a = 85 := by omega
  clear h
  unfold st_I
  simp only [pm_up, h2, h9, h14, h19, h23, h27, h30, h34, h35, h40, h44, h60, h76, h85, false_and, if_false]
theorem st_INV : INV (fun _ => false) st_I st_L := by
  have z : ∀ {a j : Nat}, ¬ (a = 2 ∨ a = 9 ∨ a = 14 ∨ a = 19 ∨ a = 23 ∨ a = 27 ∨ a = 30 ∨ a = 34 ∨ a = 35 ∨ a = 40 ∨ a = 44 ∨ a = 60 ∨ a = 76 ∨ a = 85) → st_I a j = 0 := st_z
  have e21 : st_I 2 1 = 0 := by decide +kernel
  have e22 : st_I 2 2 = 0 := by decide +kernel
  have e23 : st_I 2 3 = -1 := by decide +kernel
  have e85 : st_I 85 0 = -1 := by decide +kernel
  have nb : ∀ {P : Prop} (b : Nat), b < 0 → P := fun b hb => absurd hb (Nat.not_lt_zero b)
  refine ⟨⟨fun _ => 0, ⟨⟨fun s _ => ⟨Nat.zero_le _, z (by omega)⟩, fun b hb => nb b hb, fun b hb => nb b hb, fun b hb => nb b hb, fun b hb => nb b hb⟩, 0, Nat.zero_le _, z (by omega)⟩, ⟨fun i _ => (z (by omega)).trans (z (by omega)).symm, fun b hb => nb b hb, fun b hb => nb b hb, fun b hb => nb b hb, fun b hb => nb b hb, fun k _ => (z (by omega)).trans (z (by omega)).symm, e21.trans (z (by omega)).symm, e22.trans (z (by omega)).symm, e23.trans e85.symm⟩, fun b s hb _ _ _ => nb b hb⟩, ⟨z (by omega), z (by omega), fun j _ => z (by omega)⟩, fun j _ => ?_, fun k _ => ⟨(z (by omega)).trans rfl, fun h => by cases h⟩⟩
  rw [z (by omega)]
  show pm_ib 0 = 0
  decide +kernel
/-- the law, run by the pure machine from nothing, says true -/
theorem law_pure (hN : X.1 < 2147483648) : ∃ al D I L, Cl X (d + 19) 284 [vr 900] st_m0 = some (some (vi 1), pm_mm al D I L) ∧ gA st_al (fun _ => false) al D := by
  obtain ⟨al, D, I, L, h1, h2⟩ := law_run (X := X) (d := d) hN (al := st_al) (D := fun _ => false) (I := st_I) (L := st_L) (o2 := none) (o3 := none) st_INV
  refine ⟨al, D, I, L, ?_, h2⟩
  rw [Cl_s]
  refine Eq.trans (show _ = Rn X (d + 18) co_La_law (0, [some (vr 900), none, none, none], [], st_m0) from rfl) ?_
  rw [stt (X := X) (d := d + 14), st_mm]
  exact h1
end
