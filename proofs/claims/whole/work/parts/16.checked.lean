/-! SOUNDNESS, 11: every instruction of every method is as its table says -/
theorem sn_ge {α : Type} {k n pc : Nat} {a b z : α} (hk : Nat.ble k n = true) (h : n ≤ pc) (e : a = z) : cond (Nat.ble k pc) a b = z := by
  rw [Nat.ble_eq_true_of_le (Nat.le_trans (Nat.le_of_ble_eq_true hk) h)]
  exact e
theorem sn_ne {α : Type} {k n pc : Nat} {a b : α} (hk : Nat.ble (k + 1) n = true) (h : n ≤ pc) : cond (Nat.beq pc k) a b = b := by
  have h1 := Nat.le_of_ble_eq_true hk
  cases hb : Nat.beq pc k with
  | false => rfl
  | true => exact absurd (Nat.eq_of_beq_eq_true hb) (by omega)
def sn_cf (m w : Nat) (c : pm_C) (pc : Nat) : Bool := match c pc with
  | some o => sn_chk m w pc o
  | none => true
theorem sn_ckall {m w n : Nat} {c : pm_C} (h1 : ∀ pc, n ≤ pc → c pc = none) (h2 : (List.range n).all (sn_cf m w c) = true) : ∀ pc o, c pc = some o → sn_chk m w pc o = true := by
  intro pc o ho
  rcases Nat.lt_or_ge pc n with h | h
  · have h3 := List.all_eq_true.mp h2 pc (List.mem_range.mpr h)
    unfold sn_cf at h3
    rw [ho] at h3
    exact h3
  · rw [h1 pc h] at ho
    cases ho
theorem sn_hi_1 : ∀ pc, 53 ≤ pc → co_Ji_bitCount pc = none := fun pc h => sn_ge rfl h (sn_ge rfl h (sn_ge rfl h (sn_ge rfl h (sn_ge rfl h (sn_ge rfl h (sn_ne rfl h))))))
set_option maxRecDepth 100000 in
theorem sn_ck_1 : ∀ pc o, co_Ji_bitCount pc = some o → sn_chk 1 14 pc o = true := sn_ckall sn_hi_1 (by decide +kernel)
theorem sn_hi_2 : ∀ pc, 11 ≤ pc → co_Jm_abs pc = none := fun pc h => sn_ge rfl h (sn_ge rfl h (sn_ge rfl h (sn_ne rfl h)))
set_option maxRecDepth 100000 in
theorem sn_ck_2 : ∀ pc o, co_Jm_abs pc = some o → sn_chk 2 15 pc o = true := sn_ckall sn_hi_2 (by decide +kernel)
theorem sn_hi_3 : ∀ pc, 13 ≤ pc → co_Jm_abs2 pc = none := fun pc h => sn_ge rfl h (sn_ge rfl h (sn_ge rfl h (sn_ge rfl h (sn_ne rfl h))))
set_option maxRecDepth 100000 in
theorem sn_ck_3 : ∀ pc o, co_Jm_abs2 pc = some o → sn_chk 3 15 pc o = true := sn_ckall sn_hi_3 (by decide +kernel)
theorem sn_hi_4 : ∀ pc, 11 ≤ pc → co_Jm_max pc = none := fun pc h => sn_ge rfl h (sn_ge rfl h (sn_ge rfl h (sn_ne rfl h)))
set_option maxRecDepth 100000 in
theorem sn_ck_4 : ∀ pc o, co_Jm_max pc = some o → sn_chk 4 15 pc o = true := sn_ckall sn_hi_4 (by decide +kernel)
theorem sn_hi_5 : ∀ pc, 11 ≤ pc → co_Jm_min pc = none := fun pc h => sn_ge rfl h (sn_ge rfl h (sn_ge rfl h (sn_ne rfl h)))
set_option maxRecDepth 100000 in
theorem sn_ck_5 : ∀ pc o, co_Jm_min pc = some o → sn_chk 5 15 pc o = true := sn_ckall sn_hi_5 (by decide +kernel)
theorem sn_hi_6 : ∀ pc, 41 ≤ pc → co_Ba_init pc = none := fun pc h => sn_ge rfl h (sn_ge rfl h (sn_ge rfl h (sn_ge rfl h (sn_ge rfl h (sn_ne rfl h)))))
set_option maxRecDepth 100000 in
theorem sn_ck_6 : ∀ pc o, co_Ba_init pc = some o → sn_chk 6 0 pc o = true := sn_ckall sn_hi_6 (by decide +kernel)
theorem sn_hi_7 : ∀ pc, 28 ≤ pc → co_Ba_clear pc = none := fun pc h => sn_ge rfl h (sn_ge rfl h (sn_ge rfl h (sn_ge rfl h (sn_ne rfl h))))
set_option maxRecDepth 100000 in
theorem sn_ck_7 : ∀ pc o, co_Ba_clear pc = some o → sn_chk 7 0 pc o = true := sn_ckall sn_hi_7 (by decide +kernel)
theorem sn_hi_8 : ∀ pc, 68 ≤ pc → co_Ba_addPipe pc = none := fun pc h => sn_ge rfl h (sn_ge rfl h (sn_ge rfl h (sn_ge rfl h (sn_ge rfl h (sn_ge rfl h (sn_ne rfl h))))))
set_option maxRecDepth 100000 in
theorem sn_ck_8 : ∀ pc o, co_Ba_addPipe pc = some o → sn_chk 8 0 pc o = true := sn_ckall sn_hi_8 (by decide +kernel)
theorem sn_hi_9 : ∀ pc, 101 ≤ pc → co_Ba_copy pc = none := fun pc h => sn_ge rfl h (sn_ge rfl h (sn_ge rfl h (sn_ge rfl h (sn_ge rfl h (sn_ge rfl h (sn_ne rfl h))))))
set_option maxRecDepth 100000 in
theorem sn_ck_9 : ∀ pc o, co_Ba_copy pc = some o → sn_chk 9 0 pc o = true := sn_ckall sn_hi_9 (by decide +kernel)
theorem sn_hi_10 : ∀ pc, 84 ≤ pc → co_Ba_tells pc = none := fun pc h => sn_ge rfl h (sn_ge rfl h (sn_ge rfl h (sn_ge rfl h (sn_ge rfl h (sn_ne rfl h)))))
set_option maxRecDepth 100000 in
theorem sn_ck_10 : ∀ pc o, co_Ba_tells pc = some o → sn_chk 10 0 pc o = true := sn_ckall sn_hi_10 (by decide +kernel)
theorem sn_hi_11 : ∀ pc, 70 ≤ pc → co_Ba_tellsOfPipe pc = none := fun pc h => sn_ge rfl h (sn_ge rfl h (sn_ge rfl h (sn_ge rfl h (sn_ge rfl h (sn_ne rfl h)))))
set_option maxRecDepth 100000 in
theorem sn_ck_11 : ∀ pc o, co_Ba_tellsOfPipe pc = some o → sn_chk 11 0 pc o = true := sn_ckall sn_hi_11 (by decide +kernel)
theorem sn_hi_12 : ∀ pc, 38 ≤ pc → co_Ba_sumOf pc = none := fun pc h => sn_ge rfl h (sn_ge rfl h (sn_ge rfl h (sn_ge rfl h (sn_ge rfl h (sn_ne rfl h)))))
set_option maxRecDepth 100000 in
theorem sn_ck_12 : ∀ pc o, co_Ba_sumOf pc = some o → sn_chk 12 0 pc o = true := sn_ckall sn_hi_12 (by decide +kernel)
theorem sn_hi_13 : ∀ pc, 24 ≤ pc → co_Ba_wayTo pc = none := fun pc h => sn_ge rfl h (sn_ge rfl h (sn_ge rfl h (sn_ge rfl h (sn_ne rfl h))))
set_option maxRecDepth 100000 in
theorem sn_ck_13 : ∀ pc o, co_Ba_wayTo pc = some o → sn_chk 13 0 pc o = true := sn_ckall sn_hi_13 (by decide +kernel)
theorem sn_hi_14 : ∀ pc, 67 ≤ pc → co_Ba_wayBy pc = none := fun pc h => sn_ge rfl h (sn_ge rfl h (sn_ge rfl h (sn_ge rfl h (sn_ge rfl h (sn_ge rfl h (sn_ne rfl h))))))
set_option maxRecDepth 100000 in
theorem sn_ck_14 : ∀ pc o, co_Ba_wayBy pc = some o → sn_chk 14 0 pc o = true := sn_ckall sn_hi_14 (by decide +kernel)
theorem sn_hi_15 : ∀ pc, 11 ≤ pc → co_Du_lead pc = none := fun pc h => sn_ge rfl h (sn_ge rfl h (sn_ge rfl h (sn_ne rfl h)))
set_option maxRecDepth 100000 in
theorem sn_ck_15 : ∀ pc o, co_Du_lead pc = some o → sn_chk 15 12 pc o = true := sn_ckall sn_hi_15 (by decide +kernel)
theorem sn_hi_16 : ∀ pc, 55 ≤ pc → co_Du_bestMove pc = none := fun pc h => sn_ge rfl h (sn_ge rfl h (sn_ge rfl h (sn_ge rfl h (sn_ge rfl h (sn_ne rfl h)))))
set_option maxRecDepth 100000 in
theorem sn_ck_16 : ∀ pc o, co_Du_bestMove pc = some o → sn_chk 16 12 pc o = true := sn_ckall sn_hi_16 (by decide +kernel)
theorem sn_hi_17 : ∀ pc, 74 ≤ pc → co_Du_bestLead pc = none := fun pc h => sn_ge rfl h (sn_ge rfl h (sn_ge rfl h (sn_ge rfl h (sn_ge rfl h (sn_ge rfl h (sn_ne rfl h))))))
set_option maxRecDepth 100000 in
theorem sn_ck_17 : ∀ pc o, co_Du_bestLead pc = some o → sn_chk 17 12 pc o = true := sn_ckall sn_hi_17 (by decide +kernel)
theorem sn_hi_18 : ∀ pc, 69 ≤ pc → co_Du_leadBy pc = none := fun pc h => sn_ge rfl h (sn_ge rfl h (sn_ge rfl h (sn_ge rfl h (sn_ge rfl h (sn_ge rfl h (sn_ne rfl h))))))
set_option maxRecDepth 100000 in
theorem sn_ck_18 : ∀ pc o, co_Du_leadBy pc = some o → sn_chk 18 12 pc o = true := sn_ckall sn_hi_18 (by decide +kernel)
theorem sn_hi_19 : ∀ pc, 28 ≤ pc → co_He_init pc = none := fun pc h => sn_ge rfl h (sn_ge rfl h (sn_ge rfl h (sn_ge rfl h (sn_ne rfl h))))
set_option maxRecDepth 100000 in
theorem sn_ck_19 : ∀ pc o, co_He_init pc = some o → sn_chk 19 1 pc o = true := sn_ckall sn_hi_19 (by decide +kernel)
theorem sn_hi_20 : ∀ pc, 110 ≤ pc → co_He_take pc = none := fun pc h => sn_ge rfl h (sn_ge rfl h (sn_ge rfl h (sn_ge rfl h (sn_ge rfl h (sn_ge rfl h (sn_ne rfl h))))))
set_option maxRecDepth 100000 in
theorem sn_ck_20 : ∀ pc o, co_He_take pc = some o → sn_chk 20 1 pc o = true := sn_ckall sn_hi_20 (by decide +kernel)
theorem sn_hi_21 : ∀ pc, 27 ≤ pc → co_He_agrees pc = none := fun pc h => sn_ge rfl h (sn_ge rfl h (sn_ge rfl h (sn_ge rfl h (sn_ne rfl h))))
set_option maxRecDepth 100000 in
theorem sn_ck_21 : ∀ pc o, co_He_agrees pc = some o → sn_chk 21 1 pc o = true := sn_ckall sn_hi_21 (by decide +kernel)
theorem sn_hi_22 : ∀ pc, 31 ≤ pc → co_He_ways pc = none := fun pc h => sn_ge rfl h (sn_ge rfl h (sn_ge rfl h (sn_ge rfl h (sn_ge rfl h (sn_ne rfl h)))))
set_option maxRecDepth 100000 in
theorem sn_ck_22 : ∀ pc o, co_He_ways pc = some o → sn_chk 22 1 pc o = true := sn_ckall sn_hi_22 (by decide +kernel)
theorem sn_hi_23 : ∀ pc, 43 ≤ pc → co_He_waysOn pc = none := fun pc h => sn_ge rfl h (sn_ge rfl h (sn_ge rfl h (sn_ge rfl h (sn_ge rfl h (sn_ne rfl h)))))
set_option maxRecDepth 100000 in
theorem sn_ck_23 : ∀ pc o, co_He_waysOn pc = some o → sn_chk 23 1 pc o = true := sn_ckall sn_hi_23 (by decide +kernel)
theorem sn_hi_24 : ∀ pc, 42 ≤ pc → co_He_wayAt pc = none := fun pc h => sn_ge rfl h (sn_ge rfl h (sn_ge rfl h (sn_ge rfl h (sn_ge rfl h (sn_ne rfl h)))))
set_option maxRecDepth 100000 in
theorem sn_ck_24 : ∀ pc o, co_He_wayAt pc = some o → sn_chk 24 1 pc o = true := sn_ckall sn_hi_24 (by decide +kernel)
theorem sn_hi_25 : ∀ pc, 32 ≤ pc → co_He_sure pc = none := fun pc h => sn_ge rfl h (sn_ge rfl h (sn_ge rfl h (sn_ge rfl h (sn_ge rfl h (sn_ne rfl h)))))
set_option maxRecDepth 100000 in
theorem sn_ck_25 : ∀ pc o, co_He_sure pc = some o → sn_chk 25 1 pc o = true := sn_ckall sn_hi_25 (by decide +kernel)
theorem sn_hi_26 : ∀ pc, 46 ≤ pc → co_He_fewestTrodden pc = none := fun pc h => sn_ge rfl h (sn_ge rfl h (sn_ge rfl h (sn_ge rfl h (sn_ge rfl h (sn_ne rfl h)))))
set_option maxRecDepth 100000 in
theorem sn_ck_26 : ∀ pc o, co_He_fewestTrodden pc = some o → sn_chk 26 1 pc o = true := sn_ckall sn_hi_26 (by decide +kernel)
theorem sn_hi_27 : ∀ pc, 37 ≤ pc → co_He_mostTrodden pc = none := fun pc h => sn_ge rfl h (sn_ge rfl h (sn_ge rfl h (sn_ge rfl h (sn_ge rfl h (sn_ne rfl h)))))
set_option maxRecDepth 100000 in
theorem sn_ck_27 : ∀ pc o, co_He_mostTrodden pc = some o → sn_chk 27 1 pc o = true := sn_ckall sn_hi_27 (by decide +kernel)
theorem sn_hi_28 : ∀ pc, 53 ≤ pc → co_He_nextToHear pc = none := fun pc h => sn_ge rfl h (sn_ge rfl h (sn_ge rfl h (sn_ge rfl h (sn_ge rfl h (sn_ne rfl h)))))
set_option maxRecDepth 100000 in
theorem sn_ck_28 : ∀ pc o, co_He_nextToHear pc = some o → sn_chk 28 1 pc o = true := sn_ckall sn_hi_28 (by decide +kernel)
theorem sn_hi_29 : ∀ pc, 84 ≤ pc → co_He_countAlike pc = none := fun pc h => sn_ge rfl h (sn_ge rfl h (sn_ge rfl h (sn_ge rfl h (sn_ge rfl h (sn_ge rfl h (sn_ne rfl h))))))
set_option maxRecDepth 100000 in
theorem sn_ck_29 : ∀ pc o, co_He_countAlike pc = some o → sn_chk 29 1 pc o = true := sn_ckall sn_hi_29 (by decide +kernel)
theorem sn_hi_30 : ∀ pc, 34 ≤ pc → co_He_mostAlike pc = none := fun pc h => sn_ge rfl h (sn_ge rfl h (sn_ge rfl h (sn_ge rfl h (sn_ge rfl h (sn_ne rfl h)))))
set_option maxRecDepth 100000 in
theorem sn_ck_30 : ∀ pc o, co_He_mostAlike pc = some o → sn_chk 30 1 pc o = true := sn_ckall sn_hi_30 (by decide +kernel)
theorem sn_hi_31 : ∀ pc, 21 ≤ pc → co_Le_init pc = none := fun pc h => sn_ge rfl h (sn_ge rfl h (sn_ge rfl h (sn_ge rfl h (sn_ne rfl h))))
set_option maxRecDepth 100000 in
theorem sn_ck_31 : ∀ pc o, co_Le_init pc = some o → sn_chk 31 2 pc o = true := sn_ckall sn_hi_31 (by decide +kernel)
theorem sn_hi_32 : ∀ pc, 125 ≤ pc → co_Le_lay pc = none := fun pc h => sn_ge rfl h (sn_ge rfl h (sn_ge rfl h (sn_ge rfl h (sn_ge rfl h (sn_ge rfl h (sn_ge rfl h (sn_ne rfl h)))))))
set_option maxRecDepth 100000 in
theorem sn_ck_32 : ∀ pc o, co_Le_lay pc = some o → sn_chk 32 2 pc o = true := sn_ckall sn_hi_32 (by decide +kernel)
theorem sn_hi_33 : ∀ pc, 55 ≤ pc → co_Le_nearest pc = none := fun pc h => sn_ge rfl h (sn_ge rfl h (sn_ge rfl h (sn_ge rfl h (sn_ge rfl h (sn_ne rfl h)))))
set_option maxRecDepth 100000 in
theorem sn_ck_33 : ∀ pc o, co_Le_nearest pc = some o → sn_chk 33 2 pc o = true := sn_ckall sn_hi_33 (by decide +kernel)
theorem sn_hi_34 : ∀ pc, 124 ≤ pc → co_Le_spreadFrom pc = none := fun pc h => sn_ge rfl h (sn_ge rfl h (sn_ge rfl h (sn_ge rfl h (sn_ge rfl h (sn_ge rfl h (sn_ge rfl h (sn_ne rfl h)))))))
set_option maxRecDepth 100000 in
theorem sn_ck_34 : ∀ pc o, co_Le_spreadFrom pc = some o → sn_chk 34 2 pc o = true := sn_ckall sn_hi_34 (by decide +kernel)
theorem sn_hi_35 : ∀ pc, 26 ≤ pc → co_Lo_init pc = none := fun pc h => sn_ge rfl h (sn_ge rfl h (sn_ge rfl h (sn_ge rfl h (sn_ne rfl h))))
set_option maxRecDepth 100000 in
theorem sn_ck_35 : ∀ pc o, co_Lo_init pc = some o → sn_chk 35 3 pc o = true := sn_ckall sn_hi_35 (by decide +kernel)
theorem sn_hi_36 : ∀ pc, 44 ≤ pc → co_Lo_addLine pc = none := fun pc h => sn_ge rfl h (sn_ge rfl h (sn_ge rfl h (sn_ge rfl h (sn_ge rfl h (sn_ne rfl h)))))
set_option maxRecDepth 100000 in
theorem sn_ck_36 : ∀ pc o, co_Lo_addLine pc = some o → sn_chk 36 3 pc o = true := sn_ckall sn_hi_36 (by decide +kernel)
theorem sn_hi_37 : ∀ pc, 39 ≤ pc → co_Lo_copy pc = none := fun pc h => sn_ge rfl h (sn_ge rfl h (sn_ge rfl h (sn_ge rfl h (sn_ge rfl h (sn_ne rfl h)))))
set_option maxRecDepth 100000 in
theorem sn_ck_37 : ∀ pc o, co_Lo_copy pc = some o → sn_chk 37 3 pc o = true := sn_ckall sn_hi_37 (by decide +kernel)
theorem sn_hi_38 : ∀ pc, 85 ≤ pc → co_Pl_init pc = none := fun pc h => sn_ge rfl h (sn_ge rfl h (sn_ge rfl h (sn_ge rfl h (sn_ge rfl h (sn_ge rfl h (sn_ne rfl h))))))
set_option maxRecDepth 100000 in
theorem sn_ck_38 : ∀ pc o, co_Pl_init pc = some o → sn_chk 38 4 pc o = true := sn_ckall sn_hi_38 (by decide +kernel)
theorem sn_hi_39 : ∀ pc, 63 ≤ pc → co_Pl_takeBand pc = none := fun pc h => sn_ge rfl h (sn_ge rfl h (sn_ge rfl h (sn_ge rfl h (sn_ge rfl h (sn_ne rfl h)))))
set_option maxRecDepth 100000 in
theorem sn_ck_39 : ∀ pc o, co_Pl_takeBand pc = some o → sn_chk 39 4 pc o = true := sn_ckall sn_hi_39 (by decide +kernel)
theorem sn_hi_40 : ∀ pc, 35 ≤ pc → co_Pl_takeScore pc = none := fun pc h => sn_ge rfl h (sn_ge rfl h (sn_ge rfl h (sn_ge rfl h (sn_ge rfl h (sn_ne rfl h)))))
set_option maxRecDepth 100000 in
theorem sn_ck_40 : ∀ pc o, co_Pl_takeScore pc = some o → sn_chk 40 4 pc o = true := sn_ckall sn_hi_40 (by decide +kernel)
theorem sn_hi_41 : ∀ pc, 36 ≤ pc → co_Pl_takeNotesLeft pc = none := fun pc h => sn_ge rfl h (sn_ge rfl h (sn_ge rfl h (sn_ge rfl h (sn_ge rfl h (sn_ne rfl h)))))
set_option maxRecDepth 100000 in
theorem sn_ck_41 : ∀ pc o, co_Pl_takeNotesLeft pc = some o → sn_chk 41 4 pc o = true := sn_ckall sn_hi_41 (by decide +kernel)
theorem sn_hi_42 : ∀ pc, 22 ≤ pc → co_Pl_clearNotes pc = none := fun pc h => sn_ge rfl h (sn_ge rfl h (sn_ge rfl h (sn_ge rfl h (sn_ne rfl h))))
set_option maxRecDepth 100000 in
theorem sn_ck_42 : ∀ pc o, co_Pl_clearNotes pc = some o → sn_chk 42 4 pc o = true := sn_ckall sn_hi_42 (by decide +kernel)
theorem sn_hi_43 : ∀ pc, 76 ≤ pc → co_Pl_addNote pc = none := fun pc h => sn_ge rfl h (sn_ge rfl h (sn_ge rfl h (sn_ge rfl h (sn_ge rfl h (sn_ge rfl h (sn_ne rfl h))))))
set_option maxRecDepth 100000 in
theorem sn_ck_43 : ∀ pc o, co_Pl_addNote pc = some o → sn_chk 43 4 pc o = true := sn_ckall sn_hi_43 (by decide +kernel)
theorem sn_hi_44 : ∀ pc, 32 ≤ pc → co_Pl_follow pc = none := fun pc h => sn_ge rfl h (sn_ge rfl h (sn_ge rfl h (sn_ge rfl h (sn_ge rfl h (sn_ne rfl h)))))
set_option maxRecDepth 100000 in
theorem sn_ck_44 : ∀ pc o, co_Pl_follow pc = some o → sn_chk 44 4 pc o = true := sn_ckall sn_hi_44 (by decide +kernel)
theorem sn_hi_45 : ∀ pc, 40 ≤ pc → co_Pl_begin pc = none := fun pc h => sn_ge rfl h (sn_ge rfl h (sn_ge rfl h (sn_ge rfl h (sn_ge rfl h (sn_ne rfl h)))))
set_option maxRecDepth 100000 in
theorem sn_ck_45 : ∀ pc o, co_Pl_begin pc = some o → sn_chk 45 4 pc o = true := sn_ckall sn_hi_45 (by decide +kernel)
theorem sn_hi_46 : ∀ pc, 116 ≤ pc → co_Pl_step pc = none := fun pc h => sn_ge rfl h (sn_ge rfl h (sn_ge rfl h (sn_ge rfl h (sn_ge rfl h (sn_ge rfl h (sn_ge rfl h (sn_ne rfl h)))))))
set_option maxRecDepth 100000 in
theorem sn_ck_46 : ∀ pc o, co_Pl_step pc = some o → sn_chk 46 4 pc o = true := sn_ckall sn_hi_46 (by decide +kernel)
theorem sn_hi_47 : ∀ pc, 204 ≤ pc → co_Pl_drawAll pc = none := fun pc h => sn_ge rfl h (sn_ge rfl h (sn_ge rfl h (sn_ge rfl h (sn_ge rfl h (sn_ge rfl h (sn_ge rfl h (sn_ge rfl h (sn_ne rfl h))))))))
set_option maxRecDepth 100000 in
theorem sn_ck_47 : ∀ pc o, co_Pl_drawAll pc = some o → sn_chk 47 4 pc o = true := sn_ckall sn_hi_47 (by decide +kernel)
theorem sn_hi_48 : ∀ pc, 64 ≤ pc → co_Pl_through pc = none := fun pc h => sn_ge rfl h (sn_ge rfl h (sn_ge rfl h (sn_ge rfl h (sn_ge rfl h (sn_ge rfl h (sn_ne rfl h))))))
set_option maxRecDepth 100000 in
theorem sn_ck_48 : ∀ pc o, co_Pl_through pc = some o → sn_chk 48 4 pc o = true := sn_ckall sn_hi_48 (by decide +kernel)
theorem sn_hi_49 : ∀ pc, 61 ≤ pc → co_Pl_well pc = none := fun pc h => sn_ge rfl h (sn_ge rfl h (sn_ge rfl h (sn_ge rfl h (sn_ge rfl h (sn_ge rfl h (sn_ne rfl h))))))
set_option maxRecDepth 100000 in
theorem sn_ck_49 : ∀ pc o, co_Pl_well pc = some o → sn_chk 49 4 pc o = true := sn_ckall sn_hi_49 (by decide +kernel)
theorem sn_hi_50 : ∀ pc, 64 ≤ pc → co_Pl_silences pc = none := fun pc h => sn_ge rfl h (sn_ge rfl h (sn_ge rfl h (sn_ge rfl h (sn_ge rfl h (sn_ge rfl h (sn_ne rfl h))))))
set_option maxRecDepth 100000 in
theorem sn_ck_50 : ∀ pc o, co_Pl_silences pc = some o → sn_chk 50 4 pc o = true := sn_ckall sn_hi_50 (by decide +kernel)
theorem sn_hi_51 : ∀ pc, 96 ≤ pc → co_Pl_behind pc = none := fun pc h => sn_ge rfl h (sn_ge rfl h (sn_ge rfl h (sn_ge rfl h (sn_ge rfl h (sn_ge rfl h (sn_ne rfl h))))))
set_option maxRecDepth 100000 in
theorem sn_ck_51 : ∀ pc o, co_Pl_behind pc = some o → sn_chk 51 4 pc o = true := sn_ckall sn_hi_51 (by decide +kernel)
theorem sn_hi_52 : ∀ pc, 29 ≤ pc → co_Pl_firstSilence pc = none := fun pc h => sn_ge rfl h (sn_ge rfl h (sn_ge rfl h (sn_ge rfl h (sn_ge rfl h (sn_ne rfl h)))))
set_option maxRecDepth 100000 in
theorem sn_ck_52 : ∀ pc o, co_Pl_firstSilence pc = some o → sn_chk 52 4 pc o = true := sn_ckall sn_hi_52 (by decide +kernel)
theorem sn_hi_53 : ∀ pc, 49 ≤ pc → co_Pl_firstToFaint pc = none := fun pc h => sn_ge rfl h (sn_ge rfl h (sn_ge rfl h (sn_ge rfl h (sn_ge rfl h (sn_ne rfl h)))))
set_option maxRecDepth 100000 in
theorem sn_ck_53 : ∀ pc o, co_Pl_firstToFaint pc = some o → sn_chk 53 4 pc o = true := sn_ckall sn_hi_53 (by decide +kernel)
theorem sn_hi_54 : ∀ pc, 45 ≤ pc → co_Pl_loudest pc = none := fun pc h => sn_ge rfl h (sn_ge rfl h (sn_ge rfl h (sn_ge rfl h (sn_ge rfl h (sn_ne rfl h)))))
set_option maxRecDepth 100000 in
theorem sn_ck_54 : ∀ pc o, co_Pl_loudest pc = some o → sn_chk 54 4 pc o = true := sn_ckall sn_hi_54 (by decide +kernel)
theorem sn_hi_55 : ∀ pc, 29 ≤ pc → co_Pl_leakedInAll pc = none := fun pc h => sn_ge rfl h (sn_ge rfl h (sn_ge rfl h (sn_ge rfl h (sn_ge rfl h (sn_ne rfl h)))))
set_option maxRecDepth 100000 in
theorem sn_ck_55 : ∀ pc o, co_Pl_leakedInAll pc = some o → sn_chk 55 4 pc o = true := sn_ckall sn_hi_55 (by decide +kernel)
theorem sn_hi_56 : ∀ pc, 59 ≤ pc → co_Pl_worthInAll pc = none := fun pc h => sn_ge rfl h (sn_ge rfl h (sn_ge rfl h (sn_ge rfl h (sn_ge rfl h (sn_ge rfl h (sn_ne rfl h))))))
set_option maxRecDepth 100000 in
theorem sn_ck_56 : ∀ pc o, co_Pl_worthInAll pc = some o → sn_chk 56 4 pc o = true := sn_ckall sn_hi_56 (by decide +kernel)
theorem sn_hi_57 : ∀ pc, 29 ≤ pc → co_Pl_hushFrom pc = none := fun pc h => sn_ge rfl h (sn_ge rfl h (sn_ge rfl h (sn_ge rfl h (sn_ge rfl h (sn_ne rfl h)))))
set_option maxRecDepth 100000 in
theorem sn_ck_57 : ∀ pc o, co_Pl_hushFrom pc = some o → sn_chk 57 4 pc o = true := sn_ckall sn_hi_57 (by decide +kernel)
theorem sn_hi_58 : ∀ pc, 28 ≤ pc → co_Pl_hush pc = none := fun pc h => sn_ge rfl h (sn_ge rfl h (sn_ge rfl h (sn_ge rfl h (sn_ge rfl h (sn_ne rfl h)))))
set_option maxRecDepth 100000 in
theorem sn_ck_58 : ∀ pc o, co_Pl_hush pc = some o → sn_chk 58 4 pc o = true := sn_ckall sn_hi_58 (by decide +kernel)
theorem sn_hi_59 : ∀ pc, 36 ≤ pc → co_Pl_hushBegin pc = none := fun pc h => sn_ge rfl h (sn_ge rfl h (sn_ge rfl h (sn_ge rfl h (sn_ge rfl h (sn_ne rfl h)))))
set_option maxRecDepth 100000 in
theorem sn_ck_59 : ∀ pc o, co_Pl_hushBegin pc = some o → sn_chk 59 4 pc o = true := sn_ckall sn_hi_59 (by decide +kernel)
theorem sn_hi_60 : ∀ pc, 87 ≤ pc → co_Re_init pc = none := fun pc h => sn_ge rfl h (sn_ge rfl h (sn_ge rfl h (sn_ge rfl h (sn_ge rfl h (sn_ge rfl h (sn_ne rfl h))))))
set_option maxRecDepth 100000 in
theorem sn_ck_60 : ∀ pc o, co_Re_init pc = some o → sn_chk 60 5 pc o = true := sn_ckall sn_hi_60 (by decide +kernel)
theorem sn_hi_61 : ∀ pc, 123 ≤ pc → co_Re_read pc = none := fun pc h => sn_ge rfl h (sn_ge rfl h (sn_ge rfl h (sn_ge rfl h (sn_ge rfl h (sn_ge rfl h (sn_ne rfl h))))))
set_option maxRecDepth 100000 in
theorem sn_ck_61 : ∀ pc o, co_Re_read pc = some o → sn_chk 61 5 pc o = true := sn_ckall sn_hi_61 (by decide +kernel)
theorem sn_hi_62 : ∀ pc, 69 ≤ pc → co_Re_start pc = none := fun pc h => sn_ge rfl h (sn_ge rfl h (sn_ge rfl h (sn_ge rfl h (sn_ge rfl h (sn_ge rfl h (sn_ne rfl h))))))
set_option maxRecDepth 100000 in
theorem sn_ck_62 : ∀ pc o, co_Re_start pc = some o → sn_chk 62 5 pc o = true := sn_ckall sn_hi_62 (by decide +kernel)
theorem sn_hi_63 : ∀ pc, 11 ≤ pc → co_Re_breakOff pc = none := fun pc h => sn_ge rfl h (sn_ge rfl h (sn_ge rfl h (sn_ne rfl h)))
set_option maxRecDepth 100000 in
theorem sn_ck_63 : ∀ pc o, co_Re_breakOff pc = some o → sn_chk 63 5 pc o = true := sn_ckall sn_hi_63 (by decide +kernel)
theorem sn_hi_64 : ∀ pc, 18 ≤ pc → co_Re_mark pc = none := fun pc h => sn_ge rfl h (sn_ge rfl h (sn_ge rfl h (sn_ge rfl h (sn_ne rfl h))))
set_option maxRecDepth 100000 in
theorem sn_ck_64 : ∀ pc o, co_Re_mark pc = some o → sn_chk 64 5 pc o = true := sn_ckall sn_hi_64 (by decide +kernel)
theorem sn_hi_65 : ∀ pc, 40 ≤ pc → co_Re_skipBlanks pc = none := fun pc h => sn_ge rfl h (sn_ge rfl h (sn_ge rfl h (sn_ge rfl h (sn_ge rfl h (sn_ne rfl h)))))
set_option maxRecDepth 100000 in
theorem sn_ck_65 : ∀ pc o, co_Re_skipBlanks pc = some o → sn_chk 65 5 pc o = true := sn_ckall sn_hi_65 (by decide +kernel)
theorem sn_hi_66 : ∀ pc, 28 ≤ pc → co_Re_isLetter pc = none := fun pc h => sn_ge rfl h (sn_ge rfl h (sn_ge rfl h (sn_ge rfl h (sn_ne rfl h))))
set_option maxRecDepth 100000 in
theorem sn_ck_66 : ∀ pc o, co_Re_isLetter pc = some o → sn_chk 66 5 pc o = true := sn_ckall sn_hi_66 (by decide +kernel)
theorem sn_hi_67 : ∀ pc, 28 ≤ pc → co_Re_isDigit pc = none := fun pc h => sn_ge rfl h (sn_ge rfl h (sn_ge rfl h (sn_ge rfl h (sn_ne rfl h))))
set_option maxRecDepth 100000 in
theorem sn_ck_67 : ∀ pc o, co_Re_isDigit pc = some o → sn_chk 67 5 pc o = true := sn_ckall sn_hi_67 (by decide +kernel)
theorem sn_hi_68 : ∀ pc, 66 ≤ pc → co_Re_tokenEnd pc = none := fun pc h => sn_ge rfl h (sn_ge rfl h (sn_ge rfl h (sn_ge rfl h (sn_ge rfl h (sn_ge rfl h (sn_ne rfl h))))))
set_option maxRecDepth 100000 in
theorem sn_ck_68 : ∀ pc o, co_Re_tokenEnd pc = some o → sn_chk 68 5 pc o = true := sn_ckall sn_hi_68 (by decide +kernel)
theorem sn_hi_69 : ∀ pc, 71 ≤ pc → co_Re_takeToken pc = none := fun pc h => sn_ge rfl h (sn_ge rfl h (sn_ge rfl h (sn_ge rfl h (sn_ge rfl h (sn_ge rfl h (sn_ne rfl h))))))
set_option maxRecDepth 100000 in
theorem sn_ck_69 : ∀ pc o, co_Re_takeToken pc = some o → sn_chk 69 5 pc o = true := sn_ckall sn_hi_69 (by decide +kernel)
theorem sn_hi_70 : ∀ pc, 45 ≤ pc → co_Re_wordAt pc = none := fun pc h => sn_ge rfl h (sn_ge rfl h (sn_ge rfl h (sn_ge rfl h (sn_ge rfl h (sn_ne rfl h)))))
set_option maxRecDepth 100000 in
theorem sn_ck_70 : ∀ pc o, co_Re_wordAt pc = some o → sn_chk 70 5 pc o = true := sn_ckall sn_hi_70 (by decide +kernel)
theorem sn_hi_71 : ∀ pc, 61 ≤ pc → co_Re_spelling pc = none := fun pc h => sn_ge rfl h (sn_ge rfl h (sn_ge rfl h (sn_ge rfl h (sn_ne rfl h))))
set_option maxRecDepth 100000 in
theorem sn_ck_71 : ∀ pc o, co_Re_spelling pc = some o → sn_chk 71 5 pc o = true := sn_ckall sn_hi_71 (by decide +kernel)
theorem sn_hi_72 : ∀ pc, 52 ≤ pc → co_Re_spells pc = none := fun pc h => sn_ge rfl h (sn_ge rfl h (sn_ge rfl h (sn_ge rfl h (sn_ge rfl h (sn_ne rfl h)))))
set_option maxRecDepth 100000 in
theorem sn_ck_72 : ∀ pc o, co_Re_spells pc = some o → sn_chk 72 5 pc o = true := sn_ckall sn_hi_72 (by decide +kernel)
theorem sn_hi_73 : ∀ pc, 64 ≤ pc → co_Re_openLine pc = none := fun pc h => sn_ge rfl h (sn_ge rfl h (sn_ge rfl h (sn_ge rfl h (sn_ge rfl h (sn_ge rfl h (sn_ne rfl h))))))
set_option maxRecDepth 100000 in
theorem sn_ck_73 : ∀ pc o, co_Re_openLine pc = some o → sn_chk 73 5 pc o = true := sn_ckall sn_hi_73 (by decide +kernel)
theorem sn_hi_74 : ∀ pc, 114 ≤ pc → co_Re_takeNumber pc = none := fun pc h => sn_ge rfl h (sn_ge rfl h (sn_ge rfl h (sn_ge rfl h (sn_ge rfl h (sn_ge rfl h (sn_ge rfl h (sn_ne rfl h)))))))
set_option maxRecDepth 100000 in
theorem sn_ck_74 : ∀ pc o, co_Re_takeNumber pc = some o → sn_chk 74 5 pc o = true := sn_ckall sn_hi_74 (by decide +kernel)
theorem sn_hi_75 : ∀ pc, 189 ≤ pc → co_Re_closeLine pc = none := fun pc h => sn_ge rfl h (sn_ge rfl h (sn_ge rfl h (sn_ge rfl h (sn_ge rfl h (sn_ge rfl h (sn_ge rfl h (sn_ne rfl h)))))))
set_option maxRecDepth 100000 in
theorem sn_ck_75 : ∀ pc o, co_Re_closeLine pc = some o → sn_chk 75 5 pc o = true := sn_ckall sn_hi_75 (by decide +kernel)
theorem sn_hi_76 : ∀ pc, 34 ≤ pc → co_Sc_init pc = none := fun pc h => sn_ge rfl h (sn_ge rfl h (sn_ge rfl h (sn_ge rfl h (sn_ge rfl h (sn_ne rfl h)))))
set_option maxRecDepth 100000 in
theorem sn_ck_76 : ∀ pc o, co_Sc_init pc = some o → sn_chk 76 6 pc o = true := sn_ckall sn_hi_76 (by decide +kernel)
theorem sn_hi_77 : ∀ pc, 56 ≤ pc → co_Sc_addNote pc = none := fun pc h => sn_ge rfl h (sn_ge rfl h (sn_ge rfl h (sn_ge rfl h (sn_ge rfl h (sn_ge rfl h (sn_ne rfl h))))))
set_option maxRecDepth 100000 in
theorem sn_ck_77 : ∀ pc o, co_Sc_addNote pc = some o → sn_chk 77 6 pc o = true := sn_ckall sn_hi_77 (by decide +kernel)
theorem sn_hi_78 : ∀ pc, 54 ≤ pc → co_Sc_copy pc = none := fun pc h => sn_ge rfl h (sn_ge rfl h (sn_ge rfl h (sn_ge rfl h (sn_ge rfl h (sn_ne rfl h)))))
set_option maxRecDepth 100000 in
theorem sn_ck_78 : ∀ pc o, co_Sc_copy pc = some o → sn_chk 78 6 pc o = true := sn_ckall sn_hi_78 (by decide +kernel)
theorem sn_hi_79 : ∀ pc, 15 ≤ pc → co_Sc_goesBeyond pc = none := fun pc h => sn_ge rfl h (sn_ge rfl h (sn_ge rfl h (sn_ne rfl h)))
set_option maxRecDepth 100000 in
theorem sn_ck_79 : ∀ pc o, co_Sc_goesBeyond pc = some o → sn_chk 79 6 pc o = true := sn_ckall sn_hi_79 (by decide +kernel)
theorem sn_hi_80 : ∀ pc, 40 ≤ pc → co_Sc_lastBeat pc = none := fun pc h => sn_ge rfl h (sn_ge rfl h (sn_ge rfl h (sn_ge rfl h (sn_ge rfl h (sn_ne rfl h)))))
set_option maxRecDepth 100000 in
theorem sn_ck_80 : ∀ pc o, co_Sc_lastBeat pc = some o → sn_chk 80 6 pc o = true := sn_ckall sn_hi_80 (by decide +kernel)
theorem sn_hi_81 : ∀ pc, 58 ≤ pc → co_Sc_wanted pc = none := fun pc h => sn_ge rfl h (sn_ge rfl h (sn_ge rfl h (sn_ge rfl h (sn_ge rfl h (sn_ge rfl h (sn_ne rfl h))))))
set_option maxRecDepth 100000 in
theorem sn_ck_81 : ∀ pc o, co_Sc_wanted pc = some o → sn_chk 81 6 pc o = true := sn_ckall sn_hi_81 (by decide +kernel)
theorem sn_hi_82 : ∀ pc, 31 ≤ pc → co_Sc_wantedInAll pc = none := fun pc h => sn_ge rfl h (sn_ge rfl h (sn_ge rfl h (sn_ge rfl h (sn_ge rfl h (sn_ne rfl h)))))
set_option maxRecDepth 100000 in
theorem sn_ck_82 : ∀ pc o, co_Sc_wantedInAll pc = some o → sn_chk 82 6 pc o = true := sn_ckall sn_hi_82 (by decide +kernel)
theorem sn_hi_83 : ∀ pc, 41 ≤ pc → co_Sc_densest pc = none := fun pc h => sn_ge rfl h (sn_ge rfl h (sn_ge rfl h (sn_ge rfl h (sn_ge rfl h (sn_ne rfl h)))))
set_option maxRecDepth 100000 in
theorem sn_ck_83 : ∀ pc o, co_Sc_densest pc = some o → sn_chk 83 6 pc o = true := sn_ckall sn_hi_83 (by decide +kernel)
theorem sn_hi_84 : ∀ pc, 112 ≤ pc → co_Sc_couples pc = none := fun pc h => sn_ge rfl h (sn_ge rfl h (sn_ge rfl h (sn_ge rfl h (sn_ge rfl h (sn_ge rfl h (sn_ge rfl h (sn_ne rfl h)))))))
set_option maxRecDepth 100000 in
theorem sn_ck_84 : ∀ pc o, co_Sc_couples pc = some o → sn_chk 84 6 pc o = true := sn_ckall sn_hi_84 (by decide +kernel)
theorem sn_hi_85 : ∀ pc, 68 ≤ pc → co_Sc_worthLeft pc = none := fun pc h => sn_ge rfl h (sn_ge rfl h (sn_ge rfl h (sn_ge rfl h (sn_ge rfl h (sn_ge rfl h (sn_ne rfl h))))))
set_option maxRecDepth 100000 in
theorem sn_ck_85 : ∀ pc o, co_Sc_worthLeft pc = some o → sn_chk 85 6 pc o = true := sn_ckall sn_hi_85 (by decide +kernel)
theorem sn_hi_86 : ∀ pc, 53 ≤ pc → co_Sh_init pc = none := fun pc h => sn_ge rfl h (sn_ge rfl h (sn_ge rfl h (sn_ge rfl h (sn_ge rfl h (sn_ne rfl h)))))
set_option maxRecDepth 100000 in
theorem sn_ck_86 : ∀ pc o, co_Sh_init pc = some o → sn_chk 86 7 pc o = true := sn_ckall sn_hi_86 (by decide +kernel)
theorem sn_hi_87 : ∀ pc, 34 ≤ pc → co_Sh_search pc = none := fun pc h => sn_ge rfl h (sn_ge rfl h (sn_ge rfl h (sn_ge rfl h (sn_ge rfl h (sn_ne rfl h)))))
set_option maxRecDepth 100000 in
theorem sn_ck_87 : ∀ pc o, co_Sh_search pc = some o → sn_chk 87 7 pc o = true := sn_ckall sn_hi_87 (by decide +kernel)
theorem sn_hi_88 : ∀ pc, 95 ≤ pc → co_Sh_layFrom pc = none := fun pc h => sn_ge rfl h (sn_ge rfl h (sn_ge rfl h (sn_ge rfl h (sn_ge rfl h (sn_ge rfl h (sn_ne rfl h))))))
set_option maxRecDepth 100000 in
theorem sn_ck_88 : ∀ pc o, co_Sh_layFrom pc = some o → sn_chk 88 7 pc o = true := sn_ckall sn_hi_88 (by decide +kernel)
theorem sn_hi_89 : ∀ pc, 26 ≤ pc → co_Sh_keepRow pc = none := fun pc h => sn_ge rfl h (sn_ge rfl h (sn_ge rfl h (sn_ge rfl h (sn_ne rfl h))))
set_option maxRecDepth 100000 in
theorem sn_ck_89 : ∀ pc o, co_Sh_keepRow pc = some o → sn_chk 89 7 pc o = true := sn_ckall sn_hi_89 (by decide +kernel)
theorem sn_hi_90 : ∀ pc, 21 ≤ pc → co_Sh_isBetter pc = none := fun pc h => sn_ge rfl h (sn_ge rfl h (sn_ge rfl h (sn_ge rfl h (sn_ne rfl h))))
set_option maxRecDepth 100000 in
theorem sn_ck_90 : ∀ pc o, co_Sh_isBetter pc = some o → sn_chk 90 7 pc o = true := sn_ckall sn_hi_90 (by decide +kernel)
theorem sn_hi_91 : ∀ pc, 62 ≤ pc → co_Sh_goesOn pc = none := fun pc h => sn_ge rfl h (sn_ge rfl h (sn_ge rfl h (sn_ge rfl h (sn_ge rfl h (sn_ge rfl h (sn_ne rfl h))))))
set_option maxRecDepth 100000 in
theorem sn_ck_91 : ∀ pc o, co_Sh_goesOn pc = some o → sn_chk 91 7 pc o = true := sn_ckall sn_hi_91 (by decide +kernel)
theorem sn_hi_92 : ∀ pc, 119 ≤ pc → co_To_init pc = none := fun pc h => sn_ge rfl h (sn_ge rfl h (sn_ge rfl h (sn_ge rfl h (sn_ge rfl h (sn_ge rfl h (sn_ne rfl h))))))
set_option maxRecDepth 100000 in
theorem sn_ck_92 : ∀ pc o, co_To_init pc = some o → sn_chk 92 8 pc o = true := sn_ckall sn_hi_92 (by decide +kernel)
theorem sn_hi_93 : ∀ pc, 20 ≤ pc → co_To_has pc = none := fun pc h => sn_ge rfl h (sn_ge rfl h (sn_ge rfl h (sn_ge rfl h (sn_ne rfl h))))
set_option maxRecDepth 100000 in
theorem sn_ck_93 : ∀ pc o, co_To_has pc = some o → sn_chk 93 8 pc o = true := sn_ckall sn_hi_93 (by decide +kernel)
theorem sn_hi_94 : ∀ pc, 47 ≤ pc → co_To_append pc = none := fun pc h => sn_ge rfl h (sn_ge rfl h (sn_ge rfl h (sn_ge rfl h (sn_ge rfl h (sn_ne rfl h)))))
set_option maxRecDepth 100000 in
theorem sn_ck_94 : ∀ pc o, co_To_append pc = some o → sn_chk 94 8 pc o = true := sn_ckall sn_hi_94 (by decide +kernel)
theorem sn_hi_95 : ∀ pc, 105 ≤ pc → co_To_keep pc = none := fun pc h => sn_ge rfl h (sn_ge rfl h (sn_ge rfl h (sn_ge rfl h (sn_ge rfl h (sn_ge rfl h (sn_ne rfl h))))))
set_option maxRecDepth 100000 in
theorem sn_ck_95 : ∀ pc o, co_To_keep pc = some o → sn_chk 95 8 pc o = true := sn_ckall sn_hi_95 (by decide +kernel)
theorem sn_hi_96 : ∀ pc, 125 ≤ pc → co_To_copy pc = none := fun pc h => sn_ge rfl h (sn_ge rfl h (sn_ge rfl h (sn_ge rfl h (sn_ge rfl h (sn_ge rfl h (sn_ge rfl h (sn_ne rfl h)))))))
set_option maxRecDepth 100000 in
theorem sn_ck_96 : ∀ pc o, co_To_copy pc = some o → sn_chk 96 8 pc o = true := sn_ckall sn_hi_96 (by decide +kernel)
theorem sn_hi_97 : ∀ pc, 32 ≤ pc → co_Wa_init pc = none := fun pc h => sn_ge rfl h (sn_ge rfl h (sn_ge rfl h (sn_ge rfl h (sn_ge rfl h (sn_ne rfl h)))))
set_option maxRecDepth 100000 in
theorem sn_ck_97 : ∀ pc o, co_Wa_init pc = some o → sn_chk 97 9 pc o = true := sn_ckall sn_hi_97 (by decide +kernel)
theorem sn_hi_98 : ∀ pc, 44 ≤ pc → co_Wa_learn pc = none := fun pc h => sn_ge rfl h (sn_ge rfl h (sn_ge rfl h (sn_ge rfl h (sn_ge rfl h (sn_ne rfl h)))))
set_option maxRecDepth 100000 in
theorem sn_ck_98 : ∀ pc o, co_Wa_learn pc = some o → sn_chk 98 9 pc o = true := sn_ckall sn_hi_98 (by decide +kernel)
theorem sn_hi_99 : ∀ pc, 65 ≤ pc → co_Wa_spread pc = none := fun pc h => sn_ge rfl h (sn_ge rfl h (sn_ge rfl h (sn_ge rfl h (sn_ge rfl h (sn_ge rfl h (sn_ne rfl h))))))
set_option maxRecDepth 100000 in
theorem sn_ck_99 : ∀ pc o, co_Wa_spread pc = some o → sn_chk 99 9 pc o = true := sn_ckall sn_hi_99 (by decide +kernel)
theorem sn_hi_100 : ∀ pc, 42 ≤ pc → co_Wa_keepWay pc = none := fun pc h => sn_ge rfl h (sn_ge rfl h (sn_ge rfl h (sn_ge rfl h (sn_ge rfl h (sn_ne rfl h)))))
set_option maxRecDepth 100000 in
theorem sn_ck_100 : ∀ pc o, co_Wa_keepWay pc = some o → sn_chk 100 9 pc o = true := sn_ckall sn_hi_100 (by decide +kernel)
theorem sn_hi_101 : ∀ pc, 39 ≤ pc → co_Wa_ofBeat pc = none := fun pc h => sn_ge rfl h (sn_ge rfl h (sn_ge rfl h (sn_ge rfl h (sn_ge rfl h (sn_ne rfl h)))))
set_option maxRecDepth 100000 in
theorem sn_ck_101 : ∀ pc o, co_Wa_ofBeat pc = some o → sn_chk 101 9 pc o = true := sn_ckall sn_hi_101 (by decide +kernel)
theorem sn_hi_102 : ∀ pc, 6 ≤ pc → co_Wa_silences pc = none := fun pc h => sn_ge rfl h (sn_ge rfl h (sn_ge rfl h (sn_ne rfl h)))
set_option maxRecDepth 100000 in
theorem sn_ck_102 : ∀ pc o, co_Wa_silences pc = some o → sn_chk 102 9 pc o = true := sn_ckall sn_hi_102 (by decide +kernel)
theorem sn_hi_103 : ∀ pc, 10 ≤ pc → co_Wa_sounds pc = none := fun pc h => sn_ge rfl h (sn_ge rfl h (sn_ge rfl h (sn_ge rfl h (sn_ne rfl h))))
set_option maxRecDepth 100000 in
theorem sn_ck_103 : ∀ pc o, co_Wa_sounds pc = some o → sn_chk 103 9 pc o = true := sn_ckall sn_hi_103 (by decide +kernel)
theorem sn_hi_104 : ∀ pc, 7 ≤ pc → co_Wa_soundsAs pc = none := fun pc h => sn_ge rfl h (sn_ge rfl h (sn_ge rfl h (sn_ne rfl h)))
set_option maxRecDepth 100000 in
theorem sn_ck_104 : ∀ pc o, co_Wa_soundsAs pc = some o → sn_chk 104 9 pc o = true := sn_ckall sn_hi_104 (by decide +kernel)
theorem sn_hi_105 : ∀ pc, 103 ≤ pc → co_Ch_init pc = none := fun pc h => sn_ge rfl h (sn_ge rfl h (sn_ge rfl h (sn_ge rfl h (sn_ge rfl h (sn_ge rfl h (sn_ne rfl h))))))
set_option maxRecDepth 100000 in
theorem sn_ck_105 : ∀ pc o, co_Ch_init pc = some o → sn_chk 105 10 pc o = true := sn_ckall sn_hi_105 (by decide +kernel)
theorem sn_hi_106 : ∀ pc, 68 ≤ pc → co_Ch_feed pc = none := fun pc h => sn_ge rfl h (sn_ge rfl h (sn_ge rfl h (sn_ge rfl h (sn_ge rfl h (sn_ge rfl h (sn_ne rfl h))))))
set_option maxRecDepth 100000 in
theorem sn_ck_106 : ∀ pc o, co_Ch_feed pc = some o → sn_chk 106 10 pc o = true := sn_ckall sn_hi_106 (by decide +kernel)
theorem sn_hi_107 : ∀ pc, 27 ≤ pc → co_Ch_end pc = none := fun pc h => sn_ge rfl h (sn_ge rfl h (sn_ge rfl h (sn_ge rfl h (sn_ne rfl h))))
set_option maxRecDepth 100000 in
theorem sn_ck_107 : ∀ pc o, co_Ch_end pc = some o → sn_chk 107 10 pc o = true := sn_ckall sn_hi_107 (by decide +kernel)
theorem sn_hi_108 : ∀ pc, 198 ≤ pc → co_Ch_text pc = none := fun pc h => sn_ge rfl h (sn_ge rfl h (sn_ge rfl h (sn_ge rfl h (sn_ge rfl h (sn_ge rfl h (sn_ge rfl h (sn_ne rfl h)))))))
set_option maxRecDepth 100000 in
theorem sn_ck_108 : ∀ pc o, co_Ch_text pc = some o → sn_chk 108 10 pc o = true := sn_ckall sn_hi_108 (by decide +kernel)
theorem sn_hi_109 : ∀ pc, 46 ≤ pc → co_Ch_fault pc = none := fun pc h => sn_ge rfl h (sn_ge rfl h (sn_ge rfl h (sn_ge rfl h (sn_ne rfl h))))
set_option maxRecDepth 100000 in
theorem sn_ck_109 : ∀ pc o, co_Ch_fault pc = some o → sn_chk 109 10 pc o = true := sn_ckall sn_hi_109 (by decide +kernel)
theorem sn_hi_110 : ∀ pc, 22 ≤ pc → co_Ch_count pc = none := fun pc h => sn_ge rfl h (sn_ge rfl h (sn_ge rfl h (sn_ge rfl h (sn_ne rfl h))))
set_option maxRecDepth 100000 in
theorem sn_ck_110 : ∀ pc o, co_Ch_count pc = some o → sn_chk 110 10 pc o = true := sn_ckall sn_hi_110 (by decide +kernel)
theorem sn_hi_111 : ∀ pc, 48 ≤ pc → co_Ch_image pc = none := fun pc h => sn_ge rfl h (sn_ge rfl h (sn_ge rfl h (sn_ge rfl h (sn_ge rfl h (sn_ne rfl h)))))
set_option maxRecDepth 100000 in
theorem sn_ck_111 : ∀ pc o, co_Ch_image pc = some o → sn_chk 111 10 pc o = true := sn_ckall sn_hi_111 (by decide +kernel)
theorem sn_hi_112 : ∀ pc, 39 ≤ pc → co_Ch_again pc = none := fun pc h => sn_ge rfl h (sn_ge rfl h (sn_ge rfl h (sn_ge rfl h (sn_ge rfl h (sn_ne rfl h)))))
set_option maxRecDepth 100000 in
theorem sn_ck_112 : ∀ pc o, co_Ch_again pc = some o → sn_chk 112 10 pc o = true := sn_ckall sn_hi_112 (by decide +kernel)
theorem sn_hi_113 : ∀ pc, 37 ≤ pc → co_Ch_forgetWays pc = none := fun pc h => sn_ge rfl h (sn_ge rfl h (sn_ge rfl h (sn_ge rfl h (sn_ge rfl h (sn_ne rfl h)))))
set_option maxRecDepth 100000 in
theorem sn_ck_113 : ∀ pc o, co_Ch_forgetWays pc = some o → sn_chk 113 10 pc o = true := sn_ckall sn_hi_113 (by decide +kernel)
theorem sn_hi_114 : ∀ pc, 28 ≤ pc → co_Ch_band pc = none := fun pc h => sn_ge rfl h (sn_ge rfl h (sn_ge rfl h (sn_ge rfl h (sn_ne rfl h))))
set_option maxRecDepth 100000 in
theorem sn_ck_114 : ∀ pc o, co_Ch_band pc = some o → sn_chk 114 10 pc o = true := sn_ckall sn_hi_114 (by decide +kernel)
theorem sn_hi_115 : ∀ pc, 115 ≤ pc → co_Ch_note pc = none := fun pc h => sn_ge rfl h (sn_ge rfl h (sn_ge rfl h (sn_ge rfl h (sn_ge rfl h (sn_ge rfl h (sn_ne rfl h))))))
set_option maxRecDepth 100000 in
theorem sn_ck_115 : ∀ pc o, co_Ch_note pc = some o → sn_chk 115 10 pc o = true := sn_ckall sn_hi_115 (by decide +kernel)
theorem sn_hi_116 : ∀ pc, 26 ≤ pc → co_Ch_treads pc = none := fun pc h => sn_ge rfl h (sn_ge rfl h (sn_ge rfl h (sn_ge rfl h (sn_ne rfl h))))
set_option maxRecDepth 100000 in
theorem sn_ck_116 : ∀ pc o, co_Ch_treads pc = some o → sn_chk 116 10 pc o = true := sn_ckall sn_hi_116 (by decide +kernel)
theorem sn_hi_117 : ∀ pc, 107 ≤ pc → co_Ch_line pc = none := fun pc h => sn_ge rfl h (sn_ge rfl h (sn_ge rfl h (sn_ge rfl h (sn_ge rfl h (sn_ge rfl h (sn_ne rfl h))))))
set_option maxRecDepth 100000 in
theorem sn_ck_117 : ∀ pc o, co_Ch_line pc = some o → sn_chk 117 10 pc o = true := sn_ckall sn_hi_117 (by decide +kernel)
theorem sn_hi_118 : ∀ pc, 95 ≤ pc → co_Ch_dense pc = none := fun pc h => sn_ge rfl h (sn_ge rfl h (sn_ge rfl h (sn_ge rfl h (sn_ge rfl h (sn_ge rfl h (sn_ne rfl h))))))
set_option maxRecDepth 100000 in
theorem sn_ck_118 : ∀ pc o, co_Ch_dense pc = some o → sn_chk 118 10 pc o = true := sn_ckall sn_hi_118 (by decide +kernel)
theorem sn_hi_119 : ∀ pc, 81 ≤ pc → co_Ch_like pc = none := fun pc h => sn_ge rfl h (sn_ge rfl h (sn_ge rfl h (sn_ge rfl h (sn_ge rfl h (sn_ge rfl h (sn_ne rfl h))))))
set_option maxRecDepth 100000 in
theorem sn_ck_119 : ∀ pc o, co_Ch_like pc = some o → sn_chk 119 10 pc o = true := sn_ckall sn_hi_119 (by decide +kernel)
theorem sn_hi_120 : ∀ pc, 30 ≤ pc → co_Ch_hasPair pc = none := fun pc h => sn_ge rfl h (sn_ge rfl h (sn_ge rfl h (sn_ge rfl h (sn_ne rfl h))))
set_option maxRecDepth 100000 in
theorem sn_ck_120 : ∀ pc o, co_Ch_hasPair pc = some o → sn_chk 120 10 pc o = true := sn_ckall sn_hi_120 (by decide +kernel)
theorem sn_hi_121 : ∀ pc, 27 ≤ pc → co_Ch_hasThree pc = none := fun pc h => sn_ge rfl h (sn_ge rfl h (sn_ge rfl h (sn_ge rfl h (sn_ne rfl h))))
set_option maxRecDepth 100000 in
theorem sn_ck_121 : ∀ pc o, co_Ch_hasThree pc = some o → sn_chk 121 10 pc o = true := sn_ckall sn_hi_121 (by decide +kernel)
theorem sn_hi_122 : ∀ pc, 33 ≤ pc → co_Ch_prepare pc = none := fun pc h => sn_ge rfl h (sn_ge rfl h (sn_ge rfl h (sn_ge rfl h (sn_ge rfl h (sn_ne rfl h)))))
set_option maxRecDepth 100000 in
theorem sn_ck_122 : ∀ pc o, co_Ch_prepare pc = some o → sn_chk 122 10 pc o = true := sn_ckall sn_hi_122 (by decide +kernel)
theorem sn_hi_123 : ∀ pc, 58 ≤ pc → co_Ch_played pc = none := fun pc h => sn_ge rfl h (sn_ge rfl h (sn_ge rfl h (sn_ge rfl h (sn_ge rfl h (sn_ne rfl h)))))
set_option maxRecDepth 100000 in
theorem sn_ck_123 : ∀ pc o, co_Ch_played pc = some o → sn_chk 123 10 pc o = true := sn_ckall sn_hi_123 (by decide +kernel)
theorem sn_hi_124 : ∀ pc, 96 ≤ pc → co_Ch_drawn pc = none := fun pc h => sn_ge rfl h (sn_ge rfl h (sn_ge rfl h (sn_ge rfl h (sn_ge rfl h (sn_ge rfl h (sn_ne rfl h))))))
set_option maxRecDepth 100000 in
theorem sn_ck_124 : ∀ pc o, co_Ch_drawn pc = some o → sn_chk 124 10 pc o = true := sn_ckall sn_hi_124 (by decide +kernel)
theorem sn_hi_125 : ∀ pc, 193 ≤ pc → co_Ch_after pc = none := fun pc h => sn_ge rfl h (sn_ge rfl h (sn_ge rfl h (sn_ge rfl h (sn_ge rfl h (sn_ge rfl h (sn_ge rfl h (sn_ne rfl h)))))))
set_option maxRecDepth 100000 in
theorem sn_ck_125 : ∀ pc o, co_Ch_after pc = some o → sn_chk 125 10 pc o = true := sn_ckall sn_hi_125 (by decide +kernel)
theorem sn_hi_126 : ∀ pc, 27 ≤ pc → co_Ch_inAll pc = none := fun pc h => sn_ge rfl h (sn_ge rfl h (sn_ge rfl h (sn_ge rfl h (sn_ge rfl h (sn_ne rfl h)))))
set_option maxRecDepth 100000 in
theorem sn_ck_126 : ∀ pc o, co_Ch_inAll pc = some o → sn_chk 126 10 pc o = true := sn_ckall sn_hi_126 (by decide +kernel)
theorem sn_hi_127 : ∀ pc, 101 ≤ pc → co_Ch_need pc = none := fun pc h => sn_ge rfl h (sn_ge rfl h (sn_ge rfl h (sn_ge rfl h (sn_ge rfl h (sn_ge rfl h (sn_ne rfl h))))))
set_option maxRecDepth 100000 in
theorem sn_ck_127 : ∀ pc o, co_Ch_need pc = some o → sn_chk 127 10 pc o = true := sn_ckall sn_hi_127 (by decide +kernel)
theorem sn_hi_128 : ∀ pc, 38 ≤ pc → co_Ch_leastSize pc = none := fun pc h => sn_ge rfl h (sn_ge rfl h (sn_ge rfl h (sn_ge rfl h (sn_ge rfl h (sn_ne rfl h)))))
set_option maxRecDepth 100000 in
theorem sn_ck_128 : ∀ pc o, co_Ch_leastSize pc = some o → sn_chk 128 10 pc o = true := sn_ckall sn_hi_128 (by decide +kernel)
theorem sn_hi_129 : ∀ pc, 38 ≤ pc → co_Ch_leastFill pc = none := fun pc h => sn_ge rfl h (sn_ge rfl h (sn_ge rfl h (sn_ge rfl h (sn_ge rfl h (sn_ne rfl h)))))
set_option maxRecDepth 100000 in
theorem sn_ck_129 : ∀ pc o, co_Ch_leastFill pc = some o → sn_chk 129 10 pc o = true := sn_ckall sn_hi_129 (by decide +kernel)
theorem sn_hi_130 : ∀ pc, 38 ≤ pc → co_Ch_leastStrength pc = none := fun pc h => sn_ge rfl h (sn_ge rfl h (sn_ge rfl h (sn_ge rfl h (sn_ge rfl h (sn_ne rfl h)))))
set_option maxRecDepth 100000 in
theorem sn_ck_130 : ∀ pc o, co_Ch_leastStrength pc = some o → sn_chk 130 10 pc o = true := sn_ckall sn_hi_130 (by decide +kernel)
theorem sn_hi_131 : ∀ pc, 30 ≤ pc → co_Ch_laziest pc = none := fun pc h => sn_ge rfl h (sn_ge rfl h (sn_ge rfl h (sn_ge rfl h (sn_ge rfl h (sn_ne rfl h)))))
set_option maxRecDepth 100000 in
theorem sn_ck_131 : ∀ pc o, co_Ch_laziest pc = some o → sn_chk 131 10 pc o = true := sn_ckall sn_hi_131 (by decide +kernel)
theorem sn_hi_132 : ∀ pc, 67 ≤ pc → co_Ch_canon pc = none := fun pc h => sn_ge rfl h (sn_ge rfl h (sn_ge rfl h (sn_ge rfl h (sn_ge rfl h (sn_ge rfl h (sn_ne rfl h))))))
set_option maxRecDepth 100000 in
theorem sn_ck_132 : ∀ pc o, co_Ch_canon pc = some o → sn_chk 132 10 pc o = true := sn_ckall sn_hi_132 (by decide +kernel)
theorem sn_hi_133 : ∀ pc, 75 ≤ pc → co_Ch_rank pc = none := fun pc h => sn_ge rfl h (sn_ge rfl h (sn_ge rfl h (sn_ge rfl h (sn_ge rfl h (sn_ge rfl h (sn_ne rfl h))))))
set_option maxRecDepth 100000 in
theorem sn_ck_133 : ∀ pc o, co_Ch_rank pc = some o → sn_chk 133 10 pc o = true := sn_ckall sn_hi_133 (by decide +kernel)
theorem sn_hi_134 : ∀ pc, 99 ≤ pc → co_Ch_bestDrawingRow pc = none := fun pc h => sn_ge rfl h (sn_ge rfl h (sn_ge rfl h (sn_ge rfl h (sn_ge rfl h (sn_ge rfl h (sn_ne rfl h))))))
set_option maxRecDepth 100000 in
theorem sn_ck_134 : ∀ pc o, co_Ch_bestDrawingRow pc = some o → sn_chk 134 10 pc o = true := sn_ckall sn_hi_134 (by decide +kernel)
theorem sn_hi_135 : ∀ pc, 128 ≤ pc → co_Ch_shift pc = none := fun pc h => sn_ge rfl h (sn_ge rfl h (sn_ge rfl h (sn_ge rfl h (sn_ge rfl h (sn_ge rfl h (sn_ge rfl h (sn_ne rfl h)))))))
set_option maxRecDepth 100000 in
theorem sn_ck_135 : ∀ pc o, co_Ch_shift pc = some o → sn_chk 135 10 pc o = true := sn_ckall sn_hi_135 (by decide +kernel)
theorem sn_hi_136 : ∀ pc, 140 ≤ pc → co_Ch_cut pc = none := fun pc h => sn_ge rfl h (sn_ge rfl h (sn_ge rfl h (sn_ge rfl h (sn_ge rfl h (sn_ge rfl h (sn_ge rfl h (sn_ne rfl h)))))))
set_option maxRecDepth 100000 in
theorem sn_ck_136 : ∀ pc o, co_Ch_cut pc = some o → sn_chk 136 10 pc o = true := sn_ckall sn_hi_136 (by decide +kernel)
theorem sn_hi_137 : ∀ pc, 66 ≤ pc → co_Ch_waysOf pc = none := fun pc h => sn_ge rfl h (sn_ge rfl h (sn_ge rfl h (sn_ge rfl h (sn_ge rfl h (sn_ge rfl h (sn_ne rfl h))))))
set_option maxRecDepth 100000 in
theorem sn_ck_137 : ∀ pc o, co_Ch_waysOf pc = some o → sn_chk 137 10 pc o = true := sn_ckall sn_hi_137 (by decide +kernel)
theorem sn_hi_138 : ∀ pc, 98 ≤ pc → co_Ch_work pc = none := fun pc h => sn_ge rfl h (sn_ge rfl h (sn_ge rfl h (sn_ge rfl h (sn_ge rfl h (sn_ge rfl h (sn_ne rfl h))))))
set_option maxRecDepth 100000 in
theorem sn_ck_138 : ∀ pc o, co_Ch_work pc = some o → sn_chk 138 10 pc o = true := sn_ckall sn_hi_138 (by decide +kernel)
theorem sn_hi_139 : ∀ pc, 156 ≤ pc → co_Ch_blind pc = none := fun pc h => sn_ge rfl h (sn_ge rfl h (sn_ge rfl h (sn_ge rfl h (sn_ge rfl h (sn_ge rfl h (sn_ge rfl h (sn_ne rfl h)))))))
set_option maxRecDepth 100000 in
theorem sn_ck_139 : ∀ pc o, co_Ch_blind pc = some o → sn_chk 139 10 pc o = true := sn_ckall sn_hi_139 (by decide +kernel)
theorem sn_hi_140 : ∀ pc, 88 ≤ pc → co_Ch_odds pc = none := fun pc h => sn_ge rfl h (sn_ge rfl h (sn_ge rfl h (sn_ge rfl h (sn_ge rfl h (sn_ge rfl h (sn_ne rfl h))))))
set_option maxRecDepth 100000 in
theorem sn_ck_140 : ∀ pc o, co_Ch_odds pc = some o → sn_chk 140 10 pc o = true := sn_ckall sn_hi_140 (by decide +kernel)
theorem sn_hi_141 : ∀ pc, 30 ≤ pc → co_Ch_mean pc = none := fun pc h => sn_ge rfl h (sn_ge rfl h (sn_ge rfl h (sn_ge rfl h (sn_ne rfl h))))
set_option maxRecDepth 100000 in
theorem sn_ck_141 : ∀ pc o, co_Ch_mean pc = some o → sn_chk 141 10 pc o = true := sn_ckall sn_hi_141 (by decide +kernel)
theorem sn_hi_142 : ∀ pc, 52 ≤ pc → co_Ch_leather pc = none := fun pc h => sn_ge rfl h (sn_ge rfl h (sn_ge rfl h (sn_ge rfl h (sn_ge rfl h (sn_ne rfl h)))))
set_option maxRecDepth 100000 in
theorem sn_ck_142 : ∀ pc o, co_Ch_leather pc = some o → sn_chk 142 10 pc o = true := sn_ckall sn_hi_142 (by decide +kernel)
theorem sn_hi_143 : ∀ pc, 163 ≤ pc → co_Ch_share pc = none := fun pc h => sn_ge rfl h (sn_ge rfl h (sn_ge rfl h (sn_ge rfl h (sn_ge rfl h (sn_ge rfl h (sn_ge rfl h (sn_ne rfl h)))))))
set_option maxRecDepth 100000 in
theorem sn_ck_143 : ∀ pc o, co_Ch_share pc = some o → sn_chk 143 10 pc o = true := sn_ckall sn_hi_143 (by decide +kernel)
theorem sn_hi_144 : ∀ pc, 73 ≤ pc → co_Ch_joined pc = none := fun pc h => sn_ge rfl h (sn_ge rfl h (sn_ge rfl h (sn_ge rfl h (sn_ge rfl h (sn_ge rfl h (sn_ne rfl h))))))
set_option maxRecDepth 100000 in
theorem sn_ck_144 : ∀ pc o, co_Ch_joined pc = some o → sn_chk 144 10 pc o = true := sn_ckall sn_hi_144 (by decide +kernel)
theorem sn_hi_145 : ∀ pc, 65 ≤ pc → co_Ch_tour pc = none := fun pc h => sn_ge rfl h (sn_ge rfl h (sn_ge rfl h (sn_ge rfl h (sn_ge rfl h (sn_ge rfl h (sn_ne rfl h))))))
set_option maxRecDepth 100000 in
theorem sn_ck_145 : ∀ pc o, co_Ch_tour pc = some o → sn_chk 145 10 pc o = true := sn_ckall sn_hi_145 (by decide +kernel)
theorem sn_hi_146 : ∀ pc, 82 ≤ pc → co_Ch_shortestTour pc = none := fun pc h => sn_ge rfl h (sn_ge rfl h (sn_ge rfl h (sn_ge rfl h (sn_ge rfl h (sn_ge rfl h (sn_ne rfl h))))))
set_option maxRecDepth 100000 in
theorem sn_ck_146 : ∀ pc o, co_Ch_shortestTour pc = some o → sn_chk 146 10 pc o = true := sn_ckall sn_hi_146 (by decide +kernel)
theorem sn_hi_147 : ∀ pc, 103 ≤ pc → co_Ch_centre pc = none := fun pc h => sn_ge rfl h (sn_ge rfl h (sn_ge rfl h (sn_ge rfl h (sn_ge rfl h (sn_ge rfl h (sn_ne rfl h))))))
set_option maxRecDepth 100000 in
theorem sn_ck_147 : ∀ pc o, co_Ch_centre pc = some o → sn_chk 147 10 pc o = true := sn_ckall sn_hi_147 (by decide +kernel)
theorem sn_hi_148 : ∀ pc, 95 ≤ pc → co_Ch_leaves pc = none := fun pc h => sn_ge rfl h (sn_ge rfl h (sn_ge rfl h (sn_ge rfl h (sn_ge rfl h (sn_ge rfl h (sn_ne rfl h))))))
set_option maxRecDepth 100000 in
theorem sn_ck_148 : ∀ pc o, co_Ch_leaves pc = some o → sn_chk 148 10 pc o = true := sn_ckall sn_hi_148 (by decide +kernel)
theorem sn_hi_149 : ∀ pc, 62 ≤ pc → co_Ch_duel pc = none := fun pc h => sn_ge rfl h (sn_ge rfl h (sn_ge rfl h (sn_ge rfl h (sn_ge rfl h (sn_ge rfl h (sn_ne rfl h))))))
set_option maxRecDepth 100000 in
theorem sn_ck_149 : ∀ pc o, co_Ch_duel pc = some o → sn_chk 149 10 pc o = true := sn_ckall sn_hi_149 (by decide +kernel)
theorem sn_hi_150 : ∀ pc, 121 ≤ pc → co_Ch_mouse pc = none := fun pc h => sn_ge rfl h (sn_ge rfl h (sn_ge rfl h (sn_ge rfl h (sn_ge rfl h (sn_ge rfl h (sn_ne rfl h))))))
set_option maxRecDepth 100000 in
theorem sn_ck_150 : ∀ pc o, co_Ch_mouse pc = some o → sn_chk 150 10 pc o = true := sn_ckall sn_hi_150 (by decide +kernel)
theorem sn_hi_151 : ∀ pc, 151 ≤ pc → co_Ch_chord pc = none := fun pc h => sn_ge rfl h (sn_ge rfl h (sn_ge rfl h (sn_ge rfl h (sn_ge rfl h (sn_ge rfl h (sn_ge rfl h (sn_ne rfl h)))))))
set_option maxRecDepth 100000 in
theorem sn_ck_151 : ∀ pc o, co_Ch_chord pc = some o → sn_chk 151 10 pc o = true := sn_ckall sn_hi_151 (by decide +kernel)
theorem sn_hi_152 : ∀ pc, 27 ≤ pc → co_Ch_hasHeard pc = none := fun pc h => sn_ge rfl h (sn_ge rfl h (sn_ge rfl h (sn_ge rfl h (sn_ne rfl h))))
set_option maxRecDepth 100000 in
theorem sn_ck_152 : ∀ pc o, co_Ch_hasHeard pc = some o → sn_chk 152 10 pc o = true := sn_ckall sn_hi_152 (by decide +kernel)
theorem sn_hi_153 : ∀ pc, 125 ≤ pc → co_Ch_fits pc = none := fun pc h => sn_ge rfl h (sn_ge rfl h (sn_ge rfl h (sn_ge rfl h (sn_ge rfl h (sn_ge rfl h (sn_ne rfl h))))))
set_option maxRecDepth 100000 in
theorem sn_ck_153 : ∀ pc o, co_Ch_fits pc = some o → sn_chk 153 10 pc o = true := sn_ckall sn_hi_153 (by decide +kernel)
theorem sn_hi_154 : ∀ pc, 98 ≤ pc → co_Ch_toil pc = none := fun pc h => sn_ge rfl h (sn_ge rfl h (sn_ge rfl h (sn_ge rfl h (sn_ge rfl h (sn_ge rfl h (sn_ne rfl h))))))
set_option maxRecDepth 100000 in
theorem sn_ck_154 : ∀ pc o, co_Ch_toil pc = some o → sn_chk 154 10 pc o = true := sn_ckall sn_hi_154 (by decide +kernel)
theorem sn_hi_155 : ∀ pc, 52 ≤ pc → co_Ch_toldThatFit pc = none := fun pc h => sn_ge rfl h (sn_ge rfl h (sn_ge rfl h (sn_ge rfl h (sn_ge rfl h (sn_ne rfl h)))))
set_option maxRecDepth 100000 in
theorem sn_ck_155 : ∀ pc o, co_Ch_toldThatFit pc = some o → sn_chk 155 10 pc o = true := sn_ckall sn_hi_155 (by decide +kernel)
theorem sn_hi_156 : ∀ pc, 94 ≤ pc → co_Ch_trodden pc = none := fun pc h => sn_ge rfl h (sn_ge rfl h (sn_ge rfl h (sn_ge rfl h (sn_ge rfl h (sn_ge rfl h (sn_ne rfl h))))))
set_option maxRecDepth 100000 in
theorem sn_ck_156 : ∀ pc o, co_Ch_trodden pc = some o → sn_chk 156 10 pc o = true := sn_ckall sn_hi_156 (by decide +kernel)
theorem sn_hi_157 : ∀ pc, 72 ≤ pc → co_Ch_part pc = none := fun pc h => sn_ge rfl h (sn_ge rfl h (sn_ge rfl h (sn_ge rfl h (sn_ge rfl h (sn_ge rfl h (sn_ne rfl h))))))
set_option maxRecDepth 100000 in
theorem sn_ck_157 : ∀ pc o, co_Ch_part pc = some o → sn_chk 157 10 pc o = true := sn_ckall sn_hi_157 (by decide +kernel)
theorem sn_hi_158 : ∀ pc, 24 ≤ pc → co_Ch_power pc = none := fun pc h => sn_ge rfl h (sn_ge rfl h (sn_ge rfl h (sn_ge rfl h (sn_ne rfl h))))
set_option maxRecDepth 100000 in
theorem sn_ck_158 : ∀ pc o, co_Ch_power pc = some o → sn_chk 158 10 pc o = true := sn_ckall sn_hi_158 (by decide +kernel)
theorem sn_hi_159 : ∀ pc, 17 ≤ pc → co_Ch_chance pc = none := fun pc h => sn_ge rfl h (sn_ge rfl h (sn_ge rfl h (sn_ge rfl h (sn_ne rfl h))))
set_option maxRecDepth 100000 in
theorem sn_ck_159 : ∀ pc o, co_Ch_chance pc = some o → sn_chk 159 10 pc o = true := sn_ckall sn_hi_159 (by decide +kernel)
theorem sn_hi_160 : ∀ pc, 22 ≤ pc → co_Ch_factorial pc = none := fun pc h => sn_ge rfl h (sn_ge rfl h (sn_ge rfl h (sn_ge rfl h (sn_ne rfl h))))
set_option maxRecDepth 100000 in
theorem sn_ck_160 : ∀ pc o, co_Ch_factorial pc = some o → sn_chk 160 10 pc o = true := sn_ckall sn_hi_160 (by decide +kernel)
theorem sn_hi_161 : ∀ pc, 19 ≤ pc → co_Ch_firstRow pc = none := fun pc h => sn_ge rfl h (sn_ge rfl h (sn_ge rfl h (sn_ge rfl h (sn_ne rfl h))))
set_option maxRecDepth 100000 in
theorem sn_ck_161 : ∀ pc o, co_Ch_firstRow pc = some o → sn_chk 161 10 pc o = true := sn_ckall sn_hi_161 (by decide +kernel)
theorem sn_hi_162 : ∀ pc, 97 ≤ pc → co_Ch_nextRow pc = none := fun pc h => sn_ge rfl h (sn_ge rfl h (sn_ge rfl h (sn_ge rfl h (sn_ge rfl h (sn_ge rfl h (sn_ne rfl h))))))
set_option maxRecDepth 100000 in
theorem sn_ck_162 : ∀ pc o, co_Ch_nextRow pc = some o → sn_chk 162 10 pc o = true := sn_ckall sn_hi_162 (by decide +kernel)
theorem sn_hi_163 : ∀ pc, 15 ≤ pc → co_Ch_swap pc = none := fun pc h => sn_ge rfl h (sn_ge rfl h (sn_ge rfl h (sn_ge rfl h (sn_ne rfl h))))
set_option maxRecDepth 100000 in
theorem sn_ck_163 : ∀ pc o, co_Ch_swap pc = some o → sn_chk 163 10 pc o = true := sn_ckall sn_hi_163 (by decide +kernel)
theorem sn_hi_164 : ∀ pc, 270 ≤ pc → co_Mo_init pc = none := fun pc h => sn_ge rfl h (sn_ge rfl h (sn_ge rfl h (sn_ge rfl h (sn_ge rfl h (sn_ge rfl h (sn_ge rfl h (sn_ge rfl h (sn_ne rfl h))))))))
set_option maxRecDepth 100000 in
theorem sn_ck_164 : ∀ pc o, co_Mo_init pc = some o → sn_chk 164 11 pc o = true := sn_ckall sn_hi_164 (by decide +kernel)
theorem sn_hi_165 : ∀ pc, 16 ≤ pc → co_Mo_in pc = none := fun pc h => sn_ge rfl h (sn_ge rfl h (sn_ge rfl h (sn_ge rfl h (sn_ne rfl h))))
set_option maxRecDepth 100000 in
theorem sn_ck_165 : ∀ pc o, co_Mo_in pc = some o → sn_chk 165 11 pc o = true := sn_ckall sn_hi_165 (by decide +kernel)
theorem sn_hi_166 : ∀ pc, 15 ≤ pc → co_Mo_has pc = none := fun pc h => sn_ge rfl h (sn_ge rfl h (sn_ge rfl h (sn_ge rfl h (sn_ne rfl h))))
set_option maxRecDepth 100000 in
theorem sn_ck_166 : ∀ pc o, co_Mo_has pc = some o → sn_chk 166 11 pc o = true := sn_ckall sn_hi_166 (by decide +kernel)
theorem sn_hi_167 : ∀ pc, 11 ≤ pc → co_Mo_greater pc = none := fun pc h => sn_ge rfl h (sn_ge rfl h (sn_ge rfl h (sn_ne rfl h)))
set_option maxRecDepth 100000 in
theorem sn_ck_167 : ∀ pc o, co_Mo_greater pc = some o → sn_chk 167 11 pc o = true := sn_ckall sn_hi_167 (by decide +kernel)
theorem sn_hi_168 : ∀ pc, 11 ≤ pc → co_Mo_lesser pc = none := fun pc h => sn_ge rfl h (sn_ge rfl h (sn_ge rfl h (sn_ne rfl h)))
set_option maxRecDepth 100000 in
theorem sn_ck_168 : ∀ pc o, co_Mo_lesser pc = some o → sn_chk 168 11 pc o = true := sn_ckall sn_hi_168 (by decide +kernel)
theorem sn_hi_169 : ∀ pc, 34 ≤ pc → co_Mo_ones pc = none := fun pc h => sn_ge rfl h (sn_ge rfl h (sn_ge rfl h (sn_ge rfl h (sn_ge rfl h (sn_ne rfl h)))))
set_option maxRecDepth 100000 in
theorem sn_ck_169 : ∀ pc o, co_Mo_ones pc = some o → sn_chk 169 11 pc o = true := sn_ckall sn_hi_169 (by decide +kernel)
theorem sn_hi_170 : ∀ pc, 32 ≤ pc → co_Mo_copyRow pc = none := fun pc h => sn_ge rfl h (sn_ge rfl h (sn_ge rfl h (sn_ge rfl h (sn_ge rfl h (sn_ne rfl h)))))
set_option maxRecDepth 100000 in
theorem sn_ck_170 : ∀ pc o, co_Mo_copyRow pc = some o → sn_chk 170 11 pc o = true := sn_ckall sn_hi_170 (by decide +kernel)
theorem sn_hi_171 : ∀ pc, 123 ≤ pc → co_Mo_copyAll pc = none := fun pc h => sn_ge rfl h (sn_ge rfl h (sn_ge rfl h (sn_ge rfl h (sn_ge rfl h (sn_ge rfl h (sn_ge rfl h (sn_ne rfl h)))))))
set_option maxRecDepth 100000 in
theorem sn_ck_171 : ∀ pc o, co_Mo_copyAll pc = some o → sn_chk 171 11 pc o = true := sn_ckall sn_hi_171 (by decide +kernel)
theorem sn_hi_172 : ∀ pc, 14 ≤ pc → co_Mo_is pc = none := fun pc h => sn_ge rfl h (sn_ge rfl h (sn_ge rfl h (sn_ge rfl h (sn_ne rfl h))))
set_option maxRecDepth 100000 in
theorem sn_ck_172 : ∀ pc o, co_Mo_is pc = some o → sn_chk 172 11 pc o = true := sn_ckall sn_hi_172 (by decide +kernel)
theorem sn_hi_173 : ∀ pc, 56 ≤ pc → co_Mo_feed pc = none := fun pc h => sn_ge rfl h (sn_ge rfl h (sn_ge rfl h (sn_ge rfl h (sn_ge rfl h (sn_ge rfl h (sn_ne rfl h))))))
set_option maxRecDepth 100000 in
theorem sn_ck_173 : ∀ pc o, co_Mo_feed pc = some o → sn_chk 173 11 pc o = true := sn_ckall sn_hi_173 (by decide +kernel)
theorem sn_hi_174 : ∀ pc, 39 ≤ pc → co_Mo_four pc = none := fun pc h => sn_ge rfl h (sn_ge rfl h (sn_ge rfl h (sn_ge rfl h (sn_ge rfl h (sn_ne rfl h)))))
set_option maxRecDepth 100000 in
theorem sn_ck_174 : ∀ pc o, co_Mo_four pc = some o → sn_chk 174 11 pc o = true := sn_ckall sn_hi_174 (by decide +kernel)
theorem sn_hi_175 : ∀ pc, 30 ≤ pc → co_Mo_end pc = none := fun pc h => sn_ge rfl h (sn_ge rfl h (sn_ge rfl h (sn_ge rfl h (sn_ge rfl h (sn_ne rfl h)))))
set_option maxRecDepth 100000 in
theorem sn_ck_175 : ∀ pc o, co_Mo_end pc = some o → sn_chk 175 11 pc o = true := sn_ckall sn_hi_175 (by decide +kernel)
theorem sn_hi_176 : ∀ pc, 29 ≤ pc → co_Mo_see pc = none := fun pc h => sn_ge rfl h (sn_ge rfl h (sn_ge rfl h (sn_ge rfl h (sn_ne rfl h))))
set_option maxRecDepth 100000 in
theorem sn_ck_176 : ∀ pc o, co_Mo_see pc = some o → sn_chk 176 11 pc o = true := sn_ckall sn_hi_176 (by decide +kernel)
theorem sn_hi_177 : ∀ pc, 267 ≤ pc → co_Mo_token pc = none := fun pc h => sn_ge rfl h (sn_ge rfl h (sn_ge rfl h (sn_ge rfl h (sn_ge rfl h (sn_ge rfl h (sn_ge rfl h (sn_ge rfl h (sn_ne rfl h))))))))
set_option maxRecDepth 100000 in
theorem sn_ck_177 : ∀ pc o, co_Mo_token pc = some o → sn_chk 177 11 pc o = true := sn_ckall sn_hi_177 (by decide +kernel)
theorem sn_hi_178 : ∀ pc, 10 ≤ pc → co_Mo_fails pc = none := fun pc h => sn_ge rfl h (sn_ge rfl h (sn_ge rfl h (sn_ne rfl h)))
set_option maxRecDepth 100000 in
theorem sn_ck_178 : ∀ pc o, co_Mo_fails pc = some o → sn_chk 178 11 pc o = true := sn_ckall sn_hi_178 (by decide +kernel)
theorem sn_hi_179 : ∀ pc, 42 ≤ pc → co_Mo_later pc = none := fun pc h => sn_ge rfl h (sn_ge rfl h (sn_ge rfl h (sn_ge rfl h (sn_ge rfl h (sn_ne rfl h)))))
set_option maxRecDepth 100000 in
theorem sn_ck_179 : ∀ pc o, co_Mo_later pc = some o → sn_chk 179 11 pc o = true := sn_ckall sn_hi_179 (by decide +kernel)
theorem sn_hi_180 : ∀ pc, 55 ≤ pc → co_Mo_take pc = none := fun pc h => sn_ge rfl h (sn_ge rfl h (sn_ge rfl h (sn_ge rfl h (sn_ge rfl h (sn_ne rfl h)))))
set_option maxRecDepth 100000 in
theorem sn_ck_180 : ∀ pc o, co_Mo_take pc = some o → sn_chk 180 11 pc o = true := sn_ckall sn_hi_180 (by decide +kernel)
theorem sn_hi_181 : ∀ pc, 17 ≤ pc → co_Mo_full pc = none := fun pc h => sn_ge rfl h (sn_ge rfl h (sn_ge rfl h (sn_ge rfl h (sn_ne rfl h))))
set_option maxRecDepth 100000 in
theorem sn_ck_181 : ∀ pc o, co_Mo_full pc = some o → sn_chk 181 11 pc o = true := sn_ckall sn_hi_181 (by decide +kernel)
theorem sn_hi_182 : ∀ pc, 124 ≤ pc → co_Mo_pipeLine pc = none := fun pc h => sn_ge rfl h (sn_ge rfl h (sn_ge rfl h (sn_ge rfl h (sn_ge rfl h (sn_ge rfl h (sn_ge rfl h (sn_ne rfl h)))))))
set_option maxRecDepth 100000 in
theorem sn_ck_182 : ∀ pc o, co_Mo_pipeLine pc = some o → sn_chk 182 11 pc o = true := sn_ckall sn_hi_182 (by decide +kernel)
theorem sn_hi_183 : ∀ pc, 142 ≤ pc → co_Mo_bandLine pc = none := fun pc h => sn_ge rfl h (sn_ge rfl h (sn_ge rfl h (sn_ge rfl h (sn_ge rfl h (sn_ge rfl h (sn_ge rfl h (sn_ne rfl h)))))))
set_option maxRecDepth 100000 in
theorem sn_ck_183 : ∀ pc o, co_Mo_bandLine pc = some o → sn_chk 183 11 pc o = true := sn_ckall sn_hi_183 (by decide +kernel)
theorem sn_hi_184 : ∀ pc, 59 ≤ pc → co_Mo_keepRow pc = none := fun pc h => sn_ge rfl h (sn_ge rfl h (sn_ge rfl h (sn_ge rfl h (sn_ge rfl h (sn_ge rfl h (sn_ne rfl h))))))
set_option maxRecDepth 100000 in
theorem sn_ck_184 : ∀ pc o, co_Mo_keepRow pc = some o → sn_chk 184 11 pc o = true := sn_ckall sn_hi_184 (by decide +kernel)
theorem sn_hi_185 : ∀ pc, 93 ≤ pc → co_Mo_noteLine pc = none := fun pc h => sn_ge rfl h (sn_ge rfl h (sn_ge rfl h (sn_ge rfl h (sn_ge rfl h (sn_ge rfl h (sn_ne rfl h))))))
set_option maxRecDepth 100000 in
theorem sn_ck_185 : ∀ pc o, co_Mo_noteLine pc = some o → sn_chk 185 11 pc o = true := sn_ckall sn_hi_185 (by decide +kernel)
theorem sn_hi_186 : ∀ pc, 96 ≤ pc → co_Mo_treadLine pc = none := fun pc h => sn_ge rfl h (sn_ge rfl h (sn_ge rfl h (sn_ge rfl h (sn_ge rfl h (sn_ge rfl h (sn_ne rfl h))))))
set_option maxRecDepth 100000 in
theorem sn_ck_186 : ∀ pc o, co_Mo_treadLine pc = some o → sn_chk 186 11 pc o = true := sn_ckall sn_hi_186 (by decide +kernel)
theorem sn_hi_187 : ∀ pc, 57 ≤ pc → co_Mo_heardLine pc = none := fun pc h => sn_ge rfl h (sn_ge rfl h (sn_ge rfl h (sn_ge rfl h (sn_ge rfl h (sn_ge rfl h (sn_ne rfl h))))))
set_option maxRecDepth 100000 in
theorem sn_ck_187 : ∀ pc o, co_Mo_heardLine pc = some o → sn_chk 187 11 pc o = true := sn_ckall sn_hi_187 (by decide +kernel)
theorem sn_hi_188 : ∀ pc, 58 ≤ pc → co_Mo_textLine pc = none := fun pc h => sn_ge rfl h (sn_ge rfl h (sn_ge rfl h (sn_ge rfl h (sn_ge rfl h (sn_ne rfl h)))))
set_option maxRecDepth 100000 in
theorem sn_ck_188 : ∀ pc o, co_Mo_textLine pc = some o → sn_chk 188 11 pc o = true := sn_ckall sn_hi_188 (by decide +kernel)
theorem sn_hi_189 : ∀ pc, 76 ≤ pc → co_Mo_allLines pc = none := fun pc h => sn_ge rfl h (sn_ge rfl h (sn_ge rfl h (sn_ge rfl h (sn_ge rfl h (sn_ge rfl h (sn_ne rfl h))))))
set_option maxRecDepth 100000 in
theorem sn_ck_189 : ∀ pc o, co_Mo_allLines pc = some o → sn_chk 189 11 pc o = true := sn_ckall sn_hi_189 (by decide +kernel)
theorem sn_hi_190 : ∀ pc, 179 ≤ pc → co_Mo_readText pc = none := fun pc h => sn_ge rfl h (sn_ge rfl h (sn_ge rfl h (sn_ge rfl h (sn_ge rfl h (sn_ge rfl h (sn_ge rfl h (sn_ne rfl h)))))))
set_option maxRecDepth 100000 in
theorem sn_ck_190 : ∀ pc o, co_Mo_readText pc = some o → sn_chk 190 11 pc o = true := sn_ckall sn_hi_190 (by decide +kernel)
theorem sn_hi_191 : ∀ pc, 31 ≤ pc → co_Mo_store pc = none := fun pc h => sn_ge rfl h (sn_ge rfl h (sn_ge rfl h (sn_ge rfl h (sn_ge rfl h (sn_ne rfl h)))))
set_option maxRecDepth 100000 in
theorem sn_ck_191 : ∀ pc o, co_Mo_store pc = some o → sn_chk 191 11 pc o = true := sn_ckall sn_hi_191 (by decide +kernel)
theorem sn_hi_192 : ∀ pc, 75 ≤ pc → co_Mo_storeAll pc = none := fun pc h => sn_ge rfl h (sn_ge rfl h (sn_ge rfl h (sn_ge rfl h (sn_ge rfl h (sn_ne rfl h)))))
set_option maxRecDepth 100000 in
theorem sn_ck_192 : ∀ pc o, co_Mo_storeAll pc = some o → sn_chk 192 11 pc o = true := sn_ckall sn_hi_192 (by decide +kernel)
theorem sn_hi_193 : ∀ pc, 128 ≤ pc → co_Mo_text pc = none := fun pc h => sn_ge rfl h (sn_ge rfl h (sn_ge rfl h (sn_ge rfl h (sn_ge rfl h (sn_ge rfl h (sn_ge rfl h (sn_ne rfl h)))))))
set_option maxRecDepth 100000 in
theorem sn_ck_193 : ∀ pc o, co_Mo_text pc = some o → sn_chk 193 11 pc o = true := sn_ckall sn_hi_193 (by decide +kernel)
theorem sn_hi_194 : ∀ pc, 34 ≤ pc → co_Mo_fault pc = none := fun pc h => sn_ge rfl h (sn_ge rfl h (sn_ge rfl h (sn_ge rfl h (sn_ge rfl h (sn_ne rfl h)))))
set_option maxRecDepth 100000 in
theorem sn_ck_194 : ∀ pc o, co_Mo_fault pc = some o → sn_chk 194 11 pc o = true := sn_ckall sn_hi_194 (by decide +kernel)
theorem sn_hi_195 : ∀ pc, 15 ≤ pc → co_Mo_of pc = none := fun pc h => sn_ge rfl h (sn_ge rfl h (sn_ge rfl h (sn_ge rfl h (sn_ne rfl h))))
set_option maxRecDepth 100000 in
theorem sn_ck_195 : ∀ pc o, co_Mo_of pc = some o → sn_chk 195 11 pc o = true := sn_ckall sn_hi_195 (by decide +kernel)
theorem sn_hi_196 : ∀ pc, 31 ≤ pc → co_Mo_hand pc = none := fun pc h => sn_ge rfl h (sn_ge rfl h (sn_ge rfl h (sn_ge rfl h (sn_ge rfl h (sn_ne rfl h)))))
set_option maxRecDepth 100000 in
theorem sn_ck_196 : ∀ pc o, co_Mo_hand pc = some o → sn_chk 196 11 pc o = true := sn_ckall sn_hi_196 (by decide +kernel)
theorem sn_hi_197 : ∀ pc, 12 ≤ pc → co_Mo_isPipe pc = none := fun pc h => sn_ge rfl h (sn_ge rfl h (sn_ge rfl h (sn_ne rfl h)))
set_option maxRecDepth 100000 in
theorem sn_ck_197 : ∀ pc o, co_Mo_isPipe pc = some o → sn_chk 197 11 pc o = true := sn_ckall sn_hi_197 (by decide +kernel)
theorem sn_hi_198 : ∀ pc, 13 ≤ pc → co_Mo_notes pc = none := fun pc h => sn_ge rfl h (sn_ge rfl h (sn_ge rfl h (sn_ne rfl h)))
set_option maxRecDepth 100000 in
theorem sn_ck_198 : ∀ pc o, co_Mo_notes pc = some o → sn_chk 198 11 pc o = true := sn_ckall sn_hi_198 (by decide +kernel)
theorem sn_hi_199 : ∀ pc, 21 ≤ pc → co_Mo_noteOf pc = none := fun pc h => sn_ge rfl h (sn_ge rfl h (sn_ge rfl h (sn_ge rfl h (sn_ne rfl h))))
set_option maxRecDepth 100000 in
theorem sn_ck_199 : ∀ pc o, co_Mo_noteOf pc = some o → sn_chk 199 11 pc o = true := sn_ckall sn_hi_199 (by decide +kernel)
theorem sn_hi_200 : ∀ pc, 12 ≤ pc → co_Mo_hasScore pc = none := fun pc h => sn_ge rfl h (sn_ge rfl h (sn_ge rfl h (sn_ne rfl h)))
set_option maxRecDepth 100000 in
theorem sn_ck_200 : ∀ pc o, co_Mo_hasScore pc = some o → sn_chk 200 11 pc o = true := sn_ckall sn_hi_200 (by decide +kernel)
theorem sn_hi_201 : ∀ pc, 22 ≤ pc → co_Mo_noNotes pc = none := fun pc h => sn_ge rfl h (sn_ge rfl h (sn_ge rfl h (sn_ge rfl h (sn_ne rfl h))))
set_option maxRecDepth 100000 in
theorem sn_ck_201 : ∀ pc o, co_Mo_noNotes pc = some o → sn_chk 201 11 pc o = true := sn_ckall sn_hi_201 (by decide +kernel)
theorem sn_hi_202 : ∀ pc, 56 ≤ pc → co_Mo_layNote pc = none := fun pc h => sn_ge rfl h (sn_ge rfl h (sn_ge rfl h (sn_ge rfl h (sn_ge rfl h (sn_ge rfl h (sn_ne rfl h))))))
set_option maxRecDepth 100000 in
theorem sn_ck_202 : ∀ pc o, co_Mo_layNote pc = some o → sn_chk 202 11 pc o = true := sn_ckall sn_hi_202 (by decide +kernel)
theorem sn_hi_203 : ∀ pc, 27 ≤ pc → co_Mo_layNotes pc = none := fun pc h => sn_ge rfl h (sn_ge rfl h (sn_ge rfl h (sn_ge rfl h (sn_ne rfl h))))
set_option maxRecDepth 100000 in
theorem sn_ck_203 : ∀ pc o, co_Mo_layNotes pc = some o → sn_chk 203 11 pc o = true := sn_ckall sn_hi_203 (by decide +kernel)
theorem sn_hi_204 : ∀ pc, 111 ≤ pc → co_Mo_band pc = none := fun pc h => sn_ge rfl h (sn_ge rfl h (sn_ge rfl h (sn_ge rfl h (sn_ge rfl h (sn_ge rfl h (sn_ne rfl h))))))
set_option maxRecDepth 100000 in
theorem sn_ck_204 : ∀ pc o, co_Mo_band pc = some o → sn_chk 204 11 pc o = true := sn_ckall sn_hi_204 (by decide +kernel)
theorem sn_hi_205 : ∀ pc, 70 ≤ pc → co_Mo_note pc = none := fun pc h => sn_ge rfl h (sn_ge rfl h (sn_ge rfl h (sn_ge rfl h (sn_ge rfl h (sn_ge rfl h (sn_ne rfl h))))))
set_option maxRecDepth 100000 in
theorem sn_ck_205 : ∀ pc o, co_Mo_note pc = some o → sn_chk 205 11 pc o = true := sn_ckall sn_hi_205 (by decide +kernel)
theorem sn_hi_206 : ∀ pc, 27 ≤ pc → co_Mo_treads pc = none := fun pc h => sn_ge rfl h (sn_ge rfl h (sn_ge rfl h (sn_ge rfl h (sn_ge rfl h (sn_ne rfl h)))))
set_option maxRecDepth 100000 in
theorem sn_ck_206 : ∀ pc o, co_Mo_treads pc = some o → sn_chk 206 11 pc o = true := sn_ckall sn_hi_206 (by decide +kernel)
theorem sn_hi_207 : ∀ pc, 49 ≤ pc → co_Mo_asTold pc = none := fun pc h => sn_ge rfl h (sn_ge rfl h (sn_ge rfl h (sn_ge rfl h (sn_ge rfl h (sn_ne rfl h)))))
set_option maxRecDepth 100000 in
theorem sn_ck_207 : ∀ pc o, co_Mo_asTold pc = some o → sn_chk 207 11 pc o = true := sn_ckall sn_hi_207 (by decide +kernel)
theorem sn_hi_208 : ∀ pc, 156 ≤ pc → co_Mo_draws pc = none := fun pc h => sn_ge rfl h (sn_ge rfl h (sn_ge rfl h (sn_ge rfl h (sn_ge rfl h (sn_ge rfl h (sn_ge rfl h (sn_ne rfl h)))))))
set_option maxRecDepth 100000 in
theorem sn_ck_208 : ∀ pc o, co_Mo_draws pc = some o → sn_chk 208 11 pc o = true := sn_ckall sn_hi_208 (by decide +kernel)
theorem sn_hi_209 : ∀ pc, 26 ≤ pc → co_Mo_leastOf pc = none := fun pc h => sn_ge rfl h (sn_ge rfl h (sn_ge rfl h (sn_ge rfl h (sn_ne rfl h))))
set_option maxRecDepth 100000 in
theorem sn_ck_209 : ∀ pc o, co_Mo_leastOf pc = some o → sn_chk 209 11 pc o = true := sn_ckall sn_hi_209 (by decide +kernel)
theorem sn_hi_210 : ∀ pc, 284 ≤ pc → co_Mo_plays pc = none := fun pc h => sn_ge rfl h (sn_ge rfl h (sn_ge rfl h (sn_ge rfl h (sn_ge rfl h (sn_ge rfl h (sn_ge rfl h (sn_ge rfl h (sn_ne rfl h))))))))
set_option maxRecDepth 100000 in
theorem sn_ck_210 : ∀ pc o, co_Mo_plays pc = some o → sn_chk 210 11 pc o = true := sn_ckall sn_hi_210 (by decide +kernel)
theorem sn_hi_211 : ∀ pc, 30 ≤ pc → co_Mo_silentAll pc = none := fun pc h => sn_ge rfl h (sn_ge rfl h (sn_ge rfl h (sn_ge rfl h (sn_ge rfl h (sn_ne rfl h)))))
set_option maxRecDepth 100000 in
theorem sn_ck_211 : ∀ pc o, co_Mo_silentAll pc = some o → sn_chk 211 11 pc o = true := sn_ckall sn_hi_211 (by decide +kernel)
theorem sn_hi_212 : ∀ pc, 27 ≤ pc → co_Mo_isWell pc = none := fun pc h => sn_ge rfl h (sn_ge rfl h (sn_ge rfl h (sn_ge rfl h (sn_ne rfl h))))
set_option maxRecDepth 100000 in
theorem sn_ck_212 : ∀ pc o, co_Mo_isWell pc = some o → sn_chk 212 11 pc o = true := sn_ckall sn_hi_212 (by decide +kernel)
theorem sn_hi_213 : ∀ pc, 84 ≤ pc → co_Mo_ofPlayed pc = none := fun pc h => sn_ge rfl h (sn_ge rfl h (sn_ge rfl h (sn_ge rfl h (sn_ge rfl h (sn_ge rfl h (sn_ne rfl h))))))
set_option maxRecDepth 100000 in
theorem sn_ck_213 : ∀ pc o, co_Mo_ofPlayed pc = some o → sn_chk 213 11 pc o = true := sn_ckall sn_hi_213 (by decide +kernel)
theorem sn_hi_214 : ∀ pc, 45 ≤ pc → co_Mo_layAll pc = none := fun pc h => sn_ge rfl h (sn_ge rfl h (sn_ge rfl h (sn_ge rfl h (sn_ge rfl h (sn_ne rfl h)))))
set_option maxRecDepth 100000 in
theorem sn_ck_214 : ∀ pc o, co_Mo_layAll pc = some o → sn_chk 214 11 pc o = true := sn_ckall sn_hi_214 (by decide +kernel)
theorem sn_hi_215 : ∀ pc, 24 ≤ pc → co_Mo_layBoth pc = none := fun pc h => sn_ge rfl h (sn_ge rfl h (sn_ge rfl h (sn_ge rfl h (sn_ne rfl h))))
set_option maxRecDepth 100000 in
theorem sn_ck_215 : ∀ pc o, co_Mo_layBoth pc = some o → sn_chk 215 11 pc o = true := sn_ckall sn_hi_215 (by decide +kernel)
theorem sn_hi_216 : ∀ pc, 46 ≤ pc → co_Mo_played pc = none := fun pc h => sn_ge rfl h (sn_ge rfl h (sn_ge rfl h (sn_ge rfl h (sn_ge rfl h (sn_ne rfl h)))))
set_option maxRecDepth 100000 in
theorem sn_ck_216 : ∀ pc o, co_Mo_played pc = some o → sn_chk 216 11 pc o = true := sn_ckall sn_hi_216 (by decide +kernel)
theorem sn_hi_217 : ∀ pc, 40 ≤ pc → co_Mo_layShifts pc = none := fun pc h => sn_ge rfl h (sn_ge rfl h (sn_ge rfl h (sn_ge rfl h (sn_ge rfl h (sn_ne rfl h)))))
set_option maxRecDepth 100000 in
theorem sn_ck_217 : ∀ pc o, co_Mo_layShifts pc = some o → sn_chk 217 11 pc o = true := sn_ckall sn_hi_217 (by decide +kernel)
theorem sn_hi_218 : ∀ pc, 85 ≤ pc → co_Mo_laterBy pc = none := fun pc h => sn_ge rfl h (sn_ge rfl h (sn_ge rfl h (sn_ge rfl h (sn_ge rfl h (sn_ge rfl h (sn_ne rfl h))))))
set_option maxRecDepth 100000 in
theorem sn_ck_218 : ∀ pc o, co_Mo_laterBy pc = some o → sn_chk 218 11 pc o = true := sn_ckall sn_hi_218 (by decide +kernel)
theorem sn_hi_219 : ∀ pc, 26 ≤ pc → co_Mo_rowsOf pc = none := fun pc h => sn_ge rfl h (sn_ge rfl h (sn_ge rfl h (sn_ge rfl h (sn_ge rfl h (sn_ne rfl h)))))
set_option maxRecDepth 100000 in
theorem sn_ck_219 : ∀ pc o, co_Mo_rowsOf pc = some o → sn_chk 219 11 pc o = true := sn_ckall sn_hi_219 (by decide +kernel)
theorem sn_hi_220 : ∀ pc, 178 ≤ pc → co_Mo_shift pc = none := fun pc h => sn_ge rfl h (sn_ge rfl h (sn_ge rfl h (sn_ge rfl h (sn_ge rfl h (sn_ge rfl h (sn_ge rfl h (sn_ne rfl h)))))))
set_option maxRecDepth 100000 in
theorem sn_ck_220 : ∀ pc o, co_Mo_shift pc = some o → sn_chk 220 11 pc o = true := sn_ckall sn_hi_220 (by decide +kernel)
theorem sn_hi_221 : ∀ pc, 68 ≤ pc → co_Mo_worthWithout pc = none := fun pc h => sn_ge rfl h (sn_ge rfl h (sn_ge rfl h (sn_ge rfl h (sn_ge rfl h (sn_ge rfl h (sn_ne rfl h))))))
set_option maxRecDepth 100000 in
theorem sn_ck_221 : ∀ pc o, co_Mo_worthWithout pc = some o → sn_chk 221 11 pc o = true := sn_ckall sn_hi_221 (by decide +kernel)
theorem sn_hi_222 : ∀ pc, 137 ≤ pc → co_Mo_cut pc = none := fun pc h => sn_ge rfl h (sn_ge rfl h (sn_ge rfl h (sn_ge rfl h (sn_ge rfl h (sn_ge rfl h (sn_ge rfl h (sn_ne rfl h)))))))
set_option maxRecDepth 100000 in
theorem sn_ck_222 : ∀ pc o, co_Mo_cut pc = some o → sn_chk 222 11 pc o = true := sn_ckall sn_hi_222 (by decide +kernel)
theorem sn_hi_223 : ∀ pc, 102 ≤ pc → co_Mo_work pc = none := fun pc h => sn_ge rfl h (sn_ge rfl h (sn_ge rfl h (sn_ge rfl h (sn_ge rfl h (sn_ge rfl h (sn_ne rfl h))))))
set_option maxRecDepth 100000 in
theorem sn_ck_223 : ∀ pc o, co_Mo_work pc = some o → sn_chk 223 11 pc o = true := sn_ckall sn_hi_223 (by decide +kernel)
theorem sn_hi_224 : ∀ pc, 215 ≤ pc → co_Mo_blind pc = none := fun pc h => sn_ge rfl h (sn_ge rfl h (sn_ge rfl h (sn_ge rfl h (sn_ge rfl h (sn_ge rfl h (sn_ge rfl h (sn_ne rfl h)))))))
set_option maxRecDepth 100000 in
theorem sn_ck_224 : ∀ pc o, co_Mo_blind pc = some o → sn_chk 224 11 pc o = true := sn_ckall sn_hi_224 (by decide +kernel)
theorem sn_hi_225 : ∀ pc, 22 ≤ pc → co_Mo_xOf pc = none := fun pc h => sn_ge rfl h (sn_ge rfl h (sn_ge rfl h (sn_ge rfl h (sn_ne rfl h))))
set_option maxRecDepth 100000 in
theorem sn_ck_225 : ∀ pc o, co_Mo_xOf pc = some o → sn_chk 225 11 pc o = true := sn_ckall sn_hi_225 (by decide +kernel)
theorem sn_hi_226 : ∀ pc, 22 ≤ pc → co_Mo_yOf pc = none := fun pc h => sn_ge rfl h (sn_ge rfl h (sn_ge rfl h (sn_ge rfl h (sn_ne rfl h))))
set_option maxRecDepth 100000 in
theorem sn_ck_226 : ∀ pc o, co_Mo_yOf pc = some o → sn_chk 226 11 pc o = true := sn_ckall sn_hi_226 (by decide +kernel)
theorem sn_hi_227 : ∀ pc, 50 ≤ pc → co_Mo_way pc = none := fun pc h => sn_ge rfl h (sn_ge rfl h (sn_ge rfl h (sn_ge rfl h (sn_ge rfl h (sn_ne rfl h)))))
set_option maxRecDepth 100000 in
theorem sn_ck_227 : ∀ pc o, co_Mo_way pc = some o → sn_chk 227 11 pc o = true := sn_ckall sn_hi_227 (by decide +kernel)
theorem sn_hi_228 : ∀ pc, 55 ≤ pc → co_Mo_nextTo pc = none := fun pc h => sn_ge rfl h (sn_ge rfl h (sn_ge rfl h (sn_ge rfl h (sn_ge rfl h (sn_ne rfl h)))))
set_option maxRecDepth 100000 in
theorem sn_ck_228 : ∀ pc o, co_Mo_nextTo pc = some o → sn_chk 228 11 pc o = true := sn_ckall sn_hi_228 (by decide +kernel)
theorem sn_hi_229 : ∀ pc, 146 ≤ pc → co_Mo_leatherOf pc = none := fun pc h => sn_ge rfl h (sn_ge rfl h (sn_ge rfl h (sn_ge rfl h (sn_ge rfl h (sn_ge rfl h (sn_ge rfl h (sn_ne rfl h)))))))
set_option maxRecDepth 100000 in
theorem sn_ck_229 : ∀ pc o, co_Mo_leatherOf pc = some o → sn_chk 229 11 pc o = true := sn_ckall sn_hi_229 (by decide +kernel)
theorem sn_hi_230 : ∀ pc, 16 ≤ pc → co_Mo_handHome pc = none := fun pc h => sn_ge rfl h (sn_ge rfl h (sn_ge rfl h (sn_ge rfl h (sn_ne rfl h))))
set_option maxRecDepth 100000 in
theorem sn_ck_230 : ∀ pc o, co_Mo_handHome pc = some o → sn_chk 230 11 pc o = true := sn_ckall sn_hi_230 (by decide +kernel)
theorem sn_hi_231 : ∀ pc, 39 ≤ pc → co_Mo_leather pc = none := fun pc h => sn_ge rfl h (sn_ge rfl h (sn_ge rfl h (sn_ge rfl h (sn_ge rfl h (sn_ne rfl h)))))
set_option maxRecDepth 100000 in
theorem sn_ck_231 : ∀ pc o, co_Mo_leather pc = some o → sn_chk 231 11 pc o = true := sn_ckall sn_hi_231 (by decide +kernel)
theorem sn_hi_232 : ∀ pc, 21 ≤ pc → co_Mo_rowsOfAll pc = none := fun pc h => sn_ge rfl h (sn_ge rfl h (sn_ge rfl h (sn_ge rfl h (sn_ne rfl h))))
set_option maxRecDepth 100000 in
theorem sn_ck_232 : ∀ pc o, co_Mo_rowsOfAll pc = some o → sn_chk 232 11 pc o = true := sn_ckall sn_hi_232 (by decide +kernel)
theorem sn_hi_233 : ∀ pc, 45 ≤ pc → co_Mo_common pc = none := fun pc h => sn_ge rfl h (sn_ge rfl h (sn_ge rfl h (sn_ge rfl h (sn_ge rfl h (sn_ne rfl h)))))
set_option maxRecDepth 100000 in
theorem sn_ck_233 : ∀ pc o, co_Mo_common pc = some o → sn_chk 233 11 pc o = true := sn_ckall sn_hi_233 (by decide +kernel)
theorem sn_hi_234 : ∀ pc, 28 ≤ pc → co_Mo_part pc = none := fun pc h => sn_ge rfl h (sn_ge rfl h (sn_ge rfl h (sn_ge rfl h (sn_ge rfl h (sn_ne rfl h)))))
set_option maxRecDepth 100000 in
theorem sn_ck_234 : ∀ pc o, co_Mo_part pc = some o → sn_chk 234 11 pc o = true := sn_ckall sn_hi_234 (by decide +kernel)
theorem sn_hi_235 : ∀ pc, 125 ≤ pc → co_Mo_share pc = none := fun pc h => sn_ge rfl h (sn_ge rfl h (sn_ge rfl h (sn_ge rfl h (sn_ge rfl h (sn_ge rfl h (sn_ge rfl h (sn_ne rfl h)))))))
set_option maxRecDepth 100000 in
theorem sn_ck_235 : ∀ pc o, co_Mo_share pc = some o → sn_chk 235 11 pc o = true := sn_ckall sn_hi_235 (by decide +kernel)
theorem sn_hi_236 : ∀ pc, 22 ≤ pc → co_Mo_sevens pc = none := fun pc h => sn_ge rfl h (sn_ge rfl h (sn_ge rfl h (sn_ge rfl h (sn_ne rfl h))))
set_option maxRecDepth 100000 in
theorem sn_ck_236 : ∀ pc o, co_Mo_sevens pc = some o → sn_chk 236 11 pc o = true := sn_ckall sn_hi_236 (by decide +kernel)
theorem sn_hi_237 : ∀ pc, 167 ≤ pc → co_Mo_endOf pc = none := fun pc h => sn_ge rfl h (sn_ge rfl h (sn_ge rfl h (sn_ge rfl h (sn_ge rfl h (sn_ge rfl h (sn_ge rfl h (sn_ne rfl h)))))))
set_option maxRecDepth 100000 in
theorem sn_ck_237 : ∀ pc o, co_Mo_endOf pc = some o → sn_chk 237 11 pc o = true := sn_ckall sn_hi_237 (by decide +kernel)
theorem sn_hi_238 : ∀ pc, 81 ≤ pc → co_Mo_fold pc = none := fun pc h => sn_ge rfl h (sn_ge rfl h (sn_ge rfl h (sn_ge rfl h (sn_ge rfl h (sn_ge rfl h (sn_ne rfl h))))))
set_option maxRecDepth 100000 in
theorem sn_ck_238 : ∀ pc o, co_Mo_fold pc = some o → sn_chk 238 11 pc o = true := sn_ckall sn_hi_238 (by decide +kernel)
theorem sn_hi_239 : ∀ pc, 152 ≤ pc → co_Mo_duel pc = none := fun pc h => sn_ge rfl h (sn_ge rfl h (sn_ge rfl h (sn_ge rfl h (sn_ge rfl h (sn_ge rfl h (sn_ge rfl h (sn_ne rfl h)))))))
set_option maxRecDepth 100000 in
theorem sn_ck_239 : ∀ pc o, co_Mo_duel pc = some o → sn_chk 239 11 pc o = true := sn_ckall sn_hi_239 (by decide +kernel)
theorem sn_hi_240 : ∀ pc, 23 ≤ pc → co_Mo_power pc = none := fun pc h => sn_ge rfl h (sn_ge rfl h (sn_ge rfl h (sn_ge rfl h (sn_ne rfl h))))
set_option maxRecDepth 100000 in
theorem sn_ck_240 : ∀ pc o, co_Mo_power pc = some o → sn_chk 240 11 pc o = true := sn_ckall sn_hi_240 (by decide +kernel)
theorem sn_hi_241 : ∀ pc, 242 ≤ pc → co_Mo_mouse pc = none := fun pc h => sn_ge rfl h (sn_ge rfl h (sn_ge rfl h (sn_ge rfl h (sn_ge rfl h (sn_ge rfl h (sn_ge rfl h (sn_ge rfl h (sn_ne rfl h))))))))
set_option maxRecDepth 100000 in
theorem sn_ck_241 : ∀ pc o, co_Mo_mouse pc = some o → sn_chk 241 11 pc o = true := sn_ckall sn_hi_241 (by decide +kernel)
theorem sn_hi_242 : ∀ pc, 21 ≤ pc → co_Mo_lineOf pc = none := fun pc h => sn_ge rfl h (sn_ge rfl h (sn_ge rfl h (sn_ge rfl h (sn_ne rfl h))))
set_option maxRecDepth 100000 in
theorem sn_ck_242 : ∀ pc o, co_Mo_lineOf pc = some o → sn_chk 242 11 pc o = true := sn_ckall sn_hi_242 (by decide +kernel)
theorem sn_hi_243 : ∀ pc, 13 ≤ pc → co_Mo_heardLines pc = none := fun pc h => sn_ge rfl h (sn_ge rfl h (sn_ge rfl h (sn_ne rfl h)))
set_option maxRecDepth 100000 in
theorem sn_ck_243 : ∀ pc o, co_Mo_heardLines pc = some o → sn_chk 243 11 pc o = true := sn_ckall sn_hi_243 (by decide +kernel)
theorem sn_hi_244 : ∀ pc, 12 ≤ pc → co_Mo_hasLog pc = none := fun pc h => sn_ge rfl h (sn_ge rfl h (sn_ge rfl h (sn_ne rfl h)))
set_option maxRecDepth 100000 in
theorem sn_ck_244 : ∀ pc o, co_Mo_hasLog pc = some o → sn_chk 244 11 pc o = true := sn_ckall sn_hi_244 (by decide +kernel)
theorem sn_hi_245 : ∀ pc, 70 ≤ pc → co_Mo_line pc = none := fun pc h => sn_ge rfl h (sn_ge rfl h (sn_ge rfl h (sn_ge rfl h (sn_ge rfl h (sn_ge rfl h (sn_ne rfl h))))))
set_option maxRecDepth 100000 in
theorem sn_ck_245 : ∀ pc o, co_Mo_line pc = some o → sn_chk 245 11 pc o = true := sn_ckall sn_hi_245 (by decide +kernel)
theorem sn_hi_246 : ∀ pc, 43 ≤ pc → co_Mo_isHeard pc = none := fun pc h => sn_ge rfl h (sn_ge rfl h (sn_ge rfl h (sn_ge rfl h (sn_ge rfl h (sn_ne rfl h)))))
set_option maxRecDepth 100000 in
theorem sn_ck_246 : ∀ pc o, co_Mo_isHeard pc = some o → sn_chk 246 11 pc o = true := sn_ckall sn_hi_246 (by decide +kernel)
theorem sn_hi_247 : ∀ pc, 144 ≤ pc → co_Mo_layLog pc = none := fun pc h => sn_ge rfl h (sn_ge rfl h (sn_ge rfl h (sn_ge rfl h (sn_ge rfl h (sn_ge rfl h (sn_ge rfl h (sn_ne rfl h)))))))
set_option maxRecDepth 100000 in
theorem sn_ck_247 : ∀ pc o, co_Mo_layLog pc = some o → sn_chk 247 11 pc o = true := sn_ckall sn_hi_247 (by decide +kernel)
theorem sn_hi_248 : ∀ pc, 110 ≤ pc → co_Mo_counts pc = none := fun pc h => sn_ge rfl h (sn_ge rfl h (sn_ge rfl h (sn_ge rfl h (sn_ge rfl h (sn_ge rfl h (sn_ne rfl h))))))
set_option maxRecDepth 100000 in
theorem sn_ck_248 : ∀ pc o, co_Mo_counts pc = some o → sn_chk 248 11 pc o = true := sn_ckall sn_hi_248 (by decide +kernel)
theorem sn_hi_249 : ∀ pc, 86 ≤ pc → co_Mo_next pc = none := fun pc h => sn_ge rfl h (sn_ge rfl h (sn_ge rfl h (sn_ge rfl h (sn_ge rfl h (sn_ge rfl h (sn_ne rfl h))))))
set_option maxRecDepth 100000 in
theorem sn_ck_249 : ∀ pc o, co_Mo_next pc = some o → sn_chk 249 11 pc o = true := sn_ckall sn_hi_249 (by decide +kernel)
theorem sn_hi_250 : ∀ pc, 39 ≤ pc → co_Mo_kth pc = none := fun pc h => sn_ge rfl h (sn_ge rfl h (sn_ge rfl h (sn_ge rfl h (sn_ge rfl h (sn_ne rfl h)))))
set_option maxRecDepth 100000 in
theorem sn_ck_250 : ∀ pc o, co_Mo_kth pc = some o → sn_chk 250 11 pc o = true := sn_ckall sn_hi_250 (by decide +kernel)
theorem sn_hi_251 : ∀ pc, 93 ≤ pc → co_Mo_fits pc = none := fun pc h => sn_ge rfl h (sn_ge rfl h (sn_ge rfl h (sn_ge rfl h (sn_ge rfl h (sn_ge rfl h (sn_ne rfl h))))))
set_option maxRecDepth 100000 in
theorem sn_ck_251 : ∀ pc o, co_Mo_fits pc = some o → sn_chk 251 11 pc o = true := sn_ckall sn_hi_251 (by decide +kernel)
theorem sn_hi_252 : ∀ pc, 26 ≤ pc → co_Mo_draw pc = none := fun pc h => sn_ge rfl h (sn_ge rfl h (sn_ge rfl h (sn_ge rfl h (sn_ne rfl h))))
set_option maxRecDepth 100000 in
theorem sn_ck_252 : ∀ pc o, co_Mo_draw pc = some o → sn_chk 252 11 pc o = true := sn_ckall sn_hi_252 (by decide +kernel)
theorem sn_hi_253 : ∀ pc, 90 ≤ pc → co_Mo_drawn pc = none := fun pc h => sn_ge rfl h (sn_ge rfl h (sn_ge rfl h (sn_ge rfl h (sn_ge rfl h (sn_ge rfl h (sn_ne rfl h))))))
set_option maxRecDepth 100000 in
theorem sn_ck_253 : ∀ pc o, co_Mo_drawn pc = some o → sn_chk 253 11 pc o = true := sn_ckall sn_hi_253 (by decide +kernel)
theorem sn_hi_254 : ∀ pc, 27 ≤ pc → co_Mo_failed pc = none := fun pc h => sn_ge rfl h (sn_ge rfl h (sn_ge rfl h (sn_ge rfl h (sn_ne rfl h))))
set_option maxRecDepth 100000 in
theorem sn_ck_254 : ∀ pc o, co_Mo_failed pc = some o → sn_chk 254 11 pc o = true := sn_ckall sn_hi_254 (by decide +kernel)
theorem sn_hi_255 : ∀ pc, 45 ≤ pc → co_Mo_loudest pc = none := fun pc h => sn_ge rfl h (sn_ge rfl h (sn_ge rfl h (sn_ge rfl h (sn_ge rfl h (sn_ne rfl h)))))
set_option maxRecDepth 100000 in
theorem sn_ck_255 : ∀ pc o, co_Mo_loudest pc = some o → sn_chk 255 11 pc o = true := sn_ckall sn_hi_255 (by decide +kernel)
theorem sn_hi_256 : ∀ pc, 110 ≤ pc → co_Mo_allOf pc = none := fun pc h => sn_ge rfl h (sn_ge rfl h (sn_ge rfl h (sn_ge rfl h (sn_ge rfl h (sn_ge rfl h (sn_ne rfl h))))))
set_option maxRecDepth 100000 in
theorem sn_ck_256 : ∀ pc o, co_Mo_allOf pc = some o → sn_chk 256 11 pc o = true := sn_ckall sn_hi_256 (by decide +kernel)
theorem sn_hi_257 : ∀ pc, 82 ≤ pc → co_Mo_longestHush pc = none := fun pc h => sn_ge rfl h (sn_ge rfl h (sn_ge rfl h (sn_ge rfl h (sn_ge rfl h (sn_ge rfl h (sn_ne rfl h))))))
set_option maxRecDepth 100000 in
theorem sn_ck_257 : ∀ pc o, co_Mo_longestHush pc = some o → sn_chk 257 11 pc o = true := sn_ckall sn_hi_257 (by decide +kernel)
theorem sn_hi_258 : ∀ pc, 136 ≤ pc → co_Mo_after pc = none := fun pc h => sn_ge rfl h (sn_ge rfl h (sn_ge rfl h (sn_ge rfl h (sn_ge rfl h (sn_ge rfl h (sn_ne rfl h))))))
set_option maxRecDepth 100000 in
theorem sn_ck_258 : ∀ pc o, co_Mo_after pc = some o → sn_chk 258 11 pc o = true := sn_ckall sn_hi_258 (by decide +kernel)
theorem sn_hi_259 : ∀ pc, 77 ≤ pc → co_Mo_isWellBy pc = none := fun pc h => sn_ge rfl h (sn_ge rfl h (sn_ge rfl h (sn_ge rfl h (sn_ge rfl h (sn_ge rfl h (sn_ne rfl h))))))
set_option maxRecDepth 100000 in
theorem sn_ck_259 : ∀ pc o, co_Mo_isWellBy pc = some o → sn_chk 259 11 pc o = true := sn_ckall sn_hi_259 (by decide +kernel)
theorem sn_hi_260 : ∀ pc, 94 ≤ pc → co_Mo_need pc = none := fun pc h => sn_ge rfl h (sn_ge rfl h (sn_ge rfl h (sn_ge rfl h (sn_ge rfl h (sn_ge rfl h (sn_ne rfl h))))))
set_option maxRecDepth 100000 in
theorem sn_ck_260 : ∀ pc o, co_Mo_need pc = some o → sn_chk 260 11 pc o = true := sn_ckall sn_hi_260 (by decide +kernel)
theorem sn_hi_261 : ∀ pc, 27 ≤ pc → co_Mo_swap pc = none := fun pc h => sn_ge rfl h (sn_ge rfl h (sn_ge rfl h (sn_ge rfl h (sn_ge rfl h (sn_ne rfl h)))))
set_option maxRecDepth 100000 in
theorem sn_ck_261 : ∀ pc o, co_Mo_swap pc = some o → sn_chk 261 11 pc o = true := sn_ckall sn_hi_261 (by decide +kernel)
theorem sn_hi_262 : ∀ pc, 106 ≤ pc → co_Mo_nextRow pc = none := fun pc h => sn_ge rfl h (sn_ge rfl h (sn_ge rfl h (sn_ge rfl h (sn_ge rfl h (sn_ge rfl h (sn_ne rfl h))))))
set_option maxRecDepth 100000 in
theorem sn_ck_262 : ∀ pc o, co_Mo_nextRow pc = some o → sn_chk 262 11 pc o = true := sn_ckall sn_hi_262 (by decide +kernel)
theorem sn_hi_263 : ∀ pc, 136 ≤ pc → co_Mo_rank pc = none := fun pc h => sn_ge rfl h (sn_ge rfl h (sn_ge rfl h (sn_ge rfl h (sn_ge rfl h (sn_ge rfl h (sn_ge rfl h (sn_ne rfl h)))))))
set_option maxRecDepth 100000 in
theorem sn_ck_263 : ∀ pc o, co_Mo_rank pc = some o → sn_chk 263 11 pc o = true := sn_ckall sn_hi_263 (by decide +kernel)
theorem sn_hi_264 : ∀ pc, 68 ≤ pc → co_Mo_canon pc = none := fun pc h => sn_ge rfl h (sn_ge rfl h (sn_ge rfl h (sn_ge rfl h (sn_ge rfl h (sn_ge rfl h (sn_ne rfl h))))))
set_option maxRecDepth 100000 in
theorem sn_ck_264 : ∀ pc o, co_Mo_canon pc = some o → sn_chk 264 11 pc o = true := sn_ckall sn_hi_264 (by decide +kernel)
theorem sn_hi_265 : ∀ pc, 115 ≤ pc → co_Mo_odds pc = none := fun pc h => sn_ge rfl h (sn_ge rfl h (sn_ge rfl h (sn_ge rfl h (sn_ge rfl h (sn_ge rfl h (sn_ne rfl h))))))
set_option maxRecDepth 100000 in
theorem sn_ck_265 : ∀ pc o, co_Mo_odds pc = some o → sn_chk 265 11 pc o = true := sn_ckall sn_hi_265 (by decide +kernel)
theorem sn_hi_266 : ∀ pc, 65 ≤ pc → co_Mo_mean pc = none := fun pc h => sn_ge rfl h (sn_ge rfl h (sn_ge rfl h (sn_ge rfl h (sn_ge rfl h (sn_ge rfl h (sn_ne rfl h))))))
set_option maxRecDepth 100000 in
theorem sn_ck_266 : ∀ pc o, co_Mo_mean pc = some o → sn_chk 266 11 pc o = true := sn_ckall sn_hi_266 (by decide +kernel)
theorem sn_hi_267 : ∀ pc, 87 ≤ pc → co_Mo_isOver pc = none := fun pc h => sn_ge rfl h (sn_ge rfl h (sn_ge rfl h (sn_ge rfl h (sn_ge rfl h (sn_ge rfl h (sn_ne rfl h))))))
set_option maxRecDepth 100000 in
theorem sn_ck_267 : ∀ pc o, co_Mo_isOver pc = some o → sn_chk 267 11 pc o = true := sn_ckall sn_hi_267 (by decide +kernel)
theorem sn_hi_268 : ∀ pc, 50 ≤ pc → co_Mo_overs pc = none := fun pc h => sn_ge rfl h (sn_ge rfl h (sn_ge rfl h (sn_ge rfl h (sn_ge rfl h (sn_ne rfl h)))))
set_option maxRecDepth 100000 in
theorem sn_ck_268 : ∀ pc o, co_Mo_overs pc = some o → sn_chk 268 11 pc o = true := sn_ckall sn_hi_268 (by decide +kernel)
theorem sn_hi_269 : ∀ pc, 45 ≤ pc → co_Mo_densest pc = none := fun pc h => sn_ge rfl h (sn_ge rfl h (sn_ge rfl h (sn_ge rfl h (sn_ge rfl h (sn_ne rfl h)))))
set_option maxRecDepth 100000 in
theorem sn_ck_269 : ∀ pc o, co_Mo_densest pc = some o → sn_chk 269 11 pc o = true := sn_ckall sn_hi_269 (by decide +kernel)
theorem sn_hi_270 : ∀ pc, 135 ≤ pc → co_Mo_dense pc = none := fun pc h => sn_ge rfl h (sn_ge rfl h (sn_ge rfl h (sn_ge rfl h (sn_ge rfl h (sn_ge rfl h (sn_ne rfl h))))))
set_option maxRecDepth 100000 in
theorem sn_ck_270 : ∀ pc o, co_Mo_dense pc = some o → sn_chk 270 11 pc o = true := sn_ckall sn_hi_270 (by decide +kernel)
theorem sn_hi_271 : ∀ pc, 104 ≤ pc → co_Mo_like pc = none := fun pc h => sn_ge rfl h (sn_ge rfl h (sn_ge rfl h (sn_ge rfl h (sn_ge rfl h (sn_ge rfl h (sn_ne rfl h))))))
set_option maxRecDepth 100000 in
theorem sn_ck_271 : ∀ pc o, co_Mo_like pc = some o → sn_chk 271 11 pc o = true := sn_ckall sn_hi_271 (by decide +kernel)
theorem sn_hi_272 : ∀ pc, 43 ≤ pc → co_Mo_joined pc = none := fun pc h => sn_ge rfl h (sn_ge rfl h (sn_ge rfl h (sn_ge rfl h (sn_ge rfl h (sn_ne rfl h)))))
set_option maxRecDepth 100000 in
theorem sn_ck_272 : ∀ pc o, co_Mo_joined pc = some o → sn_chk 272 11 pc o = true := sn_ckall sn_hi_272 (by decide +kernel)
theorem sn_hi_273 : ∀ pc, 52 ≤ pc → co_Mo_round pc = none := fun pc h => sn_ge rfl h (sn_ge rfl h (sn_ge rfl h (sn_ge rfl h (sn_ge rfl h (sn_ge rfl h (sn_ne rfl h))))))
set_option maxRecDepth 100000 in
theorem sn_ck_273 : ∀ pc o, co_Mo_round pc = some o → sn_chk 273 11 pc o = true := sn_ckall sn_hi_273 (by decide +kernel)
theorem sn_hi_274 : ∀ pc, 117 ≤ pc → co_Mo_tour pc = none := fun pc h => sn_ge rfl h (sn_ge rfl h (sn_ge rfl h (sn_ge rfl h (sn_ge rfl h (sn_ge rfl h (sn_ne rfl h))))))
set_option maxRecDepth 100000 in
theorem sn_ck_274 : ∀ pc o, co_Mo_tour pc = some o → sn_chk 274 11 pc o = true := sn_ckall sn_hi_274 (by decide +kernel)
theorem sn_hi_275 : ∀ pc, 104 ≤ pc → co_Mo_centre pc = none := fun pc h => sn_ge rfl h (sn_ge rfl h (sn_ge rfl h (sn_ge rfl h (sn_ge rfl h (sn_ge rfl h (sn_ne rfl h))))))
set_option maxRecDepth 100000 in
theorem sn_ck_275 : ∀ pc o, co_Mo_centre pc = some o → sn_chk 275 11 pc o = true := sn_ckall sn_hi_275 (by decide +kernel)
theorem sn_hi_276 : ∀ pc, 46 ≤ pc → co_Mo_sumOf pc = none := fun pc h => sn_ge rfl h (sn_ge rfl h (sn_ge rfl h (sn_ge rfl h (sn_ge rfl h (sn_ne rfl h)))))
set_option maxRecDepth 100000 in
theorem sn_ck_276 : ∀ pc o, co_Mo_sumOf pc = some o → sn_chk 276 11 pc o = true := sn_ckall sn_hi_276 (by decide +kernel)
theorem sn_hi_277 : ∀ pc, 130 ≤ pc → co_Mo_chord pc = none := fun pc h => sn_ge rfl h (sn_ge rfl h (sn_ge rfl h (sn_ge rfl h (sn_ge rfl h (sn_ge rfl h (sn_ge rfl h (sn_ne rfl h)))))))
set_option maxRecDepth 100000 in
theorem sn_ck_277 : ∀ pc o, co_Mo_chord pc = some o → sn_chk 277 11 pc o = true := sn_ckall sn_hi_277 (by decide +kernel)
theorem sn_hi_278 : ∀ pc, 69 ≤ pc → co_Mo_leaves pc = none := fun pc h => sn_ge rfl h (sn_ge rfl h (sn_ge rfl h (sn_ge rfl h (sn_ge rfl h (sn_ge rfl h (sn_ne rfl h))))))
set_option maxRecDepth 100000 in
theorem sn_ck_278 : ∀ pc o, co_Mo_leaves pc = some o → sn_chk 278 11 pc o = true := sn_ckall sn_hi_278 (by decide +kernel)
theorem sn_hi_279 : ∀ pc, 120 ≤ pc → co_Mo_toil pc = none := fun pc h => sn_ge rfl h (sn_ge rfl h (sn_ge rfl h (sn_ge rfl h (sn_ge rfl h (sn_ge rfl h (sn_ne rfl h))))))
set_option maxRecDepth 100000 in
theorem sn_ck_279 : ∀ pc o, co_Mo_toil pc = some o → sn_chk 279 11 pc o = true := sn_ckall sn_hi_279 (by decide +kernel)
theorem sn_hi_280 : ∀ pc, 56 ≤ pc → co_Mo_trodden pc = none := fun pc h => sn_ge rfl h (sn_ge rfl h (sn_ge rfl h (sn_ge rfl h (sn_ge rfl h (sn_ne rfl h)))))
set_option maxRecDepth 100000 in
theorem sn_ck_280 : ∀ pc o, co_Mo_trodden pc = some o → sn_chk 280 11 pc o = true := sn_ckall sn_hi_280 (by decide +kernel)
theorem sn_hi_281 : ∀ pc, 26 ≤ pc → co_Mo_count pc = none := fun pc h => sn_ge rfl h (sn_ge rfl h (sn_ge rfl h (sn_ge rfl h (sn_ne rfl h))))
set_option maxRecDepth 100000 in
theorem sn_ck_281 : ∀ pc o, co_Mo_count pc = some o → sn_chk 281 11 pc o = true := sn_ckall sn_hi_281 (by decide +kernel)
theorem sn_hi_282 : ∀ pc, 33 ≤ pc → co_Mo_image pc = none := fun pc h => sn_ge rfl h (sn_ge rfl h (sn_ge rfl h (sn_ge rfl h (sn_ge rfl h (sn_ne rfl h)))))
set_option maxRecDepth 100000 in
theorem sn_ck_282 : ∀ pc o, co_Mo_image pc = some o → sn_chk 282 11 pc o = true := sn_ckall sn_hi_282 (by decide +kernel)
theorem sn_hi_283 : ∀ pc, 35 ≤ pc → co_Mo_again pc = none := fun pc h => sn_ge rfl h (sn_ge rfl h (sn_ge rfl h (sn_ge rfl h (sn_ge rfl h (sn_ne rfl h)))))
set_option maxRecDepth 100000 in
theorem sn_ck_283 : ∀ pc o, co_Mo_again pc = some o → sn_chk 283 11 pc o = true := sn_ckall sn_hi_283 (by decide +kernel)
