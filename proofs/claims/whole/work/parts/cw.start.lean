section
abbrev st_m0 : pm_M := ([], (fun _ => false), (fun _ _ => 0), (fun _ _ => 0), (fun _ _ => 0))
abbrev st_m2 : pm_M := (st_m0.1 ++ [1], pm_set (st_m0.2.1) 1, st_m0.2.2.1, st_m0.2.2.2.1, st_m0.2.2.2.2)
abbrev st_m4 : pm_M := (st_m2.1 ++ [2], pm_set (st_m2.2.1) 2, st_m2.2.2.1, st_m2.2.2.2.1, st_m2.2.2.2.2)
abbrev st_m6 : pm_M := (st_m4.1 ++ [3] ++ [4] ++ [5] ++ [6] ++ [7] ++ [8] ++ [9], pm_set (pm_set (pm_set (pm_set (pm_set (pm_set (pm_set (st_m4.2.1) 3) 4) 5) 6) 7) 8) 9, pm_up (pm_up (pm_up (pm_up (pm_up (pm_up (st_m4.2.2.1) 2 0 3) 2 4 4) 2 5 5) 2 6 6) 2 7 7) 2 8 8, pm_up (pm_up (pm_up (st_m4.2.2.2.1) 2 1 0) 2 2 0) 2 3 (-1), st_m4.2.2.2.2)
abbrev st_m8 : pm_M := (st_m6.1 ++ [10] ++ [11] ++ [12] ++ [13], pm_set (pm_set (pm_set (pm_set (st_m6.2.1) 10) 11) 12) 13, pm_up (pm_up (pm_up (pm_up (st_m6.2.2.1) 9 5 10) 9 6 11) 9 7 12) 9 8 13, st_m6.2.2.2.1, st_m6.2.2.2.2)
abbrev st_m10 : pm_M := (st_m8.1, st_m8.2.1, st_m8.2.2.1, pm_up (pm_up (pm_up (pm_up (pm_up (st_m8.2.2.2.1) 9 0 20) 9 1 1) 9 2 5) 9 3 6) 9 4 0, st_m8.2.2.2.2)
set_option maxRecDepth 20000 in
theorem st_c5_s0 {X : Nat × (Nat → Int32)} {d : Nat}  : Rn X d co_Ba_clear (0, [some (vr 9)], [], st_m8) = some (none, st_m10) := (Sg_eq X d co_Ba_clear (fun _ => false) 16 _).trans rfl
theorem st_c5 {X : Nat × (Nat → Int32)} {d : Nat}  : Cl X (d + 1) 7 [vr 9] st_m8 = some (none, st_m10) := by
  rw [Cl_s]
  show Rn X (d) co_Ba_clear (0, [some (vr 9)], [], st_m8) = _
  rw [st_c5_s0]
set_option maxRecDepth 20000 in
theorem st_c4_s0 {X : Nat × (Nat → Int32)} {d : Nat}  : Rn X d co_Ba_init (0, [some (vr 9)], [], st_m6) = ((Cl X d 7 [vr 9] st_m8).bind pm_av).bind (fun r => Rn X d co_Ba_init (40, [some (vr 9)], [], r)) := (Sg_eq X d co_Ba_init (fun p => Nat.beq p 40) 20 _).trans rfl
set_option maxRecDepth 20000 in
theorem st_c4_s1 {X : Nat × (Nat → Int32)} {d : Nat}  : Rn X d co_Ba_init (40, [some (vr 9)], [], st_m10) = some (none, st_m10) := (Sg_eq X d co_Ba_init (fun _ => false) 1 _).trans rfl
theorem st_c4 {X : Nat × (Nat → Int32)} {d : Nat}  : Cl X (d + 2) 6 [vr 9] st_m6 = some (none, st_m10) := by
  rw [Cl_s]
  show Rn X (d + 1) co_Ba_init (0, [some (vr 9)], [], st_m6) = _
  rw [st_c4_s0, st_c5 (X := X) (d := d)]
  simp only [Option.bind_some, pm_av]
  rw [st_c4_s1]
abbrev st_m12 : pm_M := (st_m10.1 ++ [19], pm_set (st_m10.2.1) 19, pm_up (st_m10.2.2.1) 5 0 9, st_m10.2.2.2.1, st_m10.2.2.2.2)
abbrev st_m14 : pm_M := (st_m12.1 ++ [20] ++ [21] ++ [22], pm_set (pm_set (pm_set (st_m12.2.1) 20) 21) 22, pm_up (pm_up (pm_up (st_m12.2.2.1) 19 1 20) 19 2 21) 19 3 22, pm_up (st_m12.2.2.2.1) 19 0 0, st_m12.2.2.2.2)
set_option maxRecDepth 20000 in
theorem st_c6_s0 {X : Nat × (Nat → Int32)} {d : Nat}  : Rn X d co_Sc_init (0, [some (vr 19)], [], st_m12) = some (none, st_m14) := (Sg_eq X d co_Sc_init (fun _ => false) 18 _).trans rfl
theorem st_c6 {X : Nat × (Nat → Int32)} {d : Nat}  : Cl X (d + 1) 76 [vr 19] st_m12 = some (none, st_m14) := by
  rw [Cl_s]
  show Rn X (d) co_Sc_init (0, [some (vr 19)], [], st_m12) = _
  rw [st_c6_s0]
abbrev st_m16 : pm_M := (st_m14.1 ++ [27], pm_set (st_m14.2.1) 27, pm_up (st_m14.2.2.1) 6 0 19, st_m14.2.2.2.1, st_m14.2.2.2.2)
abbrev st_m18 : pm_M := (st_m16.1 ++ [28] ++ [29], pm_set (pm_set (st_m16.2.1) 28) 29, pm_up (pm_up (st_m16.2.2.1) 27 1 28) 27 2 29, pm_up (st_m16.2.2.2.1) 27 0 0, st_m16.2.2.2.2)
set_option maxRecDepth 20000 in
theorem st_c7_s0 {X : Nat × (Nat → Int32)} {d : Nat}  : Rn X d co_Lo_init (0, [some (vr 27)], [], st_m16) = some (none, st_m18) := (Sg_eq X d co_Lo_init (fun _ => false) 14 _).trans rfl
theorem st_c7 {X : Nat × (Nat → Int32)} {d : Nat}  : Cl X (d + 1) 35 [vr 27] st_m16 = some (none, st_m18) := by
  rw [Cl_s]
  show Rn X (d) co_Lo_init (0, [some (vr 27)], [], st_m16) = _
  rw [st_c7_s0]
abbrev st_m20 : pm_M := (st_m18.1 ++ [14], pm_set (st_m18.2.1) 14, pm_up (st_m18.2.2.1) 8 0 27, st_m18.2.2.2.1, st_m18.2.2.2.2)
abbrev st_m22 : pm_M := (st_m20.1 ++ [15] ++ [16] ++ [17] ++ [18], pm_set (pm_set (pm_set (pm_set (st_m20.2.1) 15) 16) 17) 18, pm_up (pm_up (pm_up (pm_up (st_m20.2.2.1) 14 5 15) 14 6 16) 14 7 17) 14 8 18, st_m20.2.2.2.1, st_m20.2.2.2.2)
abbrev st_m24 : pm_M := (st_m22.1, st_m22.2.1, st_m22.2.2.1, pm_up (pm_up (pm_up (pm_up (pm_up (st_m22.2.2.2.1) 14 0 20) 14 1 1) 14 2 5) 14 3 6) 14 4 0, st_m22.2.2.2.2)
set_option maxRecDepth 20000 in
theorem st_c9_s0 {X : Nat × (Nat → Int32)} {d : Nat}  : Rn X d co_Ba_clear (0, [some (vr 14)], [], st_m22) = some (none, st_m24) := (Sg_eq X d co_Ba_clear (fun _ => false) 16 _).trans rfl
theorem st_c9 {X : Nat × (Nat → Int32)} {d : Nat}  : Cl X (d + 1) 7 [vr 14] st_m22 = some (none, st_m24) := by
  rw [Cl_s]
  show Rn X (d) co_Ba_clear (0, [some (vr 14)], [], st_m22) = _
  rw [st_c9_s0]
set_option maxRecDepth 20000 in
theorem st_c8_s0 {X : Nat × (Nat → Int32)} {d : Nat}  : Rn X d co_Ba_init (0, [some (vr 14)], [], st_m20) = ((Cl X d 7 [vr 14] st_m22).bind pm_av).bind (fun r => Rn X d co_Ba_init (40, [some (vr 14)], [], r)) := (Sg_eq X d co_Ba_init (fun p => Nat.beq p 40) 20 _).trans rfl
set_option maxRecDepth 20000 in
theorem st_c8_s1 {X : Nat × (Nat → Int32)} {d : Nat}  : Rn X d co_Ba_init (40, [some (vr 14)], [], st_m24) = some (none, st_m24) := (Sg_eq X d co_Ba_init (fun _ => false) 1 _).trans rfl
theorem st_c8 {X : Nat × (Nat → Int32)} {d : Nat}  : Cl X (d + 2) 6 [vr 14] st_m20 = some (none, st_m24) := by
  rw [Cl_s]
  show Rn X (d + 1) co_Ba_init (0, [some (vr 14)], [], st_m20) = _
  rw [st_c8_s0, st_c9 (X := X) (d := d)]
  simp only [Option.bind_some, pm_av]
  rw [st_c8_s1]
abbrev st_m26 : pm_M := (st_m24.1 ++ [23], pm_set (st_m24.2.1) 23, pm_up (st_m24.2.2.1) 5 1 14, st_m24.2.2.2.1, st_m24.2.2.2.2)
abbrev st_m28 : pm_M := (st_m26.1 ++ [24] ++ [25] ++ [26], pm_set (pm_set (pm_set (st_m26.2.1) 24) 25) 26, pm_up (pm_up (pm_up (st_m26.2.2.1) 23 1 24) 23 2 25) 23 3 26, pm_up (st_m26.2.2.2.1) 23 0 0, st_m26.2.2.2.2)
set_option maxRecDepth 20000 in
theorem st_c10_s0 {X : Nat × (Nat → Int32)} {d : Nat}  : Rn X d co_Sc_init (0, [some (vr 23)], [], st_m26) = some (none, st_m28) := (Sg_eq X d co_Sc_init (fun _ => false) 18 _).trans rfl
theorem st_c10 {X : Nat × (Nat → Int32)} {d : Nat}  : Cl X (d + 1) 76 [vr 23] st_m26 = some (none, st_m28) := by
  rw [Cl_s]
  show Rn X (d) co_Sc_init (0, [some (vr 23)], [], st_m26) = _
  rw [st_c10_s0]
abbrev st_m30 : pm_M := (st_m28.1 ++ [30], pm_set (st_m28.2.1) 30, pm_up (st_m28.2.2.1) 6 1 23, st_m28.2.2.2.1, st_m28.2.2.2.2)
abbrev st_m32 : pm_M := (st_m30.1 ++ [31] ++ [32], pm_set (pm_set (st_m30.2.1) 31) 32, pm_up (pm_up (st_m30.2.2.1) 30 1 31) 30 2 32, pm_up (st_m30.2.2.2.1) 30 0 0, st_m30.2.2.2.2)
set_option maxRecDepth 20000 in
theorem st_c11_s0 {X : Nat × (Nat → Int32)} {d : Nat}  : Rn X d co_Lo_init (0, [some (vr 30)], [], st_m30) = some (none, st_m32) := (Sg_eq X d co_Lo_init (fun _ => false) 14 _).trans rfl
theorem st_c11 {X : Nat × (Nat → Int32)} {d : Nat}  : Cl X (d + 1) 35 [vr 30] st_m30 = some (none, st_m32) := by
  rw [Cl_s]
  show Rn X (d) co_Lo_init (0, [some (vr 30)], [], st_m30) = _
  rw [st_c11_s0]
abbrev st_m34 : pm_M := (st_m32.1, st_m32.2.1, pm_up (st_m32.2.2.1) 8 1 30, st_m32.2.2.2.1, st_m32.2.2.2.2)
set_option maxRecDepth 20000 in
theorem st_c3_s0 {X : Nat × (Nat → Int32)} {d : Nat}  : Rn X d co_To_init (0, [some (vr 2), none], [], st_m4) = ((Cl X d 6 [vr 9] st_m6).bind pm_av).bind (fun r => Rn X d co_To_init (85, [some (vr 2), some (vi 0)], [vr 9, vi 0, vr 5], r)) := (Sg_eq X d co_To_init (fun p => Nat.beq p 85) 46 _).trans rfl
set_option maxRecDepth 20000 in
theorem st_c3_s1 {X : Nat × (Nat → Int32)} {d : Nat}  : Rn X d co_To_init (85, [some (vr 2), some (vi 0)], [vr 9, vi 0, vr 5], st_m10) = ((Cl X d 76 [vr 19] st_m12).bind pm_av).bind (fun r => Rn X d co_To_init (98, [some (vr 2), some (vi 0)], [vr 19, vi 0, vr 6], r)) := (Sg_eq X d co_To_init (fun p => Nat.beq p 98) 7 _).trans rfl
set_option maxRecDepth 20000 in
theorem st_c3_s2 {X : Nat × (Nat → Int32)} {d : Nat}  : Rn X d co_To_init (98, [some (vr 2), some (vi 0)], [vr 19, vi 0, vr 6], st_m14) = ((Cl X d 35 [vr 27] st_m16).bind pm_av).bind (fun r => Rn X d co_To_init (111, [some (vr 2), some (vi 0)], [vr 27, vi 0, vr 8], r)) := (Sg_eq X d co_To_init (fun p => Nat.beq p 111) 7 _).trans rfl
set_option maxRecDepth 20000 in
theorem st_c3_s3 {X : Nat × (Nat → Int32)} {d : Nat}  : Rn X d co_To_init (111, [some (vr 2), some (vi 0)], [vr 27, vi 0, vr 8], st_m18) = ((Cl X d 6 [vr 14] st_m20).bind pm_av).bind (fun r => Rn X d co_To_init (85, [some (vr 2), some (vi 1)], [vr 14, vi 1, vr 5], r)) := (Sg_eq X d co_To_init (fun p => Nat.beq p 85) 12 _).trans rfl
set_option maxRecDepth 20000 in
theorem st_c3_s4 {X : Nat × (Nat → Int32)} {d : Nat}  : Rn X d co_To_init (85, [some (vr 2), some (vi 1)], [vr 14, vi 1, vr 5], st_m24) = ((Cl X d 76 [vr 23] st_m26).bind pm_av).bind (fun r => Rn X d co_To_init (98, [some (vr 2), some (vi 1)], [vr 23, vi 1, vr 6], r)) := (Sg_eq X d co_To_init (fun p => Nat.beq p 98) 7 _).trans rfl
set_option maxRecDepth 20000 in
theorem st_c3_s5 {X : Nat × (Nat → Int32)} {d : Nat}  : Rn X d co_To_init (98, [some (vr 2), some (vi 1)], [vr 23, vi 1, vr 6], st_m28) = ((Cl X d 35 [vr 30] st_m30).bind pm_av).bind (fun r => Rn X d co_To_init (111, [some (vr 2), some (vi 1)], [vr 30, vi 1, vr 8], r)) := (Sg_eq X d co_To_init (fun p => Nat.beq p 111) 7 _).trans rfl
set_option maxRecDepth 20000 in
theorem st_c3_s6 {X : Nat × (Nat → Int32)} {d : Nat}  : Rn X d co_To_init (111, [some (vr 2), some (vi 1)], [vr 30, vi 1, vr 8], st_m32) = some (none, st_m34) := (Sg_eq X d co_To_init (fun _ => false) 7 _).trans rfl
theorem st_c3 {X : Nat × (Nat → Int32)} {d : Nat}  : Cl X (d + 3) 92 [vr 2] st_m4 = some (none, st_m34) := by
  rw [Cl_s]
  show Rn X (d + 2) co_To_init (0, [some (vr 2), none], [], st_m4) = _
  rw [st_c3_s0, st_c4 (X := X) (d := d)]
  simp only [Option.bind_some, pm_av]
  rw [st_c3_s1, st_c6 (X := X) (d := d + 1)]
  simp only [Option.bind_some, pm_av]
  rw [st_c3_s2, st_c7 (X := X) (d := d + 1)]
  simp only [Option.bind_some, pm_av]
  rw [st_c3_s3, st_c8 (X := X) (d := d)]
  simp only [Option.bind_some, pm_av]
  rw [st_c3_s4, st_c10 (X := X) (d := d + 1)]
  simp only [Option.bind_some, pm_av]
  rw [st_c3_s5, st_c11 (X := X) (d := d + 1)]
  simp only [Option.bind_some, pm_av]
  rw [st_c3_s6]
abbrev st_m36 : pm_M := (st_m34.1 ++ [33] ++ [34], pm_set (pm_set (st_m34.2.1) 33) 34, pm_up (pm_up (st_m34.2.2.1) 1 0 2) 1 1 33, st_m34.2.2.2.1, st_m34.2.2.2.2)
abbrev st_m38 : pm_M := (st_m36.1 ++ [35], pm_set (st_m36.2.1) 35, st_m36.2.2.1, st_m36.2.2.2.1, st_m36.2.2.2.2)
abbrev st_m40 : pm_M := (st_m38.1 ++ [36] ++ [37] ++ [38] ++ [39], pm_set (pm_set (pm_set (pm_set (st_m38.2.1) 36) 37) 38) 39, pm_up (pm_up (pm_up (pm_up (st_m38.2.2.1) 35 5 36) 35 6 37) 35 7 38) 35 8 39, st_m38.2.2.2.1, st_m38.2.2.2.2)
abbrev st_m42 : pm_M := (st_m40.1, st_m40.2.1, st_m40.2.2.1, pm_up (pm_up (pm_up (pm_up (pm_up (st_m40.2.2.2.1) 35 0 20) 35 1 1) 35 2 5) 35 3 6) 35 4 0, st_m40.2.2.2.2)
set_option maxRecDepth 20000 in
theorem st_c14_s0 {X : Nat × (Nat → Int32)} {d : Nat}  : Rn X d co_Ba_clear (0, [some (vr 35)], [], st_m40) = some (none, st_m42) := (Sg_eq X d co_Ba_clear (fun _ => false) 16 _).trans rfl
theorem st_c14 {X : Nat × (Nat → Int32)} {d : Nat}  : Cl X (d + 1) 7 [vr 35] st_m40 = some (none, st_m42) := by
  rw [Cl_s]
  show Rn X (d) co_Ba_clear (0, [some (vr 35)], [], st_m40) = _
  rw [st_c14_s0]
set_option maxRecDepth 20000 in
theorem st_c13_s0 {X : Nat × (Nat → Int32)} {d : Nat}  : Rn X d co_Ba_init (0, [some (vr 35)], [], st_m38) = ((Cl X d 7 [vr 35] st_m40).bind pm_av).bind (fun r => Rn X d co_Ba_init (40, [some (vr 35)], [], r)) := (Sg_eq X d co_Ba_init (fun p => Nat.beq p 40) 20 _).trans rfl
set_option maxRecDepth 20000 in
theorem st_c13_s1 {X : Nat × (Nat → Int32)} {d : Nat}  : Rn X d co_Ba_init (40, [some (vr 35)], [], st_m42) = some (none, st_m42) := (Sg_eq X d co_Ba_init (fun _ => false) 1 _).trans rfl
theorem st_c13 {X : Nat × (Nat → Int32)} {d : Nat}  : Cl X (d + 2) 6 [vr 35] st_m38 = some (none, st_m42) := by
  rw [Cl_s]
  show Rn X (d + 1) co_Ba_init (0, [some (vr 35)], [], st_m38) = _
  rw [st_c13_s0, st_c14 (X := X) (d := d)]
  simp only [Option.bind_some, pm_av]
  rw [st_c13_s1]
abbrev st_m44 : pm_M := (st_m42.1 ++ [40], pm_set (st_m42.2.1) 40, pm_up (st_m42.2.2.1) 34 0 35, st_m42.2.2.2.1, st_m42.2.2.2.2)
abbrev st_m46 : pm_M := (st_m44.1 ++ [41] ++ [42] ++ [43], pm_set (pm_set (pm_set (st_m44.2.1) 41) 42) 43, pm_up (pm_up (pm_up (st_m44.2.2.1) 40 1 41) 40 2 42) 40 3 43, pm_up (st_m44.2.2.2.1) 40 0 0, st_m44.2.2.2.2)
set_option maxRecDepth 20000 in
theorem st_c15_s0 {X : Nat × (Nat → Int32)} {d : Nat}  : Rn X d co_Sc_init (0, [some (vr 40)], [], st_m44) = some (none, st_m46) := (Sg_eq X d co_Sc_init (fun _ => false) 18 _).trans rfl
theorem st_c15 {X : Nat × (Nat → Int32)} {d : Nat}  : Cl X (d + 1) 76 [vr 40] st_m44 = some (none, st_m46) := by
  rw [Cl_s]
  show Rn X (d) co_Sc_init (0, [some (vr 40)], [], st_m44) = _
  rw [st_c15_s0]
abbrev st_m48 : pm_M := (st_m46.1 ++ [44], pm_set (st_m46.2.1) 44, pm_up (st_m46.2.2.1) 34 1 40, st_m46.2.2.2.1, st_m46.2.2.2.2)
abbrev st_m50 : pm_M := (st_m48.1 ++ [45] ++ [46], pm_set (pm_set (st_m48.2.1) 45) 46, pm_up (pm_up (st_m48.2.2.1) 44 1 45) 44 2 46, pm_up (st_m48.2.2.2.1) 44 0 0, st_m48.2.2.2.2)
set_option maxRecDepth 20000 in
theorem st_c16_s0 {X : Nat × (Nat → Int32)} {d : Nat}  : Rn X d co_Lo_init (0, [some (vr 44)], [], st_m48) = some (none, st_m50) := (Sg_eq X d co_Lo_init (fun _ => false) 14 _).trans rfl
theorem st_c16 {X : Nat × (Nat → Int32)} {d : Nat}  : Cl X (d + 1) 35 [vr 44] st_m48 = some (none, st_m50) := by
  rw [Cl_s]
  show Rn X (d) co_Lo_init (0, [some (vr 44)], [], st_m48) = _
  rw [st_c16_s0]
abbrev st_m52 : pm_M := (st_m50.1 ++ [47] ++ [48], pm_set (pm_set (st_m50.2.1) 47) 48, pm_up (pm_up (pm_up (st_m50.2.2.1) 34 2 44) 34 6 47) 34 11 48, pm_up (pm_up (pm_up (pm_up (pm_up (pm_up (pm_up (st_m50.2.2.2.1) 34 3 0) 34 4 0) 34 5 (-1)) 34 7 0) 34 8 (-1)) 34 9 0) 34 10 0, st_m50.2.2.2.2)
set_option maxRecDepth 20000 in
theorem st_c12_s0 {X : Nat × (Nat → Int32)} {d : Nat}  : Rn X d co_Re_init (0, [some (vr 34)], [], st_m36) = ((Cl X d 6 [vr 35] st_m38).bind pm_av).bind (fun r => Rn X d co_Re_init (12, [some (vr 34)], [vr 35, vr 34], r)) := (Sg_eq X d co_Re_init (fun p => Nat.beq p 12) 6 _).trans rfl
set_option maxRecDepth 20000 in
theorem st_c12_s1 {X : Nat × (Nat → Int32)} {d : Nat}  : Rn X d co_Re_init (12, [some (vr 34)], [vr 35, vr 34], st_m42) = ((Cl X d 76 [vr 40] st_m44).bind pm_av).bind (fun r => Rn X d co_Re_init (23, [some (vr 34)], [vr 40, vr 34], r)) := (Sg_eq X d co_Re_init (fun p => Nat.beq p 23) 5 _).trans rfl
set_option maxRecDepth 20000 in
theorem st_c12_s2 {X : Nat × (Nat → Int32)} {d : Nat}  : Rn X d co_Re_init (23, [some (vr 34)], [vr 40, vr 34], st_m46) = ((Cl X d 35 [vr 44] st_m48).bind pm_av).bind (fun r => Rn X d co_Re_init (34, [some (vr 34)], [vr 44, vr 34], r)) := (Sg_eq X d co_Re_init (fun p => Nat.beq p 34) 5 _).trans rfl
set_option maxRecDepth 20000 in
theorem st_c12_s3 {X : Nat × (Nat → Int32)} {d : Nat}  : Rn X d co_Re_init (34, [some (vr 34)], [vr 44, vr 34], st_m50) = some (none, st_m52) := (Sg_eq X d co_Re_init (fun _ => false) 31 _).trans rfl
theorem st_c12 {X : Nat × (Nat → Int32)} {d : Nat}  : Cl X (d + 3) 60 [vr 34] st_m36 = some (none, st_m52) := by
  rw [Cl_s]
  show Rn X (d + 2) co_Re_init (0, [some (vr 34)], [], st_m36) = _
  rw [st_c12_s0, st_c13 (X := X) (d := d)]
  simp only [Option.bind_some, pm_av]
  rw [st_c12_s1, st_c15 (X := X) (d := d + 1)]
  simp only [Option.bind_some, pm_av]
  rw [st_c12_s2, st_c16 (X := X) (d := d + 1)]
  simp only [Option.bind_some, pm_av]
  rw [st_c12_s3]
abbrev st_m54 : pm_M := (st_m52.1 ++ [49], pm_set (st_m52.2.1) 49, pm_up (st_m52.2.2.1) 1 2 34, st_m52.2.2.2.1, st_m52.2.2.2.2)
abbrev st_m56 : pm_M := (st_m54.1 ++ [50] ++ [51] ++ [52] ++ [53] ++ [54] ++ [55] ++ [56] ++ [57] ++ [58] ++ [59], pm_set (pm_set (pm_set (pm_set (pm_set (pm_set (pm_set (pm_set (pm_set (pm_set (st_m54.2.1) 50) 51) 52) 53) 54) 55) 56) 57) 58) 59, pm_up (pm_up (pm_up (pm_up (pm_up (pm_up (pm_up (pm_up (pm_up (pm_up (st_m54.2.2.1) 49 5 50) 49 6 51) 49 7 52) 49 8 53) 49 9 54) 49 10 55) 49 11 56) 49 12 57) 49 13 58) 49 14 59, st_m54.2.2.2.1, st_m54.2.2.2.2)
set_option maxRecDepth 20000 in
theorem st_c17_s0 {X : Nat × (Nat → Int32)} {d : Nat}  : Rn X d co_Pl_init (0, [some (vr 49)], [], st_m54) = some (none, st_m56) := (Sg_eq X d co_Pl_init (fun _ => false) 43 _).trans rfl
theorem st_c17 {X : Nat × (Nat → Int32)} {d : Nat}  : Cl X (d + 1) 38 [vr 49] st_m54 = some (none, st_m56) := by
  rw [Cl_s]
  show Rn X (d) co_Pl_init (0, [some (vr 49)], [], st_m54) = _
  rw [st_c17_s0]
abbrev st_m58 : pm_M := (st_m56.1 ++ [60], pm_set (st_m56.2.1) 60, pm_up (st_m56.2.2.1) 1 3 49, st_m56.2.2.2.1, st_m56.2.2.2.2)
abbrev st_m60 : pm_M := (st_m58.1 ++ [61] ++ [62] ++ [63, 64, 65, 66, 67, 68, 69, 70, 71, 72], (fun b => cond (Nat.ble 63 b && Nat.ble b 72) true ((pm_set (pm_set (st_m58.2.1) 61) 62) b)), pm_up ((fun b j => cond (Nat.beq b 63 && Nat.ble j 8) (64 + j) ((pm_up (pm_up (st_m58.2.2.1) 60 1 61) 60 5 62) b j))) 60 6 63, pm_up (pm_up (pm_up (pm_up (st_m58.2.2.2.1) 60 0 0) 60 2 0) 60 3 0) 60 4 0, st_m58.2.2.2.2)
set_option maxRecDepth 20000 in
theorem st_c18_s0 {X : Nat × (Nat → Int32)} {d : Nat}  : Rn X d co_Sh_init (0, [some (vr 60)], [], st_m58) = some (none, st_m60) := (Sg_eq X d co_Sh_init (fun _ => false) 28 _).trans rfl
theorem st_c18 {X : Nat × (Nat → Int32)} {d : Nat}  : Cl X (d + 1) 86 [vr 60] st_m58 = some (none, st_m60) := by
  rw [Cl_s]
  show Rn X (d) co_Sh_init (0, [some (vr 60)], [], st_m58) = _
  rw [st_c18_s0]
abbrev st_m62 : pm_M := (st_m60.1 ++ [73], pm_set (st_m60.2.1) 73, pm_up (st_m60.2.2.1) 1 4 60, st_m60.2.2.2.1, st_m60.2.2.2.2)
abbrev st_m64 : pm_M := (st_m62.1 ++ [74] ++ [75], pm_set (pm_set (st_m62.2.1) 74) 75, pm_up (pm_up (st_m62.2.2.1) 73 0 74) 73 1 75, st_m62.2.2.2.1, st_m62.2.2.2.2)
set_option maxRecDepth 20000 in
theorem st_c19_s0 {X : Nat × (Nat → Int32)} {d : Nat}  : Rn X d co_Le_init (0, [some (vr 73)], [], st_m62) = some (none, st_m64) := (Sg_eq X d co_Le_init (fun _ => false) 11 _).trans rfl
theorem st_c19 {X : Nat × (Nat → Int32)} {d : Nat}  : Cl X (d + 1) 31 [vr 73] st_m62 = some (none, st_m64) := by
  rw [Cl_s]
  show Rn X (d) co_Le_init (0, [some (vr 73)], [], st_m62) = _
  rw [st_c19_s0]
abbrev st_m66 : pm_M := (st_m64.1 ++ [76], pm_set (st_m64.2.1) 76, pm_up (st_m64.2.2.1) 1 5 73, st_m64.2.2.2.1, st_m64.2.2.2.2)
abbrev st_m68 : pm_M := (st_m66.1 ++ [77], pm_set (st_m66.2.1) 77, pm_up (st_m66.2.2.1) 76 3 77, pm_up (st_m66.2.2.2.1) 76 2 0, pm_up (pm_up (st_m66.2.2.2.2) 76 0 0) 76 1 0)
set_option maxRecDepth 20000 in
theorem st_c20_s0 {X : Nat × (Nat → Int32)} {d : Nat}  : Rn X d co_He_init (0, [some (vr 76)], [], st_m66) = some (none, st_m68) := (Sg_eq X d co_He_init (fun _ => false) 16 _).trans rfl
theorem st_c20 {X : Nat × (Nat → Int32)} {d : Nat}  : Cl X (d + 1) 19 [vr 76] st_m66 = some (none, st_m68) := by
  rw [Cl_s]
  show Rn X (d) co_He_init (0, [some (vr 76)], [], st_m66) = _
  rw [st_c20_s0]
abbrev st_m70 : pm_M := (st_m68.1 ++ [78] ++ [79] ++ [80], pm_set (pm_set (pm_set (st_m68.2.1) 78) 79) 80, pm_up (pm_up (pm_up (pm_up (st_m68.2.2.1) 1 6 76) 1 7 78) 1 8 79) 1 9 80, st_m68.2.2.2.1, st_m68.2.2.2.2)
set_option maxRecDepth 20000 in
theorem st_c2_s0 {X : Nat × (Nat → Int32)} {d : Nat}  : Rn X d co_Ch_init (0, [some (vr 1)], [], st_m2) = ((Cl X d 92 [vr 2] st_m4).bind pm_av).bind (fun r => Rn X d co_Ch_init (12, [some (vr 1)], [vr 2, vr 1], r)) := (Sg_eq X d co_Ch_init (fun p => Nat.beq p 12) 6 _).trans rfl
set_option maxRecDepth 20000 in
theorem st_c2_s1 {X : Nat × (Nat → Int32)} {d : Nat}  : Rn X d co_Ch_init (12, [some (vr 1)], [vr 2, vr 1], st_m34) = ((Cl X d 60 [vr 34] st_m36).bind pm_av).bind (fun r => Rn X d co_Ch_init (31, [some (vr 1)], [vr 34, vr 1], r)) := (Sg_eq X d co_Ch_init (fun p => Nat.beq p 31) 9 _).trans rfl
set_option maxRecDepth 20000 in
theorem st_c2_s2 {X : Nat × (Nat → Int32)} {d : Nat}  : Rn X d co_Ch_init (31, [some (vr 1)], [vr 34, vr 1], st_m52) = ((Cl X d 38 [vr 49] st_m54).bind pm_av).bind (fun r => Rn X d co_Ch_init (42, [some (vr 1)], [vr 49, vr 1], r)) := (Sg_eq X d co_Ch_init (fun p => Nat.beq p 42) 5 _).trans rfl
set_option maxRecDepth 20000 in
theorem st_c2_s3 {X : Nat × (Nat → Int32)} {d : Nat}  : Rn X d co_Ch_init (42, [some (vr 1)], [vr 49, vr 1], st_m56) = ((Cl X d 86 [vr 60] st_m58).bind pm_av).bind (fun r => Rn X d co_Ch_init (53, [some (vr 1)], [vr 60, vr 1], r)) := (Sg_eq X d co_Ch_init (fun p => Nat.beq p 53) 5 _).trans rfl
set_option maxRecDepth 20000 in
theorem st_c2_s4 {X : Nat × (Nat → Int32)} {d : Nat}  : Rn X d co_Ch_init (53, [some (vr 1)], [vr 60, vr 1], st_m60) = ((Cl X d 31 [vr 73] st_m62).bind pm_av).bind (fun r => Rn X d co_Ch_init (64, [some (vr 1)], [vr 73, vr 1], r)) := (Sg_eq X d co_Ch_init (fun p => Nat.beq p 64) 5 _).trans rfl
set_option maxRecDepth 20000 in
theorem st_c2_s5 {X : Nat × (Nat → Int32)} {d : Nat}  : Rn X d co_Ch_init (64, [some (vr 1)], [vr 73, vr 1], st_m64) = ((Cl X d 19 [vr 76] st_m66).bind pm_av).bind (fun r => Rn X d co_Ch_init (75, [some (vr 1)], [vr 76, vr 1], r)) := (Sg_eq X d co_Ch_init (fun p => Nat.beq p 75) 5 _).trans rfl
set_option maxRecDepth 20000 in
theorem st_c2_s6 {X : Nat × (Nat → Int32)} {d : Nat}  : Rn X d co_Ch_init (75, [some (vr 1)], [vr 76, vr 1], st_m68) = some (none, st_m70) := (Sg_eq X d co_Ch_init (fun _ => false) 14 _).trans rfl
theorem st_c2 {X : Nat × (Nat → Int32)} {d : Nat}  : Cl X (d + 4) 105 [vr 1] st_m2 = some (none, st_m70) := by
  rw [Cl_s]
  show Rn X (d + 3) co_Ch_init (0, [some (vr 1)], [], st_m2) = _
  rw [st_c2_s0, st_c3 (X := X) (d := d)]
  simp only [Option.bind_some, pm_av]
  rw [st_c2_s1, st_c12 (X := X) (d := d)]
  simp only [Option.bind_some, pm_av]
  rw [st_c2_s2, st_c17 (X := X) (d := d + 2)]
  simp only [Option.bind_some, pm_av]
  rw [st_c2_s3, st_c18 (X := X) (d := d + 2)]
  simp only [Option.bind_some, pm_av]
  rw [st_c2_s4, st_c19 (X := X) (d := d + 2)]
  simp only [Option.bind_some, pm_av]
  rw [st_c2_s5, st_c20 (X := X) (d := d + 2)]
  simp only [Option.bind_some, pm_av]
  rw [st_c2_s6]
abbrev st_m72 : pm_M := (st_m70.1 ++ [81], pm_set (st_m70.2.1) 81, st_m70.2.2.1, st_m70.2.2.2.1, st_m70.2.2.2.2)
abbrev st_m74 : pm_M := (st_m72.1 ++ [82] ++ [83] ++ [84] ++ [85] ++ [86] ++ [87] ++ [88] ++ [89] ++ [90] ++ [91] ++ [92] ++ [93] ++ [94] ++ [95] ++ [96] ++ [97] ++ [98] ++ [99] ++ [100] ++ [101] ++ [102] ++ [103] ++ [104] ++ [105] ++ [106] ++ [107] ++ [108] ++ [109] ++ [110] ++ [111] ++ [112] ++ [113], pm_set (pm_set (pm_set (pm_set (pm_set (pm_set (pm_set (pm_set (pm_set (pm_set (pm_set (pm_set (pm_set (pm_set (pm_set (pm_set (pm_set (pm_set (pm_set (pm_set (pm_set (pm_set (pm_set (pm_set (pm_set (pm_set (pm_set (pm_set (pm_set (pm_set (pm_set (pm_set (st_m72.2.1) 82) 83) 84) 85) 86) 87) 88) 89) 90) 91) 92) 93) 94) 95) 96) 97) 98) 99) 100) 101) 102) 103) 104) 105) 106) 107) 108) 109) 110) 111) 112) 113, pm_up (pm_up (pm_up (pm_up (pm_up (pm_up (pm_up (pm_up (pm_up (pm_up (pm_up (pm_up (pm_up (pm_up (pm_up (pm_up (pm_up (pm_up (pm_up (pm_up (pm_up (pm_up (pm_up (pm_up (pm_up (pm_up (pm_up (pm_up (pm_up (pm_up (pm_up (pm_up (st_m72.2.2.1) 81 1 82) 81 2 83) 81 3 84) 81 4 85) 81 5 86) 81 6 87) 81 7 88) 81 8 89) 81 9 90) 81 19 91) 81 20 92) 81 26 93) 81 30 94) 81 31 95) 81 32 96) 81 33 97) 81 34 98) 81 35 99) 81 36 100) 81 41 101) 81 42 102) 81 43 103) 81 46 104) 81 47 105) 81 49 106) 81 50 107) 81 53 108) 81 54 109) 81 55 110) 81 60 111) 81 61 112) 81 62 113, pm_up (st_m72.2.2.2.1) 85 0 (-1), st_m72.2.2.2.2)
set_option maxRecDepth 20000 in
theorem st_c21_s0 {X : Nat × (Nat → Int32)} {d : Nat}  : Rn X d co_Mo_init (0, [some (vr 81)], [], st_m72) = some (none, st_m74) := (Sg_eq X d co_Mo_init (fun _ => false) 136 _).trans rfl
theorem st_c21 {X : Nat × (Nat → Int32)} {d : Nat}  : Cl X (d + 1) 164 [vr 81] st_m72 = some (none, st_m74) := by
  rw [Cl_s]
  show Rn X (d) co_Mo_init (0, [some (vr 81)], [], st_m72) = _
  rw [st_c21_s0]
set_option maxRecDepth 20000 in
theorem stt_s0 {X : Nat × (Nat → Int32)} {d : Nat}  : Rn X d co_La_law (0, [some (vr 900), none, none, none], [], st_m0) = ((Cl X d 105 [vr 1] st_m2).bind pm_av).bind (fun r => Rn X d co_La_law (7, [some (vr 900), none, none, none], [vr 1], r)) := (Sg_eq X d co_La_law (fun p => Nat.beq p 7) 3 _).trans rfl
set_option maxRecDepth 20000 in
theorem stt_s1 {X : Nat × (Nat → Int32)} {d : Nat}  : Rn X d co_La_law (7, [some (vr 900), none, none, none], [vr 1], st_m70) = ((Cl X d 164 [vr 81] st_m72).bind pm_av).bind (fun r => Rn X d co_La_law (15, [some (vr 900), some (vr 1), none, none], [vr 81], r)) := (Sg_eq X d co_La_law (fun p => Nat.beq p 15) 4 _).trans rfl
theorem stt {X : Nat × (Nat → Int32)} {d : Nat}  : Rn X (d + 4) co_La_law (0, [some (vr 900), none, none, none], [], st_m0) = Rn X (d + 4) co_La_law (15, [some (vr 900), some (vr 1), none, none], [vr 81], st_m74) := by
  rw [stt_s0, st_c2 (X := X) (d := d)]
  simp only [Option.bind_some, pm_av]
  rw [stt_s1, st_c21 (X := X) (d := d + 3)]
  simp only [Option.bind_some, pm_av]
end
