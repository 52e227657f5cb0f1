section
abbrev ni2_m0 (al : List Nat) (D : Nat → Bool) (I : Nat → Nat → Int32) (L : Nat → Nat → Int64) : pm_M := (al, pm_dB (pm_fb 2 D), pm_dM (pm_fb 2 D), I, L)
abbrev ni2_m1 (al : List Nat) (D : Nat → Bool) (I : Nat → Nat → Int32) (L : Nat → Nat → Int64) : pm_M := (al ++ [182], pm_set (pm_dB (pm_fb 2 D)) 182, pm_dM (pm_fb 2 D), I, L)
abbrev ni2_m2 (al : List Nat) (D : Nat → Bool) (I : Nat → Nat → Int32) (L : Nat → Nat → Int64) : pm_M := (al ++ [182] ++ [183] ++ [184] ++ [185] ++ [186] ++ [187] ++ [188] ++ [189], pm_set (pm_set (pm_set (pm_set (pm_set (pm_set (pm_set (pm_set (pm_dB (pm_fb 2 D)) 182) 183) 184) 185) 186) 187) 188) 189, pm_up (pm_up (pm_up (pm_up (pm_up (pm_up (pm_dM (pm_fb 2 D)) 182 0 183) 182 4 184) 182 5 185) 182 6 186) 182 7 187) 182 8 188, pm_up (pm_up (pm_up (I) 182 1 0) 182 2 0) 182 3 (-1), L)
abbrev ni2_m3 (al : List Nat) (D : Nat → Bool) (I : Nat → Nat → Int32) (L : Nat → Nat → Int64) : pm_M := (al ++ [182] ++ [183] ++ [184] ++ [185] ++ [186] ++ [187] ++ [188] ++ [189] ++ [190] ++ [191] ++ [192] ++ [193], pm_set (pm_set (pm_set (pm_set (pm_set (pm_set (pm_set (pm_set (pm_set (pm_set (pm_set (pm_set (pm_dB (pm_fb 2 D)) 182) 183) 184) 185) 186) 187) 188) 189) 190) 191) 192) 193, pm_up (pm_up (pm_up (pm_up (pm_up (pm_up (pm_up (pm_up (pm_up (pm_up (pm_dM (pm_fb 2 D)) 182 0 183) 182 4 184) 182 5 185) 182 6 186) 182 7 187) 182 8 188) 189 5 190) 189 6 191) 189 7 192) 189 8 193, pm_up (pm_up (pm_up (I) 182 1 0) 182 2 0) 182 3 (-1), L)
abbrev ni2_m4 (al : List Nat) (D : Nat → Bool) (I : Nat → Nat → Int32) (L : Nat → Nat → Int64) : pm_M := (al ++ [182] ++ [183] ++ [184] ++ [185] ++ [186] ++ [187] ++ [188] ++ [189] ++ [190] ++ [191] ++ [192] ++ [193], pm_set (pm_set (pm_set (pm_set (pm_set (pm_set (pm_set (pm_set (pm_set (pm_set (pm_set (pm_set (pm_dB (pm_fb 2 D)) 182) 183) 184) 185) 186) 187) 188) 189) 190) 191) 192) 193, pm_up (pm_up (pm_up (pm_up (pm_up (pm_up (pm_up (pm_up (pm_up (pm_up (pm_dM (pm_fb 2 D)) 182 0 183) 182 4 184) 182 5 185) 182 6 186) 182 7 187) 182 8 188) 189 5 190) 189 6 191) 189 7 192) 189 8 193, pm_up (pm_up (pm_up (pm_up (pm_up (pm_up (pm_up (pm_up (I) 182 1 0) 182 2 0) 182 3 (-1)) 189 0 20) 189 1 1) 189 2 5) 189 3 6) 189 4 0, L)
set_option maxRecDepth 20000 in
theorem ni2_c4_s0 {X : Nat × (Nat → Int32)} {d : Nat} (al : List Nat) (D : Nat → Bool) (I : Nat → Nat → Int32) (L : Nat → Nat → Int64) : Rn X d co_Ba_clear (0, [some (vr 189)], [], (ni2_m3 al D I L)) = some (none, (ni2_m4 al D I L)) := (Sg_eq X d co_Ba_clear (fun _ => false) 16 _).trans rfl
theorem ni2_c4 {X : Nat × (Nat → Int32)} {d : Nat} (al : List Nat) (D : Nat → Bool) (I : Nat → Nat → Int32) (L : Nat → Nat → Int64) : Cl X (d + 1) 7 [vr 189] (ni2_m3 al D I L) = some (none, (ni2_m4 al D I L)) := by
  rw [Cl_s]
  show Rn X (d) co_Ba_clear (0, [some (vr 189)], [], (ni2_m3 al D I L)) = _
  rw [ni2_c4_s0]
set_option maxRecDepth 20000 in
theorem ni2_c3_s0 {X : Nat × (Nat → Int32)} {d : Nat} (al : List Nat) (D : Nat → Bool) (I : Nat → Nat → Int32) (L : Nat → Nat → Int64) : Rn X d co_Ba_init (0, [some (vr 189)], [], (ni2_m2 al D I L)) = ((Cl X d 7 [vr 189] (ni2_m3 al D I L)).bind pm_av).bind (fun r => Rn X d co_Ba_init (40, [some (vr 189)], [], r)) := (Sg_eq X d co_Ba_init (fun p => Nat.beq p 40) 20 _).trans rfl
set_option maxRecDepth 20000 in
theorem ni2_c3_s1 {X : Nat × (Nat → Int32)} {d : Nat} (al : List Nat) (D : Nat → Bool) (I : Nat → Nat → Int32) (L : Nat → Nat → Int64) : Rn X d co_Ba_init (40, [some (vr 189)], [], (ni2_m4 al D I L)) = some (none, (ni2_m4 al D I L)) := (Sg_eq X d co_Ba_init (fun _ => false) 1 _).trans rfl
theorem ni2_c3 {X : Nat × (Nat → Int32)} {d : Nat} (al : List Nat) (D : Nat → Bool) (I : Nat → Nat → Int32) (L : Nat → Nat → Int64) : Cl X (d + 2) 6 [vr 189] (ni2_m2 al D I L) = some (none, (ni2_m4 al D I L)) := by
  rw [Cl_s]
  show Rn X (d + 1) co_Ba_init (0, [some (vr 189)], [], (ni2_m2 al D I L)) = _
  rw [ni2_c3_s0, ni2_c4 (X := X) (d := d)]
  simp only [Option.bind_some, pm_av]
  rw [ni2_c3_s1]
abbrev ni2_m5 (al : List Nat) (D : Nat → Bool) (I : Nat → Nat → Int32) (L : Nat → Nat → Int64) : pm_M := (al ++ [182] ++ [183] ++ [184] ++ [185] ++ [186] ++ [187] ++ [188] ++ [189] ++ [190] ++ [191] ++ [192] ++ [193] ++ [199], pm_set (pm_set (pm_set (pm_set (pm_set (pm_set (pm_set (pm_set (pm_set (pm_set (pm_set (pm_set (pm_set (pm_dB (pm_fb 2 D)) 182) 183) 184) 185) 186) 187) 188) 189) 190) 191) 192) 193) 199, pm_up (pm_up (pm_up (pm_up (pm_up (pm_up (pm_up (pm_up (pm_up (pm_up (pm_up (pm_dM (pm_fb 2 D)) 182 0 183) 182 4 184) 182 5 185) 182 6 186) 182 7 187) 182 8 188) 189 5 190) 189 6 191) 189 7 192) 189 8 193) 185 0 189, pm_up (pm_up (pm_up (pm_up (pm_up (pm_up (pm_up (pm_up (I) 182 1 0) 182 2 0) 182 3 (-1)) 189 0 20) 189 1 1) 189 2 5) 189 3 6) 189 4 0, L)
abbrev ni2_m6 (al : List Nat) (D : Nat → Bool) (I : Nat → Nat → Int32) (L : Nat → Nat → Int64) : pm_M := (al ++ [182] ++ [183] ++ [184] ++ [185] ++ [186] ++ [187] ++ [188] ++ [189] ++ [190] ++ [191] ++ [192] ++ [193] ++ [199] ++ [200] ++ [201] ++ [202], pm_set (pm_set (pm_set (pm_set (pm_set (pm_set (pm_set (pm_set (pm_set (pm_set (pm_set (pm_set (pm_set (pm_set (pm_set (pm_set (pm_dB (pm_fb 2 D)) 182) 183) 184) 185) 186) 187) 188) 189) 190) 191) 192) 193) 199) 200) 201) 202, pm_up (pm_up (pm_up (pm_up (pm_up (pm_up (pm_up (pm_up (pm_up (pm_up (pm_up (pm_up (pm_up (pm_up (pm_dM (pm_fb 2 D)) 182 0 183) 182 4 184) 182 5 185) 182 6 186) 182 7 187) 182 8 188) 189 5 190) 189 6 191) 189 7 192) 189 8 193) 185 0 189) 199 1 200) 199 2 201) 199 3 202, pm_up (pm_up (pm_up (pm_up (pm_up (pm_up (pm_up (pm_up (pm_up (I) 182 1 0) 182 2 0) 182 3 (-1)) 189 0 20) 189 1 1) 189 2 5) 189 3 6) 189 4 0) 199 0 0, L)
set_option maxRecDepth 20000 in
theorem ni2_c5_s0 {X : Nat × (Nat → Int32)} {d : Nat} (al : List Nat) (D : Nat → Bool) (I : Nat → Nat → Int32) (L : Nat → Nat → Int64) : Rn X d co_Sc_init (0, [some (vr 199)], [], (ni2_m5 al D I L)) = some (none, (ni2_m6 al D I L)) := (Sg_eq X d co_Sc_init (fun _ => false) 18 _).trans rfl
theorem ni2_c5 {X : Nat × (Nat → Int32)} {d : Nat} (al : List Nat) (D : Nat → Bool) (I : Nat → Nat → Int32) (L : Nat → Nat → Int64) : Cl X (d + 1) 76 [vr 199] (ni2_m5 al D I L) = some (none, (ni2_m6 al D I L)) := by
  rw [Cl_s]
  show Rn X (d) co_Sc_init (0, [some (vr 199)], [], (ni2_m5 al D I L)) = _
  rw [ni2_c5_s0]
abbrev ni2_m7 (al : List Nat) (D : Nat → Bool) (I : Nat → Nat → Int32) (L : Nat → Nat → Int64) : pm_M := (al ++ [182] ++ [183] ++ [184] ++ [185] ++ [186] ++ [187] ++ [188] ++ [189] ++ [190] ++ [191] ++ [192] ++ [193] ++ [199] ++ [200] ++ [201] ++ [202] ++ [207], pm_set (pm_set (pm_set (pm_set (pm_set (pm_set (pm_set (pm_set (pm_set (pm_set (pm_set (pm_set (pm_set (pm_set (pm_set (pm_set (pm_set (pm_dB (pm_fb 2 D)) 182) 183) 184) 185) 186) 187) 188) 189) 190) 191) 192) 193) 199) 200) 201) 202) 207, pm_up (pm_up (pm_up (pm_up (pm_up (pm_up (pm_up (pm_up (pm_up (pm_up (pm_up (pm_up (pm_up (pm_up (pm_up (pm_dM (pm_fb 2 D)) 182 0 183) 182 4 184) 182 5 185) 182 6 186) 182 7 187) 182 8 188) 189 5 190) 189 6 191) 189 7 192) 189 8 193) 185 0 189) 199 1 200) 199 2 201) 199 3 202) 186 0 199, pm_up (pm_up (pm_up (pm_up (pm_up (pm_up (pm_up (pm_up (pm_up (I) 182 1 0) 182 2 0) 182 3 (-1)) 189 0 20) 189 1 1) 189 2 5) 189 3 6) 189 4 0) 199 0 0, L)
abbrev ni2_m8 (al : List Nat) (D : Nat → Bool) (I : Nat → Nat → Int32) (L : Nat → Nat → Int64) : pm_M := (al ++ [182] ++ [183] ++ [184] ++ [185] ++ [186] ++ [187] ++ [188] ++ [189] ++ [190] ++ [191] ++ [192] ++ [193] ++ [199] ++ [200] ++ [201] ++ [202] ++ [207] ++ [208] ++ [209], pm_set (pm_set (pm_set (pm_set (pm_set (pm_set (pm_set (pm_set (pm_set (pm_set (pm_set (pm_set (pm_set (pm_set (pm_set (pm_set (pm_set (pm_set (pm_set (pm_dB (pm_fb 2 D)) 182) 183) 184) 185) 186) 187) 188) 189) 190) 191) 192) 193) 199) 200) 201) 202) 207) 208) 209, pm_up (pm_up (pm_up (pm_up (pm_up (pm_up (pm_up (pm_up (pm_up (pm_up (pm_up (pm_up (pm_up (pm_up (pm_up (pm_up (pm_up (pm_dM (pm_fb 2 D)) 182 0 183) 182 4 184) 182 5 185) 182 6 186) 182 7 187) 182 8 188) 189 5 190) 189 6 191) 189 7 192) 189 8 193) 185 0 189) 199 1 200) 199 2 201) 199 3 202) 186 0 199) 207 1 208) 207 2 209, pm_up (pm_up (pm_up (pm_up (pm_up (pm_up (pm_up (pm_up (pm_up (pm_up (I) 182 1 0) 182 2 0) 182 3 (-1)) 189 0 20) 189 1 1) 189 2 5) 189 3 6) 189 4 0) 199 0 0) 207 0 0, L)
set_option maxRecDepth 20000 in
theorem ni2_c6_s0 {X : Nat × (Nat → Int32)} {d : Nat} (al : List Nat) (D : Nat → Bool) (I : Nat → Nat → Int32) (L : Nat → Nat → Int64) : Rn X d co_Lo_init (0, [some (vr 207)], [], (ni2_m7 al D I L)) = some (none, (ni2_m8 al D I L)) := (Sg_eq X d co_Lo_init (fun _ => false) 14 _).trans rfl
theorem ni2_c6 {X : Nat × (Nat → Int32)} {d : Nat} (al : List Nat) (D : Nat → Bool) (I : Nat → Nat → Int32) (L : Nat → Nat → Int64) : Cl X (d + 1) 35 [vr 207] (ni2_m7 al D I L) = some (none, (ni2_m8 al D I L)) := by
  rw [Cl_s]
  show Rn X (d) co_Lo_init (0, [some (vr 207)], [], (ni2_m7 al D I L)) = _
  rw [ni2_c6_s0]
abbrev ni2_m9 (al : List Nat) (D : Nat → Bool) (I : Nat → Nat → Int32) (L : Nat → Nat → Int64) : pm_M := (al ++ [182] ++ [183] ++ [184] ++ [185] ++ [186] ++ [187] ++ [188] ++ [189] ++ [190] ++ [191] ++ [192] ++ [193] ++ [199] ++ [200] ++ [201] ++ [202] ++ [207] ++ [208] ++ [209] ++ [194], pm_set (pm_set (pm_set (pm_set (pm_set (pm_set (pm_set (pm_set (pm_set (pm_set (pm_set (pm_set (pm_set (pm_set (pm_set (pm_set (pm_set (pm_set (pm_set (pm_set (pm_dB (pm_fb 2 D)) 182) 183) 184) 185) 186) 187) 188) 189) 190) 191) 192) 193) 199) 200) 201) 202) 207) 208) 209) 194, pm_up (pm_up (pm_up (pm_up (pm_up (pm_up (pm_up (pm_up (pm_up (pm_up (pm_up (pm_up (pm_up (pm_up (pm_up (pm_up (pm_up (pm_up (pm_dM (pm_fb 2 D)) 182 0 183) 182 4 184) 182 5 185) 182 6 186) 182 7 187) 182 8 188) 189 5 190) 189 6 191) 189 7 192) 189 8 193) 185 0 189) 199 1 200) 199 2 201) 199 3 202) 186 0 199) 207 1 208) 207 2 209) 188 0 207, pm_up (pm_up (pm_up (pm_up (pm_up (pm_up (pm_up (pm_up (pm_up (pm_up (I) 182 1 0) 182 2 0) 182 3 (-1)) 189 0 20) 189 1 1) 189 2 5) 189 3 6) 189 4 0) 199 0 0) 207 0 0, L)
abbrev ni2_m10 (al : List Nat) (D : Nat → Bool) (I : Nat → Nat → Int32) (L : Nat → Nat → Int64) : pm_M := (al ++ [182] ++ [183] ++ [184] ++ [185] ++ [186] ++ [187] ++ [188] ++ [189] ++ [190] ++ [191] ++ [192] ++ [193] ++ [199] ++ [200] ++ [201] ++ [202] ++ [207] ++ [208] ++ [209] ++ [194] ++ [195] ++ [196] ++ [197] ++ [198], pm_set (pm_set (pm_set (pm_set (pm_set (pm_set (pm_set (pm_set (pm_set (pm_set (pm_set (pm_set (pm_set (pm_set (pm_set (pm_set (pm_set (pm_set (pm_set (pm_set (pm_set (pm_set (pm_set (pm_set (pm_dB (pm_fb 2 D)) 182) 183) 184) 185) 186) 187) 188) 189) 190) 191) 192) 193) 199) 200) 201) 202) 207) 208) 209) 194) 195) 196) 197) 198, pm_up (pm_up (pm_up (pm_up (pm_up (pm_up (pm_up (pm_up (pm_up (pm_up (pm_up (pm_up (pm_up (pm_up (pm_up (pm_up (pm_up (pm_up (pm_up (pm_up (pm_up (pm_up (pm_dM (pm_fb 2 D)) 182 0 183) 182 4 184) 182 5 185) 182 6 186) 182 7 187) 182 8 188) 189 5 190) 189 6 191) 189 7 192) 189 8 193) 185 0 189) 199 1 200) 199 2 201) 199 3 202) 186 0 199) 207 1 208) 207 2 209) 188 0 207) 194 5 195) 194 6 196) 194 7 197) 194 8 198, pm_up (pm_up (pm_up (pm_up (pm_up (pm_up (pm_up (pm_up (pm_up (pm_up (I) 182 1 0) 182 2 0) 182 3 (-1)) 189 0 20) 189 1 1) 189 2 5) 189 3 6) 189 4 0) 199 0 0) 207 0 0, L)
abbrev ni2_m11 (al : List Nat) (D : Nat → Bool) (I : Nat → Nat → Int32) (L : Nat → Nat → Int64) : pm_M := (al ++ [182] ++ [183] ++ [184] ++ [185] ++ [186] ++ [187] ++ [188] ++ [189] ++ [190] ++ [191] ++ [192] ++ [193] ++ [199] ++ [200] ++ [201] ++ [202] ++ [207] ++ [208] ++ [209] ++ [194] ++ [195] ++ [196] ++ [197] ++ [198], pm_set (pm_set (pm_set (pm_set (pm_set (pm_set (pm_set (pm_set (pm_set (pm_set (pm_set (pm_set (pm_set (pm_set (pm_set (pm_set (pm_set (pm_set (pm_set (pm_set (pm_set (pm_set (pm_set (pm_set (pm_dB (pm_fb 2 D)) 182) 183) 184) 185) 186) 187) 188) 189) 190) 191) 192) 193) 199) 200) 201) 202) 207) 208) 209) 194) 195) 196) 197) 198, pm_up (pm_up (pm_up (pm_up (pm_up (pm_up (pm_up (pm_up (pm_up (pm_up (pm_up (pm_up (pm_up (pm_up (pm_up (pm_up (pm_up (pm_up (pm_up (pm_up (pm_up (pm_up (pm_dM (pm_fb 2 D)) 182 0 183) 182 4 184) 182 5 185) 182 6 186) 182 7 187) 182 8 188) 189 5 190) 189 6 191) 189 7 192) 189 8 193) 185 0 189) 199 1 200) 199 2 201) 199 3 202) 186 0 199) 207 1 208) 207 2 209) 188 0 207) 194 5 195) 194 6 196) 194 7 197) 194 8 198, pm_up (pm_up (pm_up (pm_up (pm_up (pm_up (pm_up (pm_up (pm_up (pm_up (pm_up (pm_up (pm_up (pm_up (pm_up (I) 182 1 0) 182 2 0) 182 3 (-1)) 189 0 20) 189 1 1) 189 2 5) 189 3 6) 189 4 0) 199 0 0) 207 0 0) 194 0 20) 194 1 1) 194 2 5) 194 3 6) 194 4 0, L)
set_option maxRecDepth 20000 in
theorem ni2_c8_s0 {X : Nat × (Nat → Int32)} {d : Nat} (al : List Nat) (D : Nat → Bool) (I : Nat → Nat → Int32) (L : Nat → Nat → Int64) : Rn X d co_Ba_clear (0, [some (vr 194)], [], (ni2_m10 al D I L)) = some (none, (ni2_m11 al D I L)) := (Sg_eq X d co_Ba_clear (fun _ => false) 16 _).trans rfl
theorem ni2_c8 {X : Nat × (Nat → Int32)} {d : Nat} (al : List Nat) (D : Nat → Bool) (I : Nat → Nat → Int32) (L : Nat → Nat → Int64) : Cl X (d + 1) 7 [vr 194] (ni2_m10 al D I L) = some (none, (ni2_m11 al D I L)) := by
  rw [Cl_s]
  show Rn X (d) co_Ba_clear (0, [some (vr 194)], [], (ni2_m10 al D I L)) = _
  rw [ni2_c8_s0]
set_option maxRecDepth 20000 in
theorem ni2_c7_s0 {X : Nat × (Nat → Int32)} {d : Nat} (al : List Nat) (D : Nat → Bool) (I : Nat → Nat → Int32) (L : Nat → Nat → Int64) : Rn X d co_Ba_init (0, [some (vr 194)], [], (ni2_m9 al D I L)) = ((Cl X d 7 [vr 194] (ni2_m10 al D I L)).bind pm_av).bind (fun r => Rn X d co_Ba_init (40, [some (vr 194)], [], r)) := (Sg_eq X d co_Ba_init (fun p => Nat.beq p 40) 20 _).trans rfl
set_option maxRecDepth 20000 in
theorem ni2_c7_s1 {X : Nat × (Nat → Int32)} {d : Nat} (al : List Nat) (D : Nat → Bool) (I : Nat → Nat → Int32) (L : Nat → Nat → Int64) : Rn X d co_Ba_init (40, [some (vr 194)], [], (ni2_m11 al D I L)) = some (none, (ni2_m11 al D I L)) := (Sg_eq X d co_Ba_init (fun _ => false) 1 _).trans rfl
theorem ni2_c7 {X : Nat × (Nat → Int32)} {d : Nat} (al : List Nat) (D : Nat → Bool) (I : Nat → Nat → Int32) (L : Nat → Nat → Int64) : Cl X (d + 2) 6 [vr 194] (ni2_m9 al D I L) = some (none, (ni2_m11 al D I L)) := by
  rw [Cl_s]
  show Rn X (d + 1) co_Ba_init (0, [some (vr 194)], [], (ni2_m9 al D I L)) = _
  rw [ni2_c7_s0, ni2_c8 (X := X) (d := d)]
  simp only [Option.bind_some, pm_av]
  rw [ni2_c7_s1]
abbrev ni2_m12 (al : List Nat) (D : Nat → Bool) (I : Nat → Nat → Int32) (L : Nat → Nat → Int64) : pm_M := (al ++ [182] ++ [183] ++ [184] ++ [185] ++ [186] ++ [187] ++ [188] ++ [189] ++ [190] ++ [191] ++ [192] ++ [193] ++ [199] ++ [200] ++ [201] ++ [202] ++ [207] ++ [208] ++ [209] ++ [194] ++ [195] ++ [196] ++ [197] ++ [198] ++ [203], pm_set (pm_set (pm_set (pm_set (pm_set (pm_set (pm_set (pm_set (pm_set (pm_set (pm_set (pm_set (pm_set (pm_set (pm_set (pm_set (pm_set (pm_set (pm_set (pm_set (pm_set (pm_set (pm_set (pm_set (pm_set (pm_dB (pm_fb 2 D)) 182) 183) 184) 185) 186) 187) 188) 189) 190) 191) 192) 193) 199) 200) 201) 202) 207) 208) 209) 194) 195) 196) 197) 198) 203, pm_up (pm_up (pm_up (pm_up (pm_up (pm_up (pm_up (pm_up (pm_up (pm_up (pm_up (pm_up (pm_up (pm_up (pm_up (pm_up (pm_up (pm_up (pm_up (pm_up (pm_up (pm_up (pm_up (pm_dM (pm_fb 2 D)) 182 0 183) 182 4 184) 182 5 185) 182 6 186) 182 7 187) 182 8 188) 189 5 190) 189 6 191) 189 7 192) 189 8 193) 185 0 189) 199 1 200) 199 2 201) 199 3 202) 186 0 199) 207 1 208) 207 2 209) 188 0 207) 194 5 195) 194 6 196) 194 7 197) 194 8 198) 185 1 194, pm_up (pm_up (pm_up (pm_up (pm_up (pm_up (pm_up (pm_up (pm_up (pm_up (pm_up (pm_up (pm_up (pm_up (pm_up (I) 182 1 0) 182 2 0) 182 3 (-1)) 189 0 20) 189 1 1) 189 2 5) 189 3 6) 189 4 0) 199 0 0) 207 0 0) 194 0 20) 194 1 1) 194 2 5) 194 3 6) 194 4 0, L)
abbrev ni2_m13 (al : List Nat) (D : Nat → Bool) (I : Nat → Nat → Int32) (L : Nat → Nat → Int64) : pm_M := (al ++ [182] ++ [183] ++ [184] ++ [185] ++ [186] ++ [187] ++ [188] ++ [189] ++ [190] ++ [191] ++ [192] ++ [193] ++ [199] ++ [200] ++ [201] ++ [202] ++ [207] ++ [208] ++ [209] ++ [194] ++ [195] ++ [196] ++ [197] ++ [198] ++ [203] ++ [204] ++ [205] ++ [206], pm_set (pm_set (pm_set (pm_set (pm_set (pm_set (pm_set (pm_set (pm_set (pm_set (pm_set (pm_set (pm_set (pm_set (pm_set (pm_set (pm_set (pm_set (pm_set (pm_set (pm_set (pm_set (pm_set (pm_set (pm_set (pm_set (pm_set (pm_set (pm_dB (pm_fb 2 D)) 182) 183) 184) 185) 186) 187) 188) 189) 190) 191) 192) 193) 199) 200) 201) 202) 207) 208) 209) 194) 195) 196) 197) 198) 203) 204) 205) 206, pm_up (pm_up (pm_up (pm_up (pm_up (pm_up (pm_up (pm_up (pm_up (pm_up (pm_up (pm_up (pm_up (pm_up (pm_up (pm_up (pm_up (pm_up (pm_up (pm_up (pm_up (pm_up (pm_up (pm_up (pm_up (pm_up (pm_dM (pm_fb 2 D)) 182 0 183) 182 4 184) 182 5 185) 182 6 186) 182 7 187) 182 8 188) 189 5 190) 189 6 191) 189 7 192) 189 8 193) 185 0 189) 199 1 200) 199 2 201) 199 3 202) 186 0 199) 207 1 208) 207 2 209) 188 0 207) 194 5 195) 194 6 196) 194 7 197) 194 8 198) 185 1 194) 203 1 204) 203 2 205) 203 3 206, pm_up (pm_up (pm_up (pm_up (pm_up (pm_up (pm_up (pm_up (pm_up (pm_up (pm_up (pm_up (pm_up (pm_up (pm_up (pm_up (I) 182 1 0) 182 2 0) 182 3 (-1)) 189 0 20) 189 1 1) 189 2 5) 189 3 6) 189 4 0) 199 0 0) 207 0 0) 194 0 20) 194 1 1) 194 2 5) 194 3 6) 194 4 0) 203 0 0, L)
set_option maxRecDepth 20000 in
theorem ni2_c9_s0 {X : Nat × (Nat → Int32)} {d : Nat} (al : List Nat) (D : Nat → Bool) (I : Nat → Nat → Int32) (L : Nat → Nat → Int64) : Rn X d co_Sc_init (0, [some (vr 203)], [], (ni2_m12 al D I L)) = some (none, (ni2_m13 al D I L)) := (Sg_eq X d co_Sc_init (fun _ => false) 18 _).trans rfl
theorem ni2_c9 {X : Nat × (Nat → Int32)} {d : Nat} (al : List Nat) (D : Nat → Bool) (I : Nat → Nat → Int32) (L : Nat → Nat → Int64) : Cl X (d + 1) 76 [vr 203] (ni2_m12 al D I L) = some (none, (ni2_m13 al D I L)) := by
  rw [Cl_s]
  show Rn X (d) co_Sc_init (0, [some (vr 203)], [], (ni2_m12 al D I L)) = _
  rw [ni2_c9_s0]
abbrev ni2_m14 (al : List Nat) (D : Nat → Bool) (I : Nat → Nat → Int32) (L : Nat → Nat → Int64) : pm_M := (al ++ [182] ++ [183] ++ [184] ++ [185] ++ [186] ++ [187] ++ [188] ++ [189] ++ [190] ++ [191] ++ [192] ++ [193] ++ [199] ++ [200] ++ [201] ++ [202] ++ [207] ++ [208] ++ [209] ++ [194] ++ [195] ++ [196] ++ [197] ++ [198] ++ [203] ++ [204] ++ [205] ++ [206] ++ [210], pm_set (pm_set (pm_set (pm_set (pm_set (pm_set (pm_set (pm_set (pm_set (pm_set (pm_set (pm_set (pm_set (pm_set (pm_set (pm_set (pm_set (pm_set (pm_set (pm_set (pm_set (pm_set (pm_set (pm_set (pm_set (pm_set (pm_set (pm_set (pm_set (pm_dB (pm_fb 2 D)) 182) 183) 184) 185) 186) 187) 188) 189) 190) 191) 192) 193) 199) 200) 201) 202) 207) 208) 209) 194) 195) 196) 197) 198) 203) 204) 205) 206) 210, pm_up (pm_up (pm_up (pm_up (pm_up (pm_up (pm_up (pm_up (pm_up (pm_up (pm_up (pm_up (pm_up (pm_up (pm_up (pm_up (pm_up (pm_up (pm_up (pm_up (pm_up (pm_up (pm_up (pm_up (pm_up (pm_up (pm_up (pm_dM (pm_fb 2 D)) 182 0 183) 182 4 184) 182 5 185) 182 6 186) 182 7 187) 182 8 188) 189 5 190) 189 6 191) 189 7 192) 189 8 193) 185 0 189) 199 1 200) 199 2 201) 199 3 202) 186 0 199) 207 1 208) 207 2 209) 188 0 207) 194 5 195) 194 6 196) 194 7 197) 194 8 198) 185 1 194) 203 1 204) 203 2 205) 203 3 206) 186 1 203, pm_up (pm_up (pm_up (pm_up (pm_up (pm_up (pm_up (pm_up (pm_up (pm_up (pm_up (pm_up (pm_up (pm_up (pm_up (pm_up (I) 182 1 0) 182 2 0) 182 3 (-1)) 189 0 20) 189 1 1) 189 2 5) 189 3 6) 189 4 0) 199 0 0) 207 0 0) 194 0 20) 194 1 1) 194 2 5) 194 3 6) 194 4 0) 203 0 0, L)
abbrev ni2_m15 (al : List Nat) (D : Nat → Bool) (I : Nat → Nat → Int32) (L : Nat → Nat → Int64) : pm_M := (al ++ [182] ++ [183] ++ [184] ++ [185] ++ [186] ++ [187] ++ [188] ++ [189] ++ [190] ++ [191] ++ [192] ++ [193] ++ [199] ++ [200] ++ [201] ++ [202] ++ [207] ++ [208] ++ [209] ++ [194] ++ [195] ++ [196] ++ [197] ++ [198] ++ [203] ++ [204] ++ [205] ++ [206] ++ [210] ++ [211] ++ [212], pm_set (pm_set (pm_set (pm_set (pm_set (pm_set (pm_set (pm_set (pm_set (pm_set (pm_set (pm_set (pm_set (pm_set (pm_set (pm_set (pm_set (pm_set (pm_set (pm_set (pm_set (pm_set (pm_set (pm_set (pm_set (pm_set (pm_set (pm_set (pm_set (pm_set (pm_set (pm_dB (pm_fb 2 D)) 182) 183) 184) 185) 186) 187) 188) 189) 190) 191) 192) 193) 199) 200) 201) 202) 207) 208) 209) 194) 195) 196) 197) 198) 203) 204) 205) 206) 210) 211) 212, pm_up (pm_up (pm_up (pm_up (pm_up (pm_up (pm_up (pm_up (pm_up (pm_up (pm_up (pm_up (pm_up (pm_up (pm_up (pm_up (pm_up (pm_up (pm_up (pm_up (pm_up (pm_up (pm_up (pm_up (pm_up (pm_up (pm_up (pm_up (pm_up (pm_dM (pm_fb 2 D)) 182 0 183) 182 4 184) 182 5 185) 182 6 186) 182 7 187) 182 8 188) 189 5 190) 189 6 191) 189 7 192) 189 8 193) 185 0 189) 199 1 200) 199 2 201) 199 3 202) 186 0 199) 207 1 208) 207 2 209) 188 0 207) 194 5 195) 194 6 196) 194 7 197) 194 8 198) 185 1 194) 203 1 204) 203 2 205) 203 3 206) 186 1 203) 210 1 211) 210 2 212, pm_up (pm_up (pm_up (pm_up (pm_up (pm_up (pm_up (pm_up (pm_up (pm_up (pm_up (pm_up (pm_up (pm_up (pm_up (pm_up (pm_up (I) 182 1 0) 182 2 0) 182 3 (-1)) 189 0 20) 189 1 1) 189 2 5) 189 3 6) 189 4 0) 199 0 0) 207 0 0) 194 0 20) 194 1 1) 194 2 5) 194 3 6) 194 4 0) 203 0 0) 210 0 0, L)
set_option maxRecDepth 20000 in
theorem ni2_c10_s0 {X : Nat × (Nat → Int32)} {d : Nat} (al : List Nat) (D : Nat → Bool) (I : Nat → Nat → Int32) (L : Nat → Nat → Int64) : Rn X d co_Lo_init (0, [some (vr 210)], [], (ni2_m14 al D I L)) = some (none, (ni2_m15 al D I L)) := (Sg_eq X d co_Lo_init (fun _ => false) 14 _).trans rfl
theorem ni2_c10 {X : Nat × (Nat → Int32)} {d : Nat} (al : List Nat) (D : Nat → Bool) (I : Nat → Nat → Int32) (L : Nat → Nat → Int64) : Cl X (d + 1) 35 [vr 210] (ni2_m14 al D I L) = some (none, (ni2_m15 al D I L)) := by
  rw [Cl_s]
  show Rn X (d) co_Lo_init (0, [some (vr 210)], [], (ni2_m14 al D I L)) = _
  rw [ni2_c10_s0]
abbrev ni2_m16 (al : List Nat) (D : Nat → Bool) (I : Nat → Nat → Int32) (L : Nat → Nat → Int64) : pm_M := (al ++ [182] ++ [183] ++ [184] ++ [185] ++ [186] ++ [187] ++ [188] ++ [189] ++ [190] ++ [191] ++ [192] ++ [193] ++ [199] ++ [200] ++ [201] ++ [202] ++ [207] ++ [208] ++ [209] ++ [194] ++ [195] ++ [196] ++ [197] ++ [198] ++ [203] ++ [204] ++ [205] ++ [206] ++ [210] ++ [211] ++ [212], pm_set (pm_set (pm_set (pm_set (pm_set (pm_set (pm_set (pm_set (pm_set (pm_set (pm_set (pm_set (pm_set (pm_set (pm_set (pm_set (pm_set (pm_set (pm_set (pm_set (pm_set (pm_set (pm_set (pm_set (pm_set (pm_set (pm_set (pm_set (pm_set (pm_set (pm_set (pm_dB (pm_fb 2 D)) 182) 183) 184) 185) 186) 187) 188) 189) 190) 191) 192) 193) 199) 200) 201) 202) 207) 208) 209) 194) 195) 196) 197) 198) 203) 204) 205) 206) 210) 211) 212, pm_up (pm_up (pm_up (pm_up (pm_up (pm_up (pm_up (pm_up (pm_up (pm_up (pm_up (pm_up (pm_up (pm_up (pm_up (pm_up (pm_up (pm_up (pm_up (pm_up (pm_up (pm_up (pm_up (pm_up (pm_up (pm_up (pm_up (pm_up (pm_up (pm_up (pm_dM (pm_fb 2 D)) 182 0 183) 182 4 184) 182 5 185) 182 6 186) 182 7 187) 182 8 188) 189 5 190) 189 6 191) 189 7 192) 189 8 193) 185 0 189) 199 1 200) 199 2 201) 199 3 202) 186 0 199) 207 1 208) 207 2 209) 188 0 207) 194 5 195) 194 6 196) 194 7 197) 194 8 198) 185 1 194) 203 1 204) 203 2 205) 203 3 206) 186 1 203) 210 1 211) 210 2 212) 188 1 210, pm_up (pm_up (pm_up (pm_up (pm_up (pm_up (pm_up (pm_up (pm_up (pm_up (pm_up (pm_up (pm_up (pm_up (pm_up (pm_up (pm_up (I) 182 1 0) 182 2 0) 182 3 (-1)) 189 0 20) 189 1 1) 189 2 5) 189 3 6) 189 4 0) 199 0 0) 207 0 0) 194 0 20) 194 1 1) 194 2 5) 194 3 6) 194 4 0) 203 0 0) 210 0 0, L)
set_option maxRecDepth 20000 in
theorem ni2_c2_s0 {X : Nat × (Nat → Int32)} {d : Nat} (al : List Nat) (D : Nat → Bool) (I : Nat → Nat → Int32) (L : Nat → Nat → Int64) : Rn X d co_To_init (0, [some (vr 182), none], [], (ni2_m1 al D I L)) = ((Cl X d 6 [vr 189] (ni2_m2 al D I L)).bind pm_av).bind (fun r => Rn X d co_To_init (85, [some (vr 182), some (vi 0)], [vr 189, vi 0, vr 185], r)) := (Sg_eq X d co_To_init (fun p => Nat.beq p 85) 46 _).trans rfl
set_option maxRecDepth 20000 in
theorem ni2_c2_s1 {X : Nat × (Nat → Int32)} {d : Nat} (al : List Nat) (D : Nat → Bool) (I : Nat → Nat → Int32) (L : Nat → Nat → Int64) : Rn X d co_To_init (85, [some (vr 182), some (vi 0)], [vr 189, vi 0, vr 185], (ni2_m4 al D I L)) = ((Cl X d 76 [vr 199] (ni2_m5 al D I L)).bind pm_av).bind (fun r => Rn X d co_To_init (98, [some (vr 182), some (vi 0)], [vr 199, vi 0, vr 186], r)) := (Sg_eq X d co_To_init (fun p => Nat.beq p 98) 7 _).trans rfl
set_option maxRecDepth 20000 in
theorem ni2_c2_s2 {X : Nat × (Nat → Int32)} {d : Nat} (al : List Nat) (D : Nat → Bool) (I : Nat → Nat → Int32) (L : Nat → Nat → Int64) : Rn X d co_To_init (98, [some (vr 182), some (vi 0)], [vr 199, vi 0, vr 186], (ni2_m6 al D I L)) = ((Cl X d 35 [vr 207] (ni2_m7 al D I L)).bind pm_av).bind (fun r => Rn X d co_To_init (111, [some (vr 182), some (vi 0)], [vr 207, vi 0, vr 188], r)) := (Sg_eq X d co_To_init (fun p => Nat.beq p 111) 7 _).trans rfl
set_option maxRecDepth 20000 in
theorem ni2_c2_s3 {X : Nat × (Nat → Int32)} {d : Nat} (al : List Nat) (D : Nat → Bool) (I : Nat → Nat → Int32) (L : Nat → Nat → Int64) : Rn X d co_To_init (111, [some (vr 182), some (vi 0)], [vr 207, vi 0, vr 188], (ni2_m8 al D I L)) = ((Cl X d 6 [vr 194] (ni2_m9 al D I L)).bind pm_av).bind (fun r => Rn X d co_To_init (85, [some (vr 182), some (vi 1)], [vr 194, vi 1, vr 185], r)) := (Sg_eq X d co_To_init (fun p => Nat.beq p 85) 12 _).trans rfl
set_option maxRecDepth 20000 in
theorem ni2_c2_s4 {X : Nat × (Nat → Int32)} {d : Nat} (al : List Nat) (D : Nat → Bool) (I : Nat → Nat → Int32) (L : Nat → Nat → Int64) : Rn X d co_To_init (85, [some (vr 182), some (vi 1)], [vr 194, vi 1, vr 185], (ni2_m11 al D I L)) = ((Cl X d 76 [vr 203] (ni2_m12 al D I L)).bind pm_av).bind (fun r => Rn X d co_To_init (98, [some (vr 182), some (vi 1)], [vr 203, vi 1, vr 186], r)) := (Sg_eq X d co_To_init (fun p => Nat.beq p 98) 7 _).trans rfl
set_option maxRecDepth 20000 in
theorem ni2_c2_s5 {X : Nat × (Nat → Int32)} {d : Nat} (al : List Nat) (D : Nat → Bool) (I : Nat → Nat → Int32) (L : Nat → Nat → Int64) : Rn X d co_To_init (98, [some (vr 182), some (vi 1)], [vr 203, vi 1, vr 186], (ni2_m13 al D I L)) = ((Cl X d 35 [vr 210] (ni2_m14 al D I L)).bind pm_av).bind (fun r => Rn X d co_To_init (111, [some (vr 182), some (vi 1)], [vr 210, vi 1, vr 188], r)) := (Sg_eq X d co_To_init (fun p => Nat.beq p 111) 7 _).trans rfl
set_option maxRecDepth 20000 in
theorem ni2_c2_s6 {X : Nat × (Nat → Int32)} {d : Nat} (al : List Nat) (D : Nat → Bool) (I : Nat → Nat → Int32) (L : Nat → Nat → Int64) : Rn X d co_To_init (111, [some (vr 182), some (vi 1)], [vr 210, vi 1, vr 188], (ni2_m15 al D I L)) = some (none, (ni2_m16 al D I L)) := (Sg_eq X d co_To_init (fun _ => false) 7 _).trans rfl
theorem ni2_c2 {X : Nat × (Nat → Int32)} {d : Nat} (al : List Nat) (D : Nat → Bool) (I : Nat → Nat → Int32) (L : Nat → Nat → Int64) : Cl X (d + 3) 92 [vr 182] (ni2_m1 al D I L) = some (none, (ni2_m16 al D I L)) := by
  rw [Cl_s]
  show Rn X (d + 2) co_To_init (0, [some (vr 182), none], [], (ni2_m1 al D I L)) = _
  rw [ni2_c2_s0, ni2_c3 (X := X) (d := d)]
  simp only [Option.bind_some, pm_av]
  rw [ni2_c2_s1, ni2_c5 (X := X) (d := d + 1)]
  simp only [Option.bind_some, pm_av]
  rw [ni2_c2_s2, ni2_c6 (X := X) (d := d + 1)]
  simp only [Option.bind_some, pm_av]
  rw [ni2_c2_s3, ni2_c7 (X := X) (d := d)]
  simp only [Option.bind_some, pm_av]
  rw [ni2_c2_s4, ni2_c9 (X := X) (d := d + 1)]
  simp only [Option.bind_some, pm_av]
  rw [ni2_c2_s5, ni2_c10 (X := X) (d := d + 1)]
  simp only [Option.bind_some, pm_av]
  rw [ni2_c2_s6]
abbrev ni2_m17 (al : List Nat) (D : Nat → Bool) (I : Nat → Nat → Int32) (L : Nat → Nat → Int64) : pm_M := (al ++ [182] ++ [183] ++ [184] ++ [185] ++ [186] ++ [187] ++ [188] ++ [189] ++ [190] ++ [191] ++ [192] ++ [193] ++ [199] ++ [200] ++ [201] ++ [202] ++ [207] ++ [208] ++ [209] ++ [194] ++ [195] ++ [196] ++ [197] ++ [198] ++ [203] ++ [204] ++ [205] ++ [206] ++ [210] ++ [211] ++ [212], pm_set (pm_set (pm_set (pm_set (pm_set (pm_set (pm_set (pm_set (pm_set (pm_set (pm_set (pm_set (pm_set (pm_set (pm_set (pm_set (pm_set (pm_set (pm_set (pm_set (pm_set (pm_set (pm_set (pm_set (pm_set (pm_set (pm_set (pm_set (pm_set (pm_set (pm_set (pm_dB (pm_fb 2 D)) 182) 183) 184) 185) 186) 187) 188) 189) 190) 191) 192) 193) 199) 200) 201) 202) 207) 208) 209) 194) 195) 196) 197) 198) 203) 204) 205) 206) 210) 211) 212, pm_up (pm_up (pm_up (pm_up (pm_up (pm_up (pm_up (pm_up (pm_up (pm_up (pm_up (pm_up (pm_up (pm_up (pm_up (pm_up (pm_up (pm_up (pm_up (pm_up (pm_up (pm_up (pm_up (pm_up (pm_up (pm_up (pm_up (pm_up (pm_up (pm_up (pm_up (pm_dM (pm_fb 2 D)) 182 0 183) 182 4 184) 182 5 185) 182 6 186) 182 7 187) 182 8 188) 189 5 190) 189 6 191) 189 7 192) 189 8 193) 185 0 189) 199 1 200) 199 2 201) 199 3 202) 186 0 199) 207 1 208) 207 2 209) 188 0 207) 194 5 195) 194 6 196) 194 7 197) 194 8 198) 185 1 194) 203 1 204) 203 2 205) 203 3 206) 186 1 203) 210 1 211) 210 2 212) 188 1 210) 33 2 182, pm_up (pm_up (pm_up (pm_up (pm_up (pm_up (pm_up (pm_up (pm_up (pm_up (pm_up (pm_up (pm_up (pm_up (pm_up (pm_up (pm_up (I) 182 1 0) 182 2 0) 182 3 (-1)) 189 0 20) 189 1 1) 189 2 5) 189 3 6) 189 4 0) 199 0 0) 207 0 0) 194 0 20) 194 1 1) 194 2 5) 194 3 6) 194 4 0) 203 0 0) 210 0 0, L)
set_option maxRecDepth 20000 in
theorem ni2_s0 {X : Nat × (Nat → Int32)} {d : Nat} (al : List Nat) (D : Nat → Bool) (I : Nat → Nat → Int32) (L : Nat → Nat → Int64) : Rn X d co_Ch_image (0, [some (vr 1), some (vi 2)], [], (ni2_m0 al D I L)) = ((Cl X d 92 [vr 182] (ni2_m1 al D I L)).bind pm_av).bind (fun r => Rn X d co_Ch_image (32, [some (vr 1), some (vi 2)], [vr 182, vi 2, vr 33], r)) := (Sg_eq X d co_Ch_image (fun p => Nat.beq p 32) 16 _).trans rfl
set_option maxRecDepth 20000 in
theorem ni2_s1 {X : Nat × (Nat → Int32)} {d : Nat} (al : List Nat) (D : Nat → Bool) (I : Nat → Nat → Int32) (L : Nat → Nat → Int64) : Rn X d co_Ch_image (32, [some (vr 1), some (vi 2)], [vr 182, vi 2, vr 33], (ni2_m16 al D I L)) = Rn X d co_Ch_image (33, [some (vr 1), some (vi 2)], [], (ni2_m17 al D I L)) := (Sg_eq X d co_Ch_image (fun p => Nat.beq p 33) 1 _).trans rfl
theorem ni2 {X : Nat × (Nat → Int32)} {d : Nat} (al : List Nat) (D : Nat → Bool) (I : Nat → Nat → Int32) (L : Nat → Nat → Int64) : Rn X (d + 3) co_Ch_image (0, [some (vr 1), some (vi 2)], [], (ni2_m0 al D I L)) = Rn X (d + 3) co_Ch_image (33, [some (vr 1), some (vi 2)], [], (ni2_m17 al D I L)) := by
  rw [ni2_s0, ni2_c2 (X := X) (d := d)]
  simp only [Option.bind_some, pm_av]
  rw [ni2_s1]
theorem niA_2 (D : Nat → Bool) : pm_set (pm_set (pm_set (pm_set (pm_set (pm_set (pm_set (pm_set (pm_set (pm_set (pm_set (pm_set (pm_set (pm_set (pm_set (pm_set (pm_set (pm_set (pm_set (pm_set (pm_set (pm_set (pm_set (pm_set (pm_set (pm_set (pm_set (pm_set (pm_set (pm_set (pm_set (pm_dB (pm_fb 2 D)) 182) 183) 184) 185) 186) 187) 188) 189) 190) 191) 192) 193) 199) 200) 201) 202) 207) 208) 209) 194) 195) 196) 197) 198) 203) 204) 205) 206) 210) 211) 212 = pm_dB (pm_tb 2 D) := by
  funext a
  by_cases h0 : a = 212
  · subst h0; rfl
  by_cases h1 : a = 211
  · subst h1; rfl
  by_cases h2 : a = 210
  · subst h2; rfl
  by_cases h3 : a = 206
  · subst h3; rfl
  by_cases h4 : a = 205
  · subst h4; rfl
  by_cases h5 : a = 204
  · subst h5; rfl
  by_cases h6 : a = 203
  · subst h6; rfl
  by_cases h7 : a = 198
  · subst h7; rfl
  by_cases h8 : a = 197
  · subst h8; rfl
  by_cases h9 : a = 196
  · subst h9; rfl
  by_cases h10 : a = 195
  · subst h10; rfl
  by_cases h11 : a = 194
  · subst h11; rfl
  by_cases h12 : a = 209
  · subst h12; rfl
  by_cases h13 : a = 208
  · subst h13; rfl
  by_cases h14 : a = 207
  · subst h14; rfl
  by_cases h15 : a = 202
  · subst h15; rfl
  by_cases h16 : a = 201
  · subst h16; rfl
  by_cases h17 : a = 200
  · subst h17; rfl
  by_cases h18 : a = 199
  · subst h18; rfl
  by_cases h19 : a = 193
  · subst h19; rfl
  by_cases h20 : a = 192
  · subst h20; rfl
  by_cases h21 : a = 191
  · subst h21; rfl
  by_cases h22 : a = 190
  · subst h22; rfl
  by_cases h23 : a = 189
  · subst h23; rfl
  by_cases h24 : a = 188
  · subst h24; rfl
  by_cases h25 : a = 187
  · subst h25; rfl
  by_cases h26 : a = 186
  · subst h26; rfl
  by_cases h27 : a = 185
  · subst h27; rfl
  by_cases h28 : a = 184
  · subst h28; rfl
  by_cases h29 : a = 183
  · subst h29; rfl
  by_cases h30 : a = 182
  · subst h30; rfl
  rw [set_ne h0, set_ne h1, set_ne h2, set_ne h3, set_ne h4, set_ne h5, set_ne h6, set_ne h7, set_ne h8, set_ne h9, set_ne h10, set_ne h11, set_ne h12, set_ne h13, set_ne h14, set_ne h15, set_ne h16, set_ne h17, set_ne h18, set_ne h19, set_ne h20, set_ne h21, set_ne h22, set_ne h23, set_ne h24, set_ne h25, set_ne h26, set_ne h27, set_ne h28, set_ne h29, set_ne h30]
  unfold pm_dB
  repeat' (first | with_reducible rfl | (exfalso; omega) | refine cnb (fun _ => ?_) (fun _ => ?_) | rfl)
theorem niN_2 (D : Nat → Bool) : pm_up (pm_up (pm_up (pm_up (pm_up (pm_up (pm_up (pm_up (pm_up (pm_up (pm_up (pm_up (pm_up (pm_up (pm_up (pm_up (pm_up (pm_up (pm_up (pm_up (pm_up (pm_up (pm_up (pm_up (pm_up (pm_up (pm_up (pm_up (pm_up (pm_up (pm_up (pm_dM (pm_fb 2 D)) 182 0 183) 182 4 184) 182 5 185) 182 6 186) 182 7 187) 182 8 188) 189 5 190) 189 6 191) 189 7 192) 189 8 193) 185 0 189) 199 1 200) 199 2 201) 199 3 202) 186 0 199) 207 1 208) 207 2 209) 188 0 207) 194 5 195) 194 6 196) 194 7 197) 194 8 198) 185 1 194) 203 1 204) 203 2 205) 203 3 206) 186 1 203) 210 1 211) 210 2 212) 188 1 210) 33 2 182 = pm_dM (pm_tb 2 D) := by
  funext a j
  by_cases c0 : a = 182
  · subst c0
    by_cases j0 : j = 0
    · subst j0; rfl
    by_cases j1 : j = 4
    · subst j1; rfl
    by_cases j2 : j = 5
    · subst j2; rfl
    by_cases j3 : j = 6
    · subst j3; rfl
    by_cases j4 : j = 7
    · subst j4; rfl
    by_cases j5 : j = 8
    · subst j5; rfl
    rw [up_ne (by omega), up_ne (by omega), up_ne (by omega), up_ne (by omega), up_ne (by omega), up_ne (by omega), up_ne (by omega), up_ne (by omega), up_ne (by omega), up_ne (by omega), up_ne (by omega), up_ne (by omega), up_ne (by omega), up_ne (by omega), up_ne (by omega), up_ne (by omega), up_ne (by omega), up_ne (by omega), up_ne (by omega), up_ne (by omega), up_ne (by omega), up_ne (by omega), up_ne (by omega), up_ne (by omega), up_ne (by omega), up_ne (by omega), up_ne (by omega), up_ne (by omega), up_ne (by omega), up_ne (by omega), up_ne (by omega)]
    show 0 = pm_dN (pm_tb 2 D) 182 j
    refine Eq.symm ?_
    unfold pm_dN
    repeat' (first | rfl | (exfalso; omega) | refine cz0b (fun _ => ?_) (fun _ => ?_) | refine cz0e (fun _ => ?_) (fun _ => ?_))
  by_cases c1 : a = 183
  · subst c1
    rw [up_ne (by omega), up_ne (by omega), up_ne (by omega), up_ne (by omega), up_ne (by omega), up_ne (by omega), up_ne (by omega), up_ne (by omega), up_ne (by omega), up_ne (by omega), up_ne (by omega), up_ne (by omega), up_ne (by omega), up_ne (by omega), up_ne (by omega), up_ne (by omega), up_ne (by omega), up_ne (by omega), up_ne (by omega), up_ne (by omega), up_ne (by omega), up_ne (by omega), up_ne (by omega), up_ne (by omega), up_ne (by omega), up_ne (by omega), up_ne (by omega), up_ne (by omega), up_ne (by omega), up_ne (by omega), up_ne (by omega)]
    show 0 = pm_dN (pm_tb 2 D) 183 j
    refine Eq.symm ?_
    unfold pm_dN
    repeat' (first | rfl | (exfalso; omega) | refine cz0b (fun _ => ?_) (fun _ => ?_) | refine cz0e (fun _ => ?_) (fun _ => ?_))
  by_cases c2 : a = 184
  · subst c2
    rw [up_ne (by omega), up_ne (by omega), up_ne (by omega), up_ne (by omega), up_ne (by omega), up_ne (by omega), up_ne (by omega), up_ne (by omega), up_ne (by omega), up_ne (by omega), up_ne (by omega), up_ne (by omega), up_ne (by omega), up_ne (by omega), up_ne (by omega), up_ne (by omega), up_ne (by omega), up_ne (by omega), up_ne (by omega), up_ne (by omega), up_ne (by omega), up_ne (by omega), up_ne (by omega), up_ne (by omega), up_ne (by omega), up_ne (by omega), up_ne (by omega), up_ne (by omega), up_ne (by omega), up_ne (by omega), up_ne (by omega)]
    show 0 = pm_dN (pm_tb 2 D) 184 j
    refine Eq.symm ?_
    unfold pm_dN
    repeat' (first | rfl | (exfalso; omega) | refine cz0b (fun _ => ?_) (fun _ => ?_) | refine cz0e (fun _ => ?_) (fun _ => ?_))
  by_cases c3 : a = 185
  · subst c3
    by_cases j0 : j = 0
    · subst j0; rfl
    by_cases j1 : j = 1
    · subst j1; rfl
    rw [up_ne (by omega), up_ne (by omega), up_ne (by omega), up_ne (by omega), up_ne (by omega), up_ne (by omega), up_ne (by omega), up_ne (by omega), up_ne (by omega), up_ne (by omega), up_ne (by omega), up_ne (by omega), up_ne (by omega), up_ne (by omega), up_ne (by omega), up_ne (by omega), up_ne (by omega), up_ne (by omega), up_ne (by omega), up_ne (by omega), up_ne (by omega), up_ne (by omega), up_ne (by omega), up_ne (by omega), up_ne (by omega), up_ne (by omega), up_ne (by omega), up_ne (by omega), up_ne (by omega), up_ne (by omega), up_ne (by omega)]
    show 0 = pm_dN (pm_tb 2 D) 185 j
    refine Eq.symm ?_
    unfold pm_dN
    repeat' (first | rfl | (exfalso; omega) | refine cz0b (fun _ => ?_) (fun _ => ?_) | refine cz0e (fun _ => ?_) (fun _ => ?_))
  by_cases c4 : a = 186
  · subst c4
    by_cases j0 : j = 0
    · subst j0; rfl
    by_cases j1 : j = 1
    · subst j1; rfl
    rw [up_ne (by omega), up_ne (by omega), up_ne (by omega), up_ne (by omega), up_ne (by omega), up_ne (by omega), up_ne (by omega), up_ne (by omega), up_ne (by omega), up_ne (by omega), up_ne (by omega), up_ne (by omega), up_ne (by omega), up_ne (by omega), up_ne (by omega), up_ne (by omega), up_ne (by omega), up_ne (by omega), up_ne (by omega), up_ne (by omega), up_ne (by omega), up_ne (by omega), up_ne (by omega), up_ne (by omega), up_ne (by omega), up_ne (by omega), up_ne (by omega), up_ne (by omega), up_ne (by omega), up_ne (by omega), up_ne (by omega)]
    show 0 = pm_dN (pm_tb 2 D) 186 j
    refine Eq.symm ?_
    unfold pm_dN
    repeat' (first | rfl | (exfalso; omega) | refine cz0b (fun _ => ?_) (fun _ => ?_) | refine cz0e (fun _ => ?_) (fun _ => ?_))
  by_cases c5 : a = 187
  · subst c5
    rw [up_ne (by omega), up_ne (by omega), up_ne (by omega), up_ne (by omega), up_ne (by omega), up_ne (by omega), up_ne (by omega), up_ne (by omega), up_ne (by omega), up_ne (by omega), up_ne (by omega), up_ne (by omega), up_ne (by omega), up_ne (by omega), up_ne (by omega), up_ne (by omega), up_ne (by omega), up_ne (by omega), up_ne (by omega), up_ne (by omega), up_ne (by omega), up_ne (by omega), up_ne (by omega), up_ne (by omega), up_ne (by omega), up_ne (by omega), up_ne (by omega), up_ne (by omega), up_ne (by omega), up_ne (by omega), up_ne (by omega)]
    show 0 = pm_dN (pm_tb 2 D) 187 j
    refine Eq.symm ?_
    unfold pm_dN
    repeat' (first | rfl | (exfalso; omega) | refine cz0b (fun _ => ?_) (fun _ => ?_) | refine cz0e (fun _ => ?_) (fun _ => ?_))
  by_cases c6 : a = 188
  · subst c6
    by_cases j0 : j = 0
    · subst j0; rfl
    by_cases j1 : j = 1
    · subst j1; rfl
    rw [up_ne (by omega), up_ne (by omega), up_ne (by omega), up_ne (by omega), up_ne (by omega), up_ne (by omega), up_ne (by omega), up_ne (by omega), up_ne (by omega), up_ne (by omega), up_ne (by omega), up_ne (by omega), up_ne (by omega), up_ne (by omega), up_ne (by omega), up_ne (by omega), up_ne (by omega), up_ne (by omega), up_ne (by omega), up_ne (by omega), up_ne (by omega), up_ne (by omega), up_ne (by omega), up_ne (by omega), up_ne (by omega), up_ne (by omega), up_ne (by omega), up_ne (by omega), up_ne (by omega), up_ne (by omega), up_ne (by omega)]
    show 0 = pm_dN (pm_tb 2 D) 188 j
    refine Eq.symm ?_
    unfold pm_dN
    repeat' (first | rfl | (exfalso; omega) | refine cz0b (fun _ => ?_) (fun _ => ?_) | refine cz0e (fun _ => ?_) (fun _ => ?_))
  by_cases c7 : a = 189
  · subst c7
    by_cases j0 : j = 5
    · subst j0; rfl
    by_cases j1 : j = 6
    · subst j1; rfl
    by_cases j2 : j = 7
    · subst j2; rfl
    by_cases j3 : j = 8
    · subst j3; rfl
    rw [up_ne (by omega), up_ne (by omega), up_ne (by omega), up_ne (by omega), up_ne (by omega), up_ne (by omega), up_ne (by omega), up_ne (by omega), up_ne (by omega), up_ne (by omega), up_ne (by omega), up_ne (by omega), up_ne (by omega), up_ne (by omega), up_ne (by omega), up_ne (by omega), up_ne (by omega), up_ne (by omega), up_ne (by omega), up_ne (by omega), up_ne (by omega), up_ne (by omega), up_ne (by omega), up_ne (by omega), up_ne (by omega), up_ne (by omega), up_ne (by omega), up_ne (by omega), up_ne (by omega), up_ne (by omega), up_ne (by omega)]
    show 0 = pm_dN (pm_tb 2 D) 189 j
    refine Eq.symm ?_
    unfold pm_dN
    repeat' (first | rfl | (exfalso; omega) | refine cz0b (fun _ => ?_) (fun _ => ?_) | refine cz0e (fun _ => ?_) (fun _ => ?_))
  by_cases c8 : a = 190
  · subst c8
    rw [up_ne (by omega), up_ne (by omega), up_ne (by omega), up_ne (by omega), up_ne (by omega), up_ne (by omega), up_ne (by omega), up_ne (by omega), up_ne (by omega), up_ne (by omega), up_ne (by omega), up_ne (by omega), up_ne (by omega), up_ne (by omega), up_ne (by omega), up_ne (by omega), up_ne (by omega), up_ne (by omega), up_ne (by omega), up_ne (by omega), up_ne (by omega), up_ne (by omega), up_ne (by omega), up_ne (by omega), up_ne (by omega), up_ne (by omega), up_ne (by omega), up_ne (by omega), up_ne (by omega), up_ne (by omega), up_ne (by omega)]
    show 0 = pm_dN (pm_tb 2 D) 190 j
    refine Eq.symm ?_
    unfold pm_dN
    repeat' (first | rfl | (exfalso; omega) | refine cz0b (fun _ => ?_) (fun _ => ?_) | refine cz0e (fun _ => ?_) (fun _ => ?_))
  by_cases c9 : a = 191
  · subst c9
    rw [up_ne (by omega), up_ne (by omega), up_ne (by omega), up_ne (by omega), up_ne (by omega), up_ne (by omega), up_ne (by omega), up_ne (by omega), up_ne (by omega), up_ne (by omega), up_ne (by omega), up_ne (by omega), up_ne (by omega), up_ne (by omega), up_ne (by omega), up_ne (by omega), up_ne (by omega), up_ne (by omega), up_ne (by omega), up_ne (by omega), up_ne (by omega), up_ne (by omega), up_ne (by omega), up_ne (by omega), up_ne (by omega), up_ne (by omega), up_ne (by omega), up_ne (by omega), up_ne (by omega), up_ne (by omega), up_ne (by omega)]
    show 0 = pm_dN (pm_tb 2 D) 191 j
    refine Eq.symm ?_
    unfold pm_dN
    repeat' (first | rfl | (exfalso; omega) | refine cz0b (fun _ => ?_) (fun _ => ?_) | refine cz0e (fun _ => ?_) (fun _ => ?_))
  by_cases c10 : a = 192
  · subst c10
    rw [up_ne (by omega), up_ne (by omega), up_ne (by omega), up_ne (by omega), up_ne (by omega), up_ne (by omega), up_ne (by omega), up_ne (by omega), up_ne (by omega), up_ne (by omega), up_ne (by omega), up_ne (by omega), up_ne (by omega), up_ne (by omega), up_ne (by omega), up_ne (by omega), up_ne (by omega), up_ne (by omega), up_ne (by omega), up_ne (by omega), up_ne (by omega), up_ne (by omega), up_ne (by omega), up_ne (by omega), up_ne (by omega), up_ne (by omega), up_ne (by omega), up_ne (by omega), up_ne (by omega), up_ne (by omega), up_ne (by omega)]
    show 0 = pm_dN (pm_tb 2 D) 192 j
    refine Eq.symm ?_
    unfold pm_dN
    repeat' (first | rfl | (exfalso; omega) | refine cz0b (fun _ => ?_) (fun _ => ?_) | refine cz0e (fun _ => ?_) (fun _ => ?_))
  by_cases c11 : a = 193
  · subst c11
    rw [up_ne (by omega), up_ne (by omega), up_ne (by omega), up_ne (by omega), up_ne (by omega), up_ne (by omega), up_ne (by omega), up_ne (by omega), up_ne (by omega), up_ne (by omega), up_ne (by omega), up_ne (by omega), up_ne (by omega), up_ne (by omega), up_ne (by omega), up_ne (by omega), up_ne (by omega), up_ne (by omega), up_ne (by omega), up_ne (by omega), up_ne (by omega), up_ne (by omega), up_ne (by omega), up_ne (by omega), up_ne (by omega), up_ne (by omega), up_ne (by omega), up_ne (by omega), up_ne (by omega), up_ne (by omega), up_ne (by omega)]
    show 0 = pm_dN (pm_tb 2 D) 193 j
    refine Eq.symm ?_
    unfold pm_dN
    repeat' (first | rfl | (exfalso; omega) | refine cz0b (fun _ => ?_) (fun _ => ?_) | refine cz0e (fun _ => ?_) (fun _ => ?_))
  by_cases c12 : a = 194
  · subst c12
    by_cases j0 : j = 5
    · subst j0; rfl
    by_cases j1 : j = 6
    · subst j1; rfl
    by_cases j2 : j = 7
    · subst j2; rfl
    by_cases j3 : j = 8
    · subst j3; rfl
    rw [up_ne (by omega), up_ne (by omega), up_ne (by omega), up_ne (by omega), up_ne (by omega), up_ne (by omega), up_ne (by omega), up_ne (by omega), up_ne (by omega), up_ne (by omega), up_ne (by omega), up_ne (by omega), up_ne (by omega), up_ne (by omega), up_ne (by omega), up_ne (by omega), up_ne (by omega), up_ne (by omega), up_ne (by omega), up_ne (by omega), up_ne (by omega), up_ne (by omega), up_ne (by omega), up_ne (by omega), up_ne (by omega), up_ne (by omega), up_ne (by omega), up_ne (by omega), up_ne (by omega), up_ne (by omega), up_ne (by omega)]
    show 0 = pm_dN (pm_tb 2 D) 194 j
    refine Eq.symm ?_
    unfold pm_dN
    repeat' (first | rfl | (exfalso; omega) | refine cz0b (fun _ => ?_) (fun _ => ?_) | refine cz0e (fun _ => ?_) (fun _ => ?_))
  by_cases c13 : a = 195
  · subst c13
    rw [up_ne (by omega), up_ne (by omega), up_ne (by omega), up_ne (by omega), up_ne (by omega), up_ne (by omega), up_ne (by omega), up_ne (by omega), up_ne (by omega), up_ne (by omega), up_ne (by omega), up_ne (by omega), up_ne (by omega), up_ne (by omega), up_ne (by omega), up_ne (by omega), up_ne (by omega), up_ne (by omega), up_ne (by omega), up_ne (by omega), up_ne (by omega), up_ne (by omega), up_ne (by omega), up_ne (by omega), up_ne (by omega), up_ne (by omega), up_ne (by omega), up_ne (by omega), up_ne (by omega), up_ne (by omega), up_ne (by omega)]
    show 0 = pm_dN (pm_tb 2 D) 195 j
    refine Eq.symm ?_
    unfold pm_dN
    repeat' (first | rfl | (exfalso; omega) | refine cz0b (fun _ => ?_) (fun _ => ?_) | refine cz0e (fun _ => ?_) (fun _ => ?_))
  by_cases c14 : a = 196
  · subst c14
    rw [up_ne (by omega), up_ne (by omega), up_ne (by omega), up_ne (by omega), up_ne (by omega), up_ne (by omega), up_ne (by omega), up_ne (by omega), up_ne (by omega), up_ne (by omega), up_ne (by omega), up_ne (by omega), up_ne (by omega), up_ne (by omega), up_ne (by omega), up_ne (by omega), up_ne (by omega), up_ne (by omega), up_ne (by omega), up_ne (by omega), up_ne (by omega), up_ne (by omega), up_ne (by omega), up_ne (by omega), up_ne (by omega), up_ne (by omega), up_ne (by omega), up_ne (by omega), up_ne (by omega), up_ne (by omega), up_ne (by omega)]
    show 0 = pm_dN (pm_tb 2 D) 196 j
    refine Eq.symm ?_
    unfold pm_dN
    repeat' (first | rfl | (exfalso; omega) | refine cz0b (fun _ => ?_) (fun _ => ?_) | refine cz0e (fun _ => ?_) (fun _ => ?_))
  by_cases c15 : a = 197
  · subst c15
    rw [up_ne (by omega), up_ne (by omega), up_ne (by omega), up_ne (by omega), up_ne (by omega), up_ne (by omega), up_ne (by omega), up_ne (by omega), up_ne (by omega), up_ne (by omega), up_ne (by omega), up_ne (by omega), up_ne (by omega), up_ne (by omega), up_ne (by omega), up_ne (by omega), up_ne (by omega), up_ne (by omega), up_ne (by omega), up_ne (by omega), up_ne (by omega), up_ne (by omega), up_ne (by omega), up_ne (by omega), up_ne (by omega), up_ne (by omega), up_ne (by omega), up_ne (by omega), up_ne (by omega), up_ne (by omega), up_ne (by omega)]
    show 0 = pm_dN (pm_tb 2 D) 197 j
    refine Eq.symm ?_
    unfold pm_dN
    repeat' (first | rfl | (exfalso; omega) | refine cz0b (fun _ => ?_) (fun _ => ?_) | refine cz0e (fun _ => ?_) (fun _ => ?_))
  by_cases c16 : a = 198
  · subst c16
    rw [up_ne (by omega), up_ne (by omega), up_ne (by omega), up_ne (by omega), up_ne (by omega), up_ne (by omega), up_ne (by omega), up_ne (by omega), up_ne (by omega), up_ne (by omega), up_ne (by omega), up_ne (by omega), up_ne (by omega), up_ne (by omega), up_ne (by omega), up_ne (by omega), up_ne (by omega), up_ne (by omega), up_ne (by omega), up_ne (by omega), up_ne (by omega), up_ne (by omega), up_ne (by omega), up_ne (by omega), up_ne (by omega), up_ne (by omega), up_ne (by omega), up_ne (by omega), up_ne (by omega), up_ne (by omega), up_ne (by omega)]
    show 0 = pm_dN (pm_tb 2 D) 198 j
    refine Eq.symm ?_
    unfold pm_dN
    repeat' (first | rfl | (exfalso; omega) | refine cz0b (fun _ => ?_) (fun _ => ?_) | refine cz0e (fun _ => ?_) (fun _ => ?_))
  by_cases c17 : a = 199
  · subst c17
    by_cases j0 : j = 1
    · subst j0; rfl
    by_cases j1 : j = 2
    · subst j1; rfl
    by_cases j2 : j = 3
    · subst j2; rfl
    rw [up_ne (by omega), up_ne (by omega), up_ne (by omega), up_ne (by omega), up_ne (by omega), up_ne (by omega), up_ne (by omega), up_ne (by omega), up_ne (by omega), up_ne (by omega), up_ne (by omega), up_ne (by omega), up_ne (by omega), up_ne (by omega), up_ne (by omega), up_ne (by omega), up_ne (by omega), up_ne (by omega), up_ne (by omega), up_ne (by omega), up_ne (by omega), up_ne (by omega), up_ne (by omega), up_ne (by omega), up_ne (by omega), up_ne (by omega), up_ne (by omega), up_ne (by omega), up_ne (by omega), up_ne (by omega), up_ne (by omega)]
    show 0 = pm_dN (pm_tb 2 D) 199 j
    refine Eq.symm ?_
    unfold pm_dN
    repeat' (first | rfl | (exfalso; omega) | refine cz0b (fun _ => ?_) (fun _ => ?_) | refine cz0e (fun _ => ?_) (fun _ => ?_))
  by_cases c18 : a = 200
  · subst c18
    rw [up_ne (by omega), up_ne (by omega), up_ne (by omega), up_ne (by omega), up_ne (by omega), up_ne (by omega), up_ne (by omega), up_ne (by omega), up_ne (by omega), up_ne (by omega), up_ne (by omega), up_ne (by omega), up_ne (by omega), up_ne (by omega), up_ne (by omega), up_ne (by omega), up_ne (by omega), up_ne (by omega), up_ne (by omega), up_ne (by omega), up_ne (by omega), up_ne (by omega), up_ne (by omega), up_ne (by omega), up_ne (by omega), up_ne (by omega), up_ne (by omega), up_ne (by omega), up_ne (by omega), up_ne (by omega), up_ne (by omega)]
    show 0 = pm_dN (pm_tb 2 D) 200 j
    refine Eq.symm ?_
    unfold pm_dN
    repeat' (first | rfl | (exfalso; omega) | refine cz0b (fun _ => ?_) (fun _ => ?_) | refine cz0e (fun _ => ?_) (fun _ => ?_))
  by_cases c19 : a = 201
  · subst c19
    rw [up_ne (by omega), up_ne (by omega), up_ne (by omega), up_ne (by omega), up_ne (by omega), up_ne (by omega), up_ne (by omega), up_ne (by omega), up_ne (by omega), up_ne (by omega), up_ne (by omega), up_ne (by omega), up_ne (by omega), up_ne (by omega), up_ne (by omega), up_ne (by omega), up_ne (by omega), up_ne (by omega), up_ne (by omega), up_ne (by omega), up_ne (by omega), up_ne (by omega), up_ne (by omega), up_ne (by omega), up_ne (by omega), up_ne (by omega), up_ne (by omega), up_ne (by omega), up_ne (by omega), up_ne (by omega), up_ne (by omega)]
    show 0 = pm_dN (pm_tb 2 D) 201 j
    refine Eq.symm ?_
    unfold pm_dN
    repeat' (first | rfl | (exfalso; omega) | refine cz0b (fun _ => ?_) (fun _ => ?_) | refine cz0e (fun _ => ?_) (fun _ => ?_))
  by_cases c20 : a = 202
  · subst c20
    rw [up_ne (by omega), up_ne (by omega), up_ne (by omega), up_ne (by omega), up_ne (by omega), up_ne (by omega), up_ne (by omega), up_ne (by omega), up_ne (by omega), up_ne (by omega), up_ne (by omega), up_ne (by omega), up_ne (by omega), up_ne (by omega), up_ne (by omega), up_ne (by omega), up_ne (by omega), up_ne (by omega), up_ne (by omega), up_ne (by omega), up_ne (by omega), up_ne (by omega), up_ne (by omega), up_ne (by omega), up_ne (by omega), up_ne (by omega), up_ne (by omega), up_ne (by omega), up_ne (by omega), up_ne (by omega), up_ne (by omega)]
    show 0 = pm_dN (pm_tb 2 D) 202 j
    refine Eq.symm ?_
    unfold pm_dN
    repeat' (first | rfl | (exfalso; omega) | refine cz0b (fun _ => ?_) (fun _ => ?_) | refine cz0e (fun _ => ?_) (fun _ => ?_))
  by_cases c21 : a = 203
  · subst c21
    by_cases j0 : j = 1
    · subst j0; rfl
    by_cases j1 : j = 2
    · subst j1; rfl
    by_cases j2 : j = 3
    · subst j2; rfl
    rw [up_ne (by omega), up_ne (by omega), up_ne (by omega), up_ne (by omega), up_ne (by omega), up_ne (by omega), up_ne (by omega), up_ne (by omega), up_ne (by omega), up_ne (by omega), up_ne (by omega), up_ne (by omega), up_ne (by omega), up_ne (by omega), up_ne (by omega), up_ne (by omega), up_ne (by omega), up_ne (by omega), up_ne (by omega), up_ne (by omega), up_ne (by omega), up_ne (by omega), up_ne (by omega), up_ne (by omega), up_ne (by omega), up_ne (by omega), up_ne (by omega), up_ne (by omega), up_ne (by omega), up_ne (by omega), up_ne (by omega)]
    show 0 = pm_dN (pm_tb 2 D) 203 j
    refine Eq.symm ?_
    unfold pm_dN
    repeat' (first | rfl | (exfalso; omega) | refine cz0b (fun _ => ?_) (fun _ => ?_) | refine cz0e (fun _ => ?_) (fun _ => ?_))
  by_cases c22 : a = 204
  · subst c22
    rw [up_ne (by omega), up_ne (by omega), up_ne (by omega), up_ne (by omega), up_ne (by omega), up_ne (by omega), up_ne (by omega), up_ne (by omega), up_ne (by omega), up_ne (by omega), up_ne (by omega), up_ne (by omega), up_ne (by omega), up_ne (by omega), up_ne (by omega), up_ne (by omega), up_ne (by omega), up_ne (by omega), up_ne (by omega), up_ne (by omega), up_ne (by omega), up_ne (by omega), up_ne (by omega), up_ne (by omega), up_ne (by omega), up_ne (by omega), up_ne (by omega), up_ne (by omega), up_ne (by omega), up_ne (by omega), up_ne (by omega)]
    show 0 = pm_dN (pm_tb 2 D) 204 j
    refine Eq.symm ?_
    unfold pm_dN
    repeat' (first | rfl | (exfalso; omega) | refine cz0b (fun _ => ?_) (fun _ => ?_) | refine cz0e (fun _ => ?_) (fun _ => ?_))
  by_cases c23 : a = 205
  · subst c23
    rw [up_ne (by omega), up_ne (by omega), up_ne (by omega), up_ne (by omega), up_ne (by omega), up_ne (by omega), up_ne (by omega), up_ne (by omega), up_ne (by omega), up_ne (by omega), up_ne (by omega), up_ne (by omega), up_ne (by omega), up_ne (by omega), up_ne (by omega), up_ne (by omega), up_ne (by omega), up_ne (by omega), up_ne (by omega), up_ne (by omega), up_ne (by omega), up_ne (by omega), up_ne (by omega), up_ne (by omega), up_ne (by omega), up_ne (by omega), up_ne (by omega), up_ne (by omega), up_ne (by omega), up_ne (by omega), up_ne (by omega)]
    show 0 = pm_dN (pm_tb 2 D) 205 j
    refine Eq.symm ?_
    unfold pm_dN
    repeat' (first | rfl | (exfalso; omega) | refine cz0b (fun _ => ?_) (fun _ => ?_) | refine cz0e (fun _ => ?_) (fun _ => ?_))
  by_cases c24 : a = 206
  · subst c24
    rw [up_ne (by omega), up_ne (by omega), up_ne (by omega), up_ne (by omega), up_ne (by omega), up_ne (by omega), up_ne (by omega), up_ne (by omega), up_ne (by omega), up_ne (by omega), up_ne (by omega), up_ne (by omega), up_ne (by omega), up_ne (by omega), up_ne (by omega), up_ne (by omega), up_ne (by omega), up_ne (by omega), up_ne (by omega), up_ne (by omega), up_ne (by omega), up_ne (by omega), up_ne (by omega), up_ne (by omega), up_ne (by omega), up_ne (by omega), up_ne (by omega), up_ne (by omega), up_ne (by omega), up_ne (by omega), up_ne (by omega)]
    show 0 = pm_dN (pm_tb 2 D) 206 j
    refine Eq.symm ?_
    unfold pm_dN
    repeat' (first | rfl | (exfalso; omega) | refine cz0b (fun _ => ?_) (fun _ => ?_) | refine cz0e (fun _ => ?_) (fun _ => ?_))
  by_cases c25 : a = 207
  · subst c25
    by_cases j0 : j = 1
    · subst j0; rfl
    by_cases j1 : j = 2
    · subst j1; rfl
    rw [up_ne (by omega), up_ne (by omega), up_ne (by omega), up_ne (by omega), up_ne (by omega), up_ne (by omega), up_ne (by omega), up_ne (by omega), up_ne (by omega), up_ne (by omega), up_ne (by omega), up_ne (by omega), up_ne (by omega), up_ne (by omega), up_ne (by omega), up_ne (by omega), up_ne (by omega), up_ne (by omega), up_ne (by omega), up_ne (by omega), up_ne (by omega), up_ne (by omega), up_ne (by omega), up_ne (by omega), up_ne (by omega), up_ne (by omega), up_ne (by omega), up_ne (by omega), up_ne (by omega), up_ne (by omega), up_ne (by omega)]
    show 0 = pm_dN (pm_tb 2 D) 207 j
    refine Eq.symm ?_
    unfold pm_dN
    repeat' (first | rfl | (exfalso; omega) | refine cz0b (fun _ => ?_) (fun _ => ?_) | refine cz0e (fun _ => ?_) (fun _ => ?_))
  by_cases c26 : a = 208
  · subst c26
    rw [up_ne (by omega), up_ne (by omega), up_ne (by omega), up_ne (by omega), up_ne (by omega), up_ne (by omega), up_ne (by omega), up_ne (by omega), up_ne (by omega), up_ne (by omega), up_ne (by omega), up_ne (by omega), up_ne (by omega), up_ne (by omega), up_ne (by omega), up_ne (by omega), up_ne (by omega), up_ne (by omega), up_ne (by omega), up_ne (by omega), up_ne (by omega), up_ne (by omega), up_ne (by omega), up_ne (by omega), up_ne (by omega), up_ne (by omega), up_ne (by omega), up_ne (by omega), up_ne (by omega), up_ne (by omega), up_ne (by omega)]
    show 0 = pm_dN (pm_tb 2 D) 208 j
    refine Eq.symm ?_
    unfold pm_dN
    repeat' (first | rfl | (exfalso; omega) | refine cz0b (fun _ => ?_) (fun _ => ?_) | refine cz0e (fun _ => ?_) (fun _ => ?_))
  by_cases c27 : a = 209
  · subst c27
    rw [up_ne (by omega), up_ne (by omega), up_ne (by omega), up_ne (by omega), up_ne (by omega), up_ne (by omega), up_ne (by omega), up_ne (by omega), up_ne (by omega), up_ne (by omega), up_ne (by omega), up_ne (by omega), up_ne (by omega), up_ne (by omega), up_ne (by omega), up_ne (by omega), up_ne (by omega), up_ne (by omega), up_ne (by omega), up_ne (by omega), up_ne (by omega), up_ne (by omega), up_ne (by omega), up_ne (by omega), up_ne (by omega), up_ne (by omega), up_ne (by omega), up_ne (by omega), up_ne (by omega), up_ne (by omega), up_ne (by omega)]
    show 0 = pm_dN (pm_tb 2 D) 209 j
    refine Eq.symm ?_
    unfold pm_dN
    repeat' (first | rfl | (exfalso; omega) | refine cz0b (fun _ => ?_) (fun _ => ?_) | refine cz0e (fun _ => ?_) (fun _ => ?_))
  by_cases c28 : a = 210
  · subst c28
    by_cases j0 : j = 1
    · subst j0; rfl
    by_cases j1 : j = 2
    · subst j1; rfl
    rw [up_ne (by omega), up_ne (by omega), up_ne (by omega), up_ne (by omega), up_ne (by omega), up_ne (by omega), up_ne (by omega), up_ne (by omega), up_ne (by omega), up_ne (by omega), up_ne (by omega), up_ne (by omega), up_ne (by omega), up_ne (by omega), up_ne (by omega), up_ne (by omega), up_ne (by omega), up_ne (by omega), up_ne (by omega), up_ne (by omega), up_ne (by omega), up_ne (by omega), up_ne (by omega), up_ne (by omega), up_ne (by omega), up_ne (by omega), up_ne (by omega), up_ne (by omega), up_ne (by omega), up_ne (by omega), up_ne (by omega)]
    show 0 = pm_dN (pm_tb 2 D) 210 j
    refine Eq.symm ?_
    unfold pm_dN
    repeat' (first | rfl | (exfalso; omega) | refine cz0b (fun _ => ?_) (fun _ => ?_) | refine cz0e (fun _ => ?_) (fun _ => ?_))
  by_cases c29 : a = 211
  · subst c29
    rw [up_ne (by omega), up_ne (by omega), up_ne (by omega), up_ne (by omega), up_ne (by omega), up_ne (by omega), up_ne (by omega), up_ne (by omega), up_ne (by omega), up_ne (by omega), up_ne (by omega), up_ne (by omega), up_ne (by omega), up_ne (by omega), up_ne (by omega), up_ne (by omega), up_ne (by omega), up_ne (by omega), up_ne (by omega), up_ne (by omega), up_ne (by omega), up_ne (by omega), up_ne (by omega), up_ne (by omega), up_ne (by omega), up_ne (by omega), up_ne (by omega), up_ne (by omega), up_ne (by omega), up_ne (by omega), up_ne (by omega)]
    show 0 = pm_dN (pm_tb 2 D) 211 j
    refine Eq.symm ?_
    unfold pm_dN
    repeat' (first | rfl | (exfalso; omega) | refine cz0b (fun _ => ?_) (fun _ => ?_) | refine cz0e (fun _ => ?_) (fun _ => ?_))
  by_cases c30 : a = 212
  · subst c30
    rw [up_ne (by omega), up_ne (by omega), up_ne (by omega), up_ne (by omega), up_ne (by omega), up_ne (by omega), up_ne (by omega), up_ne (by omega), up_ne (by omega), up_ne (by omega), up_ne (by omega), up_ne (by omega), up_ne (by omega), up_ne (by omega), up_ne (by omega), up_ne (by omega), up_ne (by omega), up_ne (by omega), up_ne (by omega), up_ne (by omega), up_ne (by omega), up_ne (by omega), up_ne (by omega), up_ne (by omega), up_ne (by omega), up_ne (by omega), up_ne (by omega), up_ne (by omega), up_ne (by omega), up_ne (by omega), up_ne (by omega)]
    show 0 = pm_dN (pm_tb 2 D) 212 j
    refine Eq.symm ?_
    unfold pm_dN
    repeat' (first | rfl | (exfalso; omega) | refine cz0b (fun _ => ?_) (fun _ => ?_) | refine cz0e (fun _ => ?_) (fun _ => ?_))
  by_cases c31 : a = 33
  · subst c31
    by_cases j0 : j = 2
    · subst j0; rfl
    rw [up_ne (by omega), up_ne (by omega), up_ne (by omega), up_ne (by omega), up_ne (by omega), up_ne (by omega), up_ne (by omega), up_ne (by omega), up_ne (by omega), up_ne (by omega), up_ne (by omega), up_ne (by omega), up_ne (by omega), up_ne (by omega), up_ne (by omega), up_ne (by omega), up_ne (by omega), up_ne (by omega), up_ne (by omega), up_ne (by omega), up_ne (by omega), up_ne (by omega), up_ne (by omega), up_ne (by omega), up_ne (by omega), up_ne (by omega), up_ne (by omega), up_ne (by omega), up_ne (by omega), up_ne (by omega), up_ne (by omega)]
    show pm_dN (pm_fb 2 D) 33 j = pm_dN (pm_tb 2 D) 33 j
    unfold pm_dN
    repeat' (first | with_reducible rfl | (exfalso; omega) | refine cnb (fun _ => ?_) (fun _ => ?_) | refine cne (fun _ => ?_) (fun _ => ?_) | rfl)
  rw [up_ne (fun e => c31 e.1), up_ne (fun e => c6 e.1), up_ne (fun e => c28 e.1), up_ne (fun e => c28 e.1), up_ne (fun e => c4 e.1), up_ne (fun e => c21 e.1), up_ne (fun e => c21 e.1), up_ne (fun e => c21 e.1), up_ne (fun e => c3 e.1), up_ne (fun e => c12 e.1), up_ne (fun e => c12 e.1), up_ne (fun e => c12 e.1), up_ne (fun e => c12 e.1), up_ne (fun e => c6 e.1), up_ne (fun e => c25 e.1), up_ne (fun e => c25 e.1), up_ne (fun e => c4 e.1), up_ne (fun e => c17 e.1), up_ne (fun e => c17 e.1), up_ne (fun e => c17 e.1), up_ne (fun e => c3 e.1), up_ne (fun e => c7 e.1), up_ne (fun e => c7 e.1), up_ne (fun e => c7 e.1), up_ne (fun e => c7 e.1), up_ne (fun e => c0 e.1), up_ne (fun e => c0 e.1), up_ne (fun e => c0 e.1), up_ne (fun e => c0 e.1), up_ne (fun e => c0 e.1), up_ne (fun e => c0 e.1)]
  have eB : pm_dB (pm_fb 2 D) a = pm_dB (pm_tb 2 D) a := by
    unfold pm_dB
    repeat' (first | with_reducible rfl | (exfalso; omega) | refine cnb (fun _ => ?_) (fun _ => ?_) | rfl)
  have eN : pm_dN (pm_fb 2 D) a j = pm_dN (pm_tb 2 D) a j := by
    unfold pm_dN
    repeat' (first | with_reducible rfl | (exfalso; omega) | refine cnb (fun _ => ?_) (fun _ => ?_) | refine cne (fun _ => ?_) (fun _ => ?_) | rfl)
  rw [pm_dM, pm_dM, eB, eN]
def niI_2 (I : Nat → Nat → Int32) : Nat → Nat → Int32 := pm_up (pm_up (pm_up (pm_up (pm_up (pm_up (pm_up (pm_up (pm_up (pm_up (pm_up (pm_up (pm_up (pm_up (pm_up (pm_up (pm_up (I) 182 1 0) 182 2 0) 182 3 (-1)) 189 0 20) 189 1 1) 189 2 5) 189 3 6) 189 4 0) 199 0 0) 207 0 0) 194 0 20) 194 1 1) 194 2 5) 194 3 6) 194 4 0) 203 0 0) 210 0 0
def niL_2 (al : List Nat) : List Nat := al ++ [182] ++ [183] ++ [184] ++ [185] ++ [186] ++ [187] ++ [188] ++ [189] ++ [190] ++ [191] ++ [192] ++ [193] ++ [199] ++ [200] ++ [201] ++ [202] ++ [207] ++ [208] ++ [209] ++ [194] ++ [195] ++ [196] ++ [197] ++ [198] ++ [203] ++ [204] ++ [205] ++ [206] ++ [210] ++ [211] ++ [212]
theorem nim_2 (al : List Nat) (D : Nat → Bool) (I : Nat → Nat → Int32) (L : Nat → Nat → Int64) : ni2_m17 al D I L = pm_mm (niL_2 al) (pm_tb 2 D) (niI_2 I) L := by
  show (_, pm_set (pm_set (pm_set (pm_set (pm_set (pm_set (pm_set (pm_set (pm_set (pm_set (pm_set (pm_set (pm_set (pm_set (pm_set (pm_set (pm_set (pm_set (pm_set (pm_set (pm_set (pm_set (pm_set (pm_set (pm_set (pm_set (pm_set (pm_set (pm_set (pm_set (pm_set (pm_dB (pm_fb 2 D)) 182) 183) 184) 185) 186) 187) 188) 189) 190) 191) 192) 193) 199) 200) 201) 202) 207) 208) 209) 194) 195) 196) 197) 198) 203) 204) 205) 206) 210) 211) 212, pm_up (pm_up (pm_up (pm_up (pm_up (pm_up (pm_up (pm_up (pm_up (pm_up (pm_up (pm_up (pm_up (pm_up (pm_up (pm_up (pm_up (pm_up (pm_up (pm_up (pm_up (pm_up (pm_up (pm_up (pm_up (pm_up (pm_up (pm_up (pm_up (pm_up (pm_up (pm_dM (pm_fb 2 D)) 182 0 183) 182 4 184) 182 5 185) 182 6 186) 182 7 187) 182 8 188) 189 5 190) 189 6 191) 189 7 192) 189 8 193) 185 0 189) 199 1 200) 199 2 201) 199 3 202) 186 0 199) 207 1 208) 207 2 209) 188 0 207) 194 5 195) 194 6 196) 194 7 197) 194 8 198) 185 1 194) 203 1 204) 203 2 205) 203 3 206) 186 1 203) 210 1 211) 210 2 212) 188 1 210) 33 2 182, _, _) = _
  rw [niA_2, niN_2]; rfl
theorem nio_2 {I : Nat → Nat → Int32} {a : Nat} (h : ¬ (182 ≤ a ∧ a ≤ 212)) : niI_2 I a = I a := by
  rw [niI_2, up_rw (by omega), up_rw (by omega), up_rw (by omega), up_rw (by omega), up_rw (by omega), up_rw (by omega), up_rw (by omega), up_rw (by omega), up_rw (by omega), up_rw (by omega), up_rw (by omega), up_rw (by omega), up_rw (by omega), up_rw (by omega), up_rw (by omega), up_rw (by omega), up_rw (by omega)]
theorem nw_image_2 {X : Nat × (Nat → Int32)} {d : Nat} (al : List Nat) (D : Nat → Bool) (I : Nat → Nat → Int32) (L : Nat → Nat → Int64) : Rn X (d + 3) co_Ch_image (0, [some (vr 1), some (vi 2)], [], pm_mm al (pm_fb 2 D) I L) = Rn X (d + 3) co_Ch_image (33, [some (vr 1), some (vi 2)], [], pm_mm (niL_2 al) (pm_tb 2 D) (niI_2 I) L) := (ni2 al D I L).trans (by rw [nim_2])
end
