section
abbrev ni1_m0 (al : List Nat) (D : Nat → Bool) (I : Nat → Nat → Int32) (L : Nat → Nat → Int64) : pm_M := (al, pm_dB (pm_fb 1 D), pm_dM (pm_fb 1 D), I, L)
abbrev ni1_m1 (al : List Nat) (D : Nat → Bool) (I : Nat → Nat → Int32) (L : Nat → Nat → Int64) : pm_M := (al ++ [151], pm_set (pm_dB (pm_fb 1 D)) 151, pm_dM (pm_fb 1 D), I, L)
abbrev ni1_m2 (al : List Nat) (D : Nat → Bool) (I : Nat → Nat → Int32) (L : Nat → Nat → Int64) : pm_M := (al ++ [151] ++ [152] ++ [153] ++ [154] ++ [155] ++ [156] ++ [157] ++ [158], pm_set (pm_set (pm_set (pm_set (pm_set (pm_set (pm_set (pm_set (pm_dB (pm_fb 1 D)) 151) 152) 153) 154) 155) 156) 157) 158, pm_up (pm_up (pm_up (pm_up (pm_up (pm_up (pm_dM (pm_fb 1 D)) 151 0 152) 151 4 153) 151 5 154) 151 6 155) 151 7 156) 151 8 157, pm_up (pm_up (pm_up (I) 151 1 0) 151 2 0) 151 3 (-1), L)
abbrev ni1_m3 (al : List Nat) (D : Nat → Bool) (I : Nat → Nat → Int32) (L : Nat → Nat → Int64) : pm_M := (al ++ [151] ++ [152] ++ [153] ++ [154] ++ [155] ++ [156] ++ [157] ++ [158] ++ [159] ++ [160] ++ [161] ++ [162], pm_set (pm_set (pm_set (pm_set (pm_set (pm_set (pm_set (pm_set (pm_set (pm_set (pm_set (pm_set (pm_dB (pm_fb 1 D)) 151) 152) 153) 154) 155) 156) 157) 158) 159) 160) 161) 162, pm_up (pm_up (pm_up (pm_up (pm_up (pm_up (pm_up (pm_up (pm_up (pm_up (pm_dM (pm_fb 1 D)) 151 0 152) 151 4 153) 151 5 154) 151 6 155) 151 7 156) 151 8 157) 158 5 159) 158 6 160) 158 7 161) 158 8 162, pm_up (pm_up (pm_up (I) 151 1 0) 151 2 0) 151 3 (-1), L)
abbrev ni1_m4 (al : List Nat) (D : Nat → Bool) (I : Nat → Nat → Int32) (L : Nat → Nat → Int64) : pm_M := (al ++ [151] ++ [152] ++ [153] ++ [154] ++ [155] ++ [156] ++ [157] ++ [158] ++ [159] ++ [160] ++ [161] ++ [162], pm_set (pm_set (pm_set (pm_set (pm_set (pm_set (pm_set (pm_set (pm_set (pm_set (pm_set (pm_set (pm_dB (pm_fb 1 D)) 151) 152) 153) 154) 155) 156) 157) 158) 159) 160) 161) 162, pm_up (pm_up (pm_up (pm_up (pm_up (pm_up (pm_up (pm_up (pm_up (pm_up (pm_dM (pm_fb 1 D)) 151 0 152) 151 4 153) 151 5 154) 151 6 155) 151 7 156) 151 8 157) 158 5 159) 158 6 160) 158 7 161) 158 8 162, pm_up (pm_up (pm_up (pm_up (pm_up (pm_up (pm_up (pm_up (I) 151 1 0) 151 2 0) 151 3 (-1)) 158 0 20) 158 1 1) 158 2 5) 158 3 6) 158 4 0, L)
set_option maxRecDepth 20000 in
theorem ni1_c4_s0 {X : Nat × (Nat → Int32)} {d : Nat} (al : List Nat) (D : Nat → Bool) (I : Nat → Nat → Int32) (L : Nat → Nat → Int64) : Rn X d co_Ba_clear (0, [some (vr 158)], [], (ni1_m3 al D I L)) = some (none, (ni1_m4 al D I L)) := (Sg_eq X d co_Ba_clear (fun _ => false) 16 _).trans rfl
theorem ni1_c4 {X : Nat × (Nat → Int32)} {d : Nat} (al : List Nat) (D : Nat → Bool) (I : Nat → Nat → Int32) (L : Nat → Nat → Int64) : Cl X (d + 1) 7 [vr 158] (ni1_m3 al D I L) = some (none, (ni1_m4 al D I L)) := by
  rw [Cl_s]
  show Rn X (d) co_Ba_clear (0, [some (vr 158)], [], (ni1_m3 al D I L)) = _
  rw [ni1_c4_s0]
set_option maxRecDepth 20000 in
theorem ni1_c3_s0 {X : Nat × (Nat → Int32)} {d : Nat} (al : List Nat) (D : Nat → Bool) (I : Nat → Nat → Int32) (L : Nat → Nat → Int64) : Rn X d co_Ba_init (0, [some (vr 158)], [], (ni1_m2 al D I L)) = ((Cl X d 7 [vr 158] (ni1_m3 al D I L)).bind pm_av).bind (fun r => Rn X d co_Ba_init (40, [some (vr 158)], [], r)) := (Sg_eq X d co_Ba_init (fun p => Nat.beq p 40) 20 _).trans rfl
set_option maxRecDepth 20000 in
theorem ni1_c3_s1 {X : Nat × (Nat → Int32)} {d : Nat} (al : List Nat) (D : Nat → Bool) (I : Nat → Nat → Int32) (L : Nat → Nat → Int64) : Rn X d co_Ba_init (40, [some (vr 158)], [], (ni1_m4 al D I L)) = some (none, (ni1_m4 al D I L)) := (Sg_eq X d co_Ba_init (fun _ => false) 1 _).trans rfl
theorem ni1_c3 {X : Nat × (Nat → Int32)} {d : Nat} (al : List Nat) (D : Nat → Bool) (I : Nat → Nat → Int32) (L : Nat → Nat → Int64) : Cl X (d + 2) 6 [vr 158] (ni1_m2 al D I L) = some (none, (ni1_m4 al D I L)) := by
  rw [Cl_s]
  show Rn X (d + 1) co_Ba_init (0, [some (vr 158)], [], (ni1_m2 al D I L)) = _
  rw [ni1_c3_s0, ni1_c4 (X := X) (d := d)]
  simp only [Option.bind_some, pm_av]
  rw [ni1_c3_s1]
abbrev ni1_m5 (al : List Nat) (D : Nat → Bool) (I : Nat → Nat → Int32) (L : Nat → Nat → Int64) : pm_M := (al ++ [151] ++ [152] ++ [153] ++ [154] ++ [155] ++ [156] ++ [157] ++ [158] ++ [159] ++ [160] ++ [161] ++ [162] ++ [168], pm_set (pm_set (pm_set (pm_set (pm_set (pm_set (pm_set (pm_set (pm_set (pm_set (pm_set (pm_set (pm_set (pm_dB (pm_fb 1 D)) 151) 152) 153) 154) 155) 156) 157) 158) 159) 160) 161) 162) 168, pm_up (pm_up (pm_up (pm_up (pm_up (pm_up (pm_up (pm_up (pm_up (pm_up (pm_up (pm_dM (pm_fb 1 D)) 151 0 152) 151 4 153) 151 5 154) 151 6 155) 151 7 156) 151 8 157) 158 5 159) 158 6 160) 158 7 161) 158 8 162) 154 0 158, pm_up (pm_up (pm_up (pm_up (pm_up (pm_up (pm_up (pm_up (I) 151 1 0) 151 2 0) 151 3 (-1)) 158 0 20) 158 1 1) 158 2 5) 158 3 6) 158 4 0, L)
abbrev ni1_m6 (al : List Nat) (D : Nat → Bool) (I : Nat → Nat → Int32) (L : Nat → Nat → Int64) : pm_M := (al ++ [151] ++ [152] ++ [153] ++ [154] ++ [155] ++ [156] ++ [157] ++ [158] ++ [159] ++ [160] ++ [161] ++ [162] ++ [168] ++ [169] ++ [170] ++ [171], pm_set (pm_set (pm_set (pm_set (pm_set (pm_set (pm_set (pm_set (pm_set (pm_set (pm_set (pm_set (pm_set (pm_set (pm_set (pm_set (pm_dB (pm_fb 1 D)) 151) 152) 153) 154) 155) 156) 157) 158) 159) 160) 161) 162) 168) 169) 170) 171, pm_up (pm_up (pm_up (pm_up (pm_up (pm_up (pm_up (pm_up (pm_up (pm_up (pm_up (pm_up (pm_up (pm_up (pm_dM (pm_fb 1 D)) 151 0 152) 151 4 153) 151 5 154) 151 6 155) 151 7 156) 151 8 157) 158 5 159) 158 6 160) 158 7 161) 158 8 162) 154 0 158) 168 1 169) 168 2 170) 168 3 171, pm_up (pm_up (pm_up (pm_up (pm_up (pm_up (pm_up (pm_up (pm_up (I) 151 1 0) 151 2 0) 151 3 (-1)) 158 0 20) 158 1 1) 158 2 5) 158 3 6) 158 4 0) 168 0 0, L)
set_option maxRecDepth 20000 in
theorem ni1_c5_s0 {X : Nat × (Nat → Int32)} {d : Nat} (al : List Nat) (D : Nat → Bool) (I : Nat → Nat → Int32) (L : Nat → Nat → Int64) : Rn X d co_Sc_init (0, [some (vr 168)], [], (ni1_m5 al D I L)) = some (none, (ni1_m6 al D I L)) := (Sg_eq X d co_Sc_init (fun _ => false) 18 _).trans rfl
theorem ni1_c5 {X : Nat × (Nat → Int32)} {d : Nat} (al : List Nat) (D : Nat → Bool) (I : Nat → Nat → Int32) (L : Nat → Nat → Int64) : Cl X (d + 1) 76 [vr 168] (ni1_m5 al D I L) = some (none, (ni1_m6 al D I L)) := by
  rw [Cl_s]
  show Rn X (d) co_Sc_init (0, [some (vr 168)], [], (ni1_m5 al D I L)) = _
  rw [ni1_c5_s0]
abbrev ni1_m7 (al : List Nat) (D : Nat → Bool) (I : Nat → Nat → Int32) (L : Nat → Nat → Int64) : pm_M := (al ++ [151] ++ [152] ++ [153] ++ [154] ++ [155] ++ [156] ++ [157] ++ [158] ++ [159] ++ [160] ++ [161] ++ [162] ++ [168] ++ [169] ++ [170] ++ [171] ++ [176], pm_set (pm_set (pm_set (pm_set (pm_set (pm_set (pm_set (pm_set (pm_set (pm_set (pm_set (pm_set (pm_set (pm_set (pm_set (pm_set (pm_set (pm_dB (pm_fb 1 D)) 151) 152) 153) 154) 155) 156) 157) 158) 159) 160) 161) 162) 168) 169) 170) 171) 176, pm_up (pm_up (pm_up (pm_up (pm_up (pm_up (pm_up (pm_up (pm_up (pm_up (pm_up (pm_up (pm_up (pm_up (pm_up (pm_dM (pm_fb 1 D)) 151 0 152) 151 4 153) 151 5 154) 151 6 155) 151 7 156) 151 8 157) 158 5 159) 158 6 160) 158 7 161) 158 8 162) 154 0 158) 168 1 169) 168 2 170) 168 3 171) 155 0 168, pm_up (pm_up (pm_up (pm_up (pm_up (pm_up (pm_up (pm_up (pm_up (I) 151 1 0) 151 2 0) 151 3 (-1)) 158 0 20) 158 1 1) 158 2 5) 158 3 6) 158 4 0) 168 0 0, L)
abbrev ni1_m8 (al : List Nat) (D : Nat → Bool) (I : Nat → Nat → Int32) (L : Nat → Nat → Int64) : pm_M := (al ++ [151] ++ [152] ++ [153] ++ [154] ++ [155] ++ [156] ++ [157] ++ [158] ++ [159] ++ [160] ++ [161] ++ [162] ++ [168] ++ [169] ++ [170] ++ [171] ++ [176] ++ [177] ++ [178], pm_set (pm_set (pm_set (pm_set (pm_set (pm_set (pm_set (pm_set (pm_set (pm_set (pm_set (pm_set (pm_set (pm_set (pm_set (pm_set (pm_set (pm_set (pm_set (pm_dB (pm_fb 1 D)) 151) 152) 153) 154) 155) 156) 157) 158) 159) 160) 161) 162) 168) 169) 170) 171) 176) 177) 178, pm_up (pm_up (pm_up (pm_up (pm_up (pm_up (pm_up (pm_up (pm_up (pm_up (pm_up (pm_up (pm_up (pm_up (pm_up (pm_up (pm_up (pm_dM (pm_fb 1 D)) 151 0 152) 151 4 153) 151 5 154) 151 6 155) 151 7 156) 151 8 157) 158 5 159) 158 6 160) 158 7 161) 158 8 162) 154 0 158) 168 1 169) 168 2 170) 168 3 171) 155 0 168) 176 1 177) 176 2 178, pm_up (pm_up (pm_up (pm_up (pm_up (pm_up (pm_up (pm_up (pm_up (pm_up (I) 151 1 0) 151 2 0) 151 3 (-1)) 158 0 20) 158 1 1) 158 2 5) 158 3 6) 158 4 0) 168 0 0) 176 0 0, L)
set_option maxRecDepth 20000 in
theorem ni1_c6_s0 {X : Nat × (Nat → Int32)} {d : Nat} (al : List Nat) (D : Nat → Bool) (I : Nat → Nat → Int32) (L : Nat → Nat → Int64) : Rn X d co_Lo_init (0, [some (vr 176)], [], (ni1_m7 al D I L)) = some (none, (ni1_m8 al D I L)) := (Sg_eq X d co_Lo_init (fun _ => false) 14 _).trans rfl
theorem ni1_c6 {X : Nat × (Nat → Int32)} {d : Nat} (al : List Nat) (D : Nat → Bool) (I : Nat → Nat → Int32) (L : Nat → Nat → Int64) : Cl X (d + 1) 35 [vr 176] (ni1_m7 al D I L) = some (none, (ni1_m8 al D I L)) := by
  rw [Cl_s]
  show Rn X (d) co_Lo_init (0, [some (vr 176)], [], (ni1_m7 al D I L)) = _
  rw [ni1_c6_s0]
abbrev ni1_m9 (al : List Nat) (D : Nat → Bool) (I : Nat → Nat → Int32) (L : Nat → Nat → Int64) : pm_M := (al ++ [151] ++ [152] ++ [153] ++ [154] ++ [155] ++ [156] ++ [157] ++ [158] ++ [159] ++ [160] ++ [161] ++ [162] ++ [168] ++ [169] ++ [170] ++ [171] ++ [176] ++ [177] ++ [178] ++ [163], pm_set (pm_set (pm_set (pm_set (pm_set (pm_set (pm_set (pm_set (pm_set (pm_set (pm_set (pm_set (pm_set (pm_set (pm_set (pm_set (pm_set (pm_set (pm_set (pm_set (pm_dB (pm_fb 1 D)) 151) 152) 153) 154) 155) 156) 157) 158) 159) 160) 161) 162) 168) 169) 170) 171) 176) 177) 178) 163, pm_up (pm_up (pm_up (pm_up (pm_up (pm_up (pm_up (pm_up (pm_up (pm_up (pm_up (pm_up (pm_up (pm_up (pm_up (pm_up (pm_up (pm_up (pm_dM (pm_fb 1 D)) 151 0 152) 151 4 153) 151 5 154) 151 6 155) 151 7 156) 151 8 157) 158 5 159) 158 6 160) 158 7 161) 158 8 162) 154 0 158) 168 1 169) 168 2 170) 168 3 171) 155 0 168) 176 1 177) 176 2 178) 157 0 176, pm_up (pm_up (pm_up (pm_up (pm_up (pm_up (pm_up (pm_up (pm_up (pm_up (I) 151 1 0) 151 2 0) 151 3 (-1)) 158 0 20) 158 1 1) 158 2 5) 158 3 6) 158 4 0) 168 0 0) 176 0 0, L)
abbrev ni1_m10 (al : List Nat) (D : Nat → Bool) (I : Nat → Nat → Int32) (L : Nat → Nat → Int64) : pm_M := (al ++ [151] ++ [152] ++ [153] ++ [154] ++ [155] ++ [156] ++ [157] ++ [158] ++ [159] ++ [160] ++ [161] ++ [162] ++ [168] ++ [169] ++ [170] ++ [171] ++ [176] ++ [177] ++ [178] ++ [163] ++ [164] ++ [165] ++ [166] ++ [167], pm_set (pm_set (pm_set (pm_set (pm_set (pm_set (pm_set (pm_set (pm_set (pm_set (pm_set (pm_set (pm_set (pm_set (pm_set (pm_set (pm_set (pm_set (pm_set (pm_set (pm_set (pm_set (pm_set (pm_set (pm_dB (pm_fb 1 D)) 151) 152) 153) 154) 155) 156) 157) 158) 159) 160) 161) 162) 168) 169) 170) 171) 176) 177) 178) 163) 164) 165) 166) 167, pm_up (pm_up (pm_up (pm_up (pm_up (pm_up (pm_up (pm_up (pm_up (pm_up (pm_up (pm_up (pm_up (pm_up (pm_up (pm_up (pm_up (pm_up (pm_up (pm_up (pm_up (pm_up (pm_dM (pm_fb 1 D)) 151 0 152) 151 4 153) 151 5 154) 151 6 155) 151 7 156) 151 8 157) 158 5 159) 158 6 160) 158 7 161) 158 8 162) 154 0 158) 168 1 169) 168 2 170) 168 3 171) 155 0 168) 176 1 177) 176 2 178) 157 0 176) 163 5 164) 163 6 165) 163 7 166) 163 8 167, pm_up (pm_up (pm_up (pm_up (pm_up (pm_up (pm_up (pm_up (pm_up (pm_up (I) 151 1 0) 151 2 0) 151 3 (-1)) 158 0 20) 158 1 1) 158 2 5) 158 3 6) 158 4 0) 168 0 0) 176 0 0, L)
abbrev ni1_m11 (al : List Nat) (D : Nat → Bool) (I : Nat → Nat → Int32) (L : Nat → Nat → Int64) : pm_M := (al ++ [151] ++ [152] ++ [153] ++ [154] ++ [155] ++ [156] ++ [157] ++ [158] ++ [159] ++ [160] ++ [161] ++ [162] ++ [168] ++ [169] ++ [170] ++ [171] ++ [176] ++ [177] ++ [178] ++ [163] ++ [164] ++ [165] ++ [166] ++ [167], pm_set (pm_set (pm_set (pm_set (pm_set (pm_set (pm_set (pm_set (pm_set (pm_set (pm_set (pm_set (pm_set (pm_set (pm_set (pm_set (pm_set (pm_set (pm_set (pm_set (pm_set (pm_set (pm_set (pm_set (pm_dB (pm_fb 1 D)) 151) 152) 153) 154) 155) 156) 157) 158) 159) 160) 161) 162) 168) 169) 170) 171) 176) 177) 178) 163) 164) 165) 166) 167, pm_up (pm_up (pm_up (pm_up (pm_up (pm_up (pm_up (pm_up (pm_up (pm_up (pm_up (pm_up (pm_up (pm_up (pm_up (pm_up (pm_up (pm_up (pm_up (pm_up (pm_up (pm_up (pm_dM (pm_fb 1 D)) 151 0 152) 151 4 153) 151 5 154) 151 6 155) 151 7 156) 151 8 157) 158 5 159) 158 6 160) 158 7 161) 158 8 162) 154 0 158) 168 1 169) 168 2 170) 168 3 171) 155 0 168) 176 1 177) 176 2 178) 157 0 176) 163 5 164) 163 6 165) 163 7 166) 163 8 167, pm_up (pm_up (pm_up (pm_up (pm_up (pm_up (pm_up (pm_up (pm_up (pm_up (pm_up (pm_up (pm_up (pm_up (pm_up (I) 151 1 0) 151 2 0) 151 3 (-1)) 158 0 20) 158 1 1) 158 2 5) 158 3 6) 158 4 0) 168 0 0) 176 0 0) 163 0 20) 163 1 1) 163 2 5) 163 3 6) 163 4 0, L)
set_option maxRecDepth 20000 in
theorem ni1_c8_s0 {X : Nat × (Nat → Int32)} {d : Nat} (al : List Nat) (D : Nat → Bool) (I : Nat → Nat → Int32) (L : Nat → Nat → Int64) : Rn X d co_Ba_clear (0, [some (vr 163)], [], (ni1_m10 al D I L)) = some (none, (ni1_m11 al D I L)) := (Sg_eq X d co_Ba_clear (fun _ => false) 16 _).trans rfl
theorem ni1_c8 {X : Nat × (Nat → Int32)} {d : Nat} (al : List Nat) (D : Nat → Bool) (I : Nat → Nat → Int32) (L : Nat → Nat → Int64) : Cl X (d + 1) 7 [vr 163] (ni1_m10 al D I L) = some (none, (ni1_m11 al D I L)) := by
  rw [Cl_s]
  show Rn X (d) co_Ba_clear (0, [some (vr 163)], [], (ni1_m10 al D I L)) = _
  rw [ni1_c8_s0]
set_option maxRecDepth 20000 in
theorem ni1_c7_s0 {X : Nat × (Nat → Int32)} {d : Nat} (al : List Nat) (D : Nat → Bool) (I : Nat → Nat → Int32) (L : Nat → Nat → Int64) : Rn X d co_Ba_init (0, [some (vr 163)], [], (ni1_m9 al D I L)) = ((Cl X d 7 [vr 163] (ni1_m10 al D I L)).bind pm_av).bind (fun r => Rn X d co_Ba_init (40, [some (vr 163)], [], r)) := (Sg_eq X d co_Ba_init (fun p => Nat.beq p 40) 20 _).trans rfl
set_option maxRecDepth 20000 in
theorem ni1_c7_s1 {X : Nat × (Nat → Int32)} {d : Nat} (al : List Nat) (D : Nat → Bool) (I : Nat → Nat → Int32) (L : Nat → Nat → Int64) : Rn X d co_Ba_init (40, [some (vr 163)], [], (ni1_m11 al D I L)) = some (none, (ni1_m11 al D I L)) := (Sg_eq X d co_Ba_init (fun _ => false) 1 _).trans rfl
theorem ni1_c7 {X : Nat × (Nat → Int32)} {d : Nat} (al : List Nat) (D : Nat → Bool) (I : Nat → Nat → Int32) (L : Nat → Nat → Int64) : Cl X (d + 2) 6 [vr 163] (ni1_m9 al D I L) = some (none, (ni1_m11 al D I L)) := by
  rw [Cl_s]
  show Rn X (d + 1) co_Ba_init (0, [some (vr 163)], [], (ni1_m9 al D I L)) = _
  rw [ni1_c7_s0, ni1_c8 (X := X) (d := d)]
  simp only [Option.bind_some, pm_av]
  rw [ni1_c7_s1]
abbrev ni1_m12 (al : List Nat) (D : Nat → Bool) (I : Nat → Nat → Int32) (L : Nat → Nat → Int64) : pm_M := (al ++ [151] ++ [152] ++ [153] ++ [154] ++ [155] ++ [156] ++ [157] ++ [158] ++ [159] ++ [160] ++ [161] ++ [162] ++ [168] ++ [169] ++ [170] ++ [171] ++ [176] ++ [177] ++ [178] ++ [163] ++ [164] ++ [165] ++ [166] ++ [167] ++ [172], pm_set (pm_set (pm_set (pm_set (pm_set (pm_set (pm_set (pm_set (pm_set (pm_set (pm_set (pm_set (pm_set (pm_set (pm_set (pm_set (pm_set (pm_set (pm_set (pm_set (pm_set (pm_set (pm_set (pm_set (pm_set (pm_dB (pm_fb 1 D)) 151) 152) 153) 154) 155) 156) 157) 158) 159) 160) 161) 162) 168) 169) 170) 171) 176) 177) 178) 163) 164) 165) 166) 167) 172, pm_up (pm_up (pm_up (pm_up (pm_up (pm_up (pm_up (pm_up (pm_up (pm_up (pm_up (pm_up (pm_up (pm_up (pm_up (pm_up (pm_up (pm_up (pm_up (pm_up (pm_up (pm_up (pm_up (pm_dM (pm_fb 1 D)) 151 0 152) 151 4 153) 151 5 154) 151 6 155) 151 7 156) 151 8 157) 158 5 159) 158 6 160) 158 7 161) 158 8 162) 154 0 158) 168 1 169) 168 2 170) 168 3 171) 155 0 168) 176 1 177) 176 2 178) 157 0 176) 163 5 164) 163 6 165) 163 7 166) 163 8 167) 154 1 163, pm_up (pm_up (pm_up (pm_up (pm_up (pm_up (pm_up (pm_up (pm_up (pm_up (pm_up (pm_up (pm_up (pm_up (pm_up (I) 151 1 0) 151 2 0) 151 3 (-1)) 158 0 20) 158 1 1) 158 2 5) 158 3 6) 158 4 0) 168 0 0) 176 0 0) 163 0 20) 163 1 1) 163 2 5) 163 3 6) 163 4 0, L)
abbrev ni1_m13 (al : List Nat) (D : Nat → Bool) (I : Nat → Nat → Int32) (L : Nat → Nat → Int64) : pm_M := (al ++ [151] ++ [152] ++ [153] ++ [154] ++ [155] ++ [156] ++ [157] ++ [158] ++ [159] ++ [160] ++ [161] ++ [162] ++ [168] ++ [169] ++ [170] ++ [171] ++ [176] ++ [177] ++ [178] ++ [163] ++ [164] ++ [165] ++ [166] ++ [167] ++ [172] ++ [173] ++ [174] ++ [175], pm_set (pm_set (pm_set (pm_set (pm_set (pm_set (pm_set (pm_set (pm_set (pm_set (pm_set (pm_set (pm_set (pm_set (pm_set (pm_set (pm_set (pm_set (pm_set (pm_set (pm_set (pm_set (pm_set (pm_set (pm_set (pm_set (pm_set (pm_set (pm_dB (pm_fb 1 D)) 151) 152) 153) 154) 155) 156) 157) 158) 159) 160) 161) 162) 168) 169) 170) 171) 176) 177) 178) 163) 164) 165) 166) 167) 172) 173) 174) 175, pm_up (pm_up (pm_up (pm_up (pm_up (pm_up (pm_up (pm_up (pm_up (pm_up (pm_up (pm_up (pm_up (pm_up (pm_up (pm_up (pm_up (pm_up (pm_up (pm_up (pm_up (pm_up (pm_up (pm_up (pm_up (pm_up (pm_dM (pm_fb 1 D)) 151 0 152) 151 4 153) 151 5 154) 151 6 155) 151 7 156) 151 8 157) 158 5 159) 158 6 160) 158 7 161) 158 8 162) 154 0 158) 168 1 169) 168 2 170) 168 3 171) 155 0 168) 176 1 177) 176 2 178) 157 0 176) 163 5 164) 163 6 165) 163 7 166) 163 8 167) 154 1 163) 172 1 173) 172 2 174) 172 3 175, pm_up (pm_up (pm_up (pm_up (pm_up (pm_up (pm_up (pm_up (pm_up (pm_up (pm_up (pm_up (pm_up (pm_up (pm_up (pm_up (I) 151 1 0) 151 2 0) 151 3 (-1)) 158 0 20) 158 1 1) 158 2 5) 158 3 6) 158 4 0) 168 0 0) 176 0 0) 163 0 20) 163 1 1) 163 2 5) 163 3 6) 163 4 0) 172 0 0, L)
set_option maxRecDepth 20000 in
theorem ni1_c9_s0 {X : Nat × (Nat → Int32)} {d : Nat} (al : List Nat) (D : Nat → Bool) (I : Nat → Nat → Int32) (L : Nat → Nat → Int64) : Rn X d co_Sc_init (0, [some (vr 172)], [], (ni1_m12 al D I L)) = some (none, (ni1_m13 al D I L)) := (Sg_eq X d co_Sc_init (fun _ => false) 18 _).trans rfl
theorem ni1_c9 {X : Nat × (Nat → Int32)} {d : Nat} (al : List Nat) (D : Nat → Bool) (I : Nat → Nat → Int32) (L : Nat → Nat → Int64) : Cl X (d + 1) 76 [vr 172] (ni1_m12 al D I L) = some (none, (ni1_m13 al D I L)) := by
  rw [Cl_s]
  show Rn X (d) co_Sc_init (0, [some (vr 172)], [], (ni1_m12 al D I L)) = _
  rw [ni1_c9_s0]
abbrev ni1_m14 (al : List Nat) (D : Nat → Bool) (I : Nat → Nat → Int32) (L : Nat → Nat → Int64) : pm_M := (al ++ [151] ++ [152] ++ [153] ++ [154] ++ [155] ++ [156] ++ [157] ++ [158] ++ [159] ++ [160] ++ [161] ++ [162] ++ [168] ++ [169] ++ [170] ++ [171] ++ [176] ++ [177] ++ [178] ++ [163] ++ [164] ++ [165] ++ [166] ++ [167] ++ [172] ++ [173] ++ [174] ++ [175] ++ [179], pm_set (pm_set (pm_set (pm_set (pm_set (pm_set (pm_set (pm_set (pm_set (pm_set (pm_set (pm_set (pm_set (pm_set (pm_set (pm_set (pm_set (pm_set (pm_set (pm_set (pm_set (pm_set (pm_set (pm_set (pm_set (pm_set (pm_set (pm_set (pm_set (pm_dB (pm_fb 1 D)) 151) 152) 153) 154) 155) 156) 157) 158) 159) 160) 161) 162) 168) 169) 170) 171) 176) 177) 178) 163) 164) 165) 166) 167) 172) 173) 174) 175) 179, pm_up (pm_up (pm_up (pm_up (pm_up (pm_up (pm_up (pm_up (pm_up (pm_up (pm_up (pm_up (pm_up (pm_up (pm_up (pm_up (pm_up (pm_up (pm_up (pm_up (pm_up (pm_up (pm_up (pm_up (pm_up (pm_up (pm_up (pm_dM (pm_fb 1 D)) 151 0 152) 151 4 153) 151 5 154) 151 6 155) 151 7 156) 151 8 157) 158 5 159) 158 6 160) 158 7 161) 158 8 162) 154 0 158) 168 1 169) 168 2 170) 168 3 171) 155 0 168) 176 1 177) 176 2 178) 157 0 176) 163 5 164) 163 6 165) 163 7 166) 163 8 167) 154 1 163) 172 1 173) 172 2 174) 172 3 175) 155 1 172, pm_up (pm_up (pm_up (pm_up (pm_up (pm_up (pm_up (pm_up (pm_up (pm_up (pm_up (pm_up (pm_up (pm_up (pm_up (pm_up (I) 151 1 0) 151 2 0) 151 3 (-1)) 158 0 20) 158 1 1) 158 2 5) 158 3 6) 158 4 0) 168 0 0) 176 0 0) 163 0 20) 163 1 1) 163 2 5) 163 3 6) 163 4 0) 172 0 0, L)
abbrev ni1_m15 (al : List Nat) (D : Nat → Bool) (I : Nat → Nat → Int32) (L : Nat → Nat → Int64) : pm_M := (al ++ [151] ++ [152] ++ [153] ++ [154] ++ [155] ++ [156] ++ [157] ++ [158] ++ [159] ++ [160] ++ [161] ++ [162] ++ [168] ++ [169] ++ [170] ++ [171] ++ [176] ++ [177] ++ [178] ++ [163] ++ [164] ++ [165] ++ [166] ++ [167] ++ [172] ++ [173] ++ [174] ++ [175] ++ [179] ++ [180] ++ [181], pm_set (pm_set (pm_set (pm_set (pm_set (pm_set (pm_set (pm_set (pm_set (pm_set (pm_set (pm_set (pm_set (pm_set (pm_set (pm_set (pm_set (pm_set (pm_set (pm_set (pm_set (pm_set (pm_set (pm_set (pm_set (pm_set (pm_set (pm_set (pm_set (pm_set (pm_set (pm_dB (pm_fb 1 D)) 151) 152) 153) 154) 155) 156) 157) 158) 159) 160) 161) 162) 168) 169) 170) 171) 176) 177) 178) 163) 164) 165) 166) 167) 172) 173) 174) 175) 179) 180) 181, pm_up (pm_up (pm_up (pm_up (pm_up (pm_up (pm_up (pm_up (pm_up (pm_up (pm_up (pm_up (pm_up (pm_up (pm_up (pm_up (pm_up (pm_up (pm_up (pm_up (pm_up (pm_up (pm_up (pm_up (pm_up (pm_up (pm_up (pm_up (pm_up (pm_dM (pm_fb 1 D)) 151 0 152) 151 4 153) 151 5 154) 151 6 155) 151 7 156) 151 8 157) 158 5 159) 158 6 160) 158 7 161) 158 8 162) 154 0 158) 168 1 169) 168 2 170) 168 3 171) 155 0 168) 176 1 177) 176 2 178) 157 0 176) 163 5 164) 163 6 165) 163 7 166) 163 8 167) 154 1 163) 172 1 173) 172 2 174) 172 3 175) 155 1 172) 179 1 180) 179 2 181, pm_up (pm_up (pm_up (pm_up (pm_up (pm_up (pm_up (pm_up (pm_up (pm_up (pm_up (pm_up (pm_up (pm_up (pm_up (pm_up (pm_up (I) 151 1 0) 151 2 0) 151 3 (-1)) 158 0 20) 158 1 1) 158 2 5) 158 3 6) 158 4 0) 168 0 0) 176 0 0) 163 0 20) 163 1 1) 163 2 5) 163 3 6) 163 4 0) 172 0 0) 179 0 0, L)
set_option maxRecDepth 20000 in
theorem ni1_c10_s0 {X : Nat × (Nat → Int32)} {d : Nat} (al : List Nat) (D : Nat → Bool) (I : Nat → Nat → Int32) (L : Nat → Nat → Int64) : Rn X d co_Lo_init (0, [some (vr 179)], [], (ni1_m14 al D I L)) = some (none, (ni1_m15 al D I L)) := (Sg_eq X d co_Lo_init (fun _ => false) 14 _).trans rfl
theorem ni1_c10 {X : Nat × (Nat → Int32)} {d : Nat} (al : List Nat) (D : Nat → Bool) (I : Nat → Nat → Int32) (L : Nat → Nat → Int64) : Cl X (d + 1) 35 [vr 179] (ni1_m14 al D I L) = some (none, (ni1_m15 al D I L)) := by
  rw [Cl_s]
  show Rn X (d) co_Lo_init (0, [some (vr 179)], [], (ni1_m14 al D I L)) = _
  rw [ni1_c10_s0]
abbrev ni1_m16 (al : List Nat) (D : Nat → Bool) (I : Nat → Nat → Int32) (L : Nat → Nat → Int64) : pm_M := (al ++ [151] ++ [152] ++ [153] ++ [154] ++ [155] ++ [156] ++ [157] ++ [158] ++ [159] ++ [160] ++ [161] ++ [162] ++ [168] ++ [169] ++ [170] ++ [171] ++ [176] ++ [177] ++ [178] ++ [163] ++ [164] ++ [165] ++ [166] ++ [167] ++ [172] ++ [173] ++ [174] ++ [175] ++ [179] ++ [180] ++ [181], pm_set (pm_set (pm_set (pm_set (pm_set (pm_set (pm_set (pm_set (pm_set (pm_set (pm_set (pm_set (pm_set (pm_set (pm_set (pm_set (pm_set (pm_set (pm_set (pm_set (pm_set (pm_set (pm_set (pm_set (pm_set (pm_set (pm_set (pm_set (pm_set (pm_set (pm_set (pm_dB (pm_fb 1 D)) 151) 152) 153) 154) 155) 156) 157) 158) 159) 160) 161) 162) 168) 169) 170) 171) 176) 177) 178) 163) 164) 165) 166) 167) 172) 173) 174) 175) 179) 180) 181, pm_up (pm_up (pm_up (pm_up (pm_up (pm_up (pm_up (pm_up (pm_up (pm_up (pm_up (pm_up (pm_up (pm_up (pm_up (pm_up (pm_up (pm_up (pm_up (pm_up (pm_up (pm_up (pm_up (pm_up (pm_up (pm_up (pm_up (pm_up (pm_up (pm_up (pm_dM (pm_fb 1 D)) 151 0 152) 151 4 153) 151 5 154) 151 6 155) 151 7 156) 151 8 157) 158 5 159) 158 6 160) 158 7 161) 158 8 162) 154 0 158) 168 1 169) 168 2 170) 168 3 171) 155 0 168) 176 1 177) 176 2 178) 157 0 176) 163 5 164) 163 6 165) 163 7 166) 163 8 167) 154 1 163) 172 1 173) 172 2 174) 172 3 175) 155 1 172) 179 1 180) 179 2 181) 157 1 179, pm_up (pm_up (pm_up (pm_up (pm_up (pm_up (pm_up (pm_up (pm_up (pm_up (pm_up (pm_up (pm_up (pm_up (pm_up (pm_up (pm_up (I) 151 1 0) 151 2 0) 151 3 (-1)) 158 0 20) 158 1 1) 158 2 5) 158 3 6) 158 4 0) 168 0 0) 176 0 0) 163 0 20) 163 1 1) 163 2 5) 163 3 6) 163 4 0) 172 0 0) 179 0 0, L)
set_option maxRecDepth 20000 in
theorem ni1_c2_s0 {X : Nat × (Nat → Int32)} {d : Nat} (al : List Nat) (D : Nat → Bool) (I : Nat → Nat → Int32) (L : Nat → Nat → Int64) : Rn X d co_To_init (0, [some (vr 151), none], [], (ni1_m1 al D I L)) = ((Cl X d 6 [vr 158] (ni1_m2 al D I L)).bind pm_av).bind (fun r => Rn X d co_To_init (85, [some (vr 151), some (vi 0)], [vr 158, vi 0, vr 154], r)) := (Sg_eq X d co_To_init (fun p => Nat.beq p 85) 46 _).trans rfl
set_option maxRecDepth 20000 in
theorem ni1_c2_s1 {X : Nat × (Nat → Int32)} {d : Nat} (al : List Nat) (D : Nat → Bool) (I : Nat → Nat → Int32) (L : Nat → Nat → Int64) : Rn X d co_To_init (85, [some (vr 151), some (vi 0)], [vr 158, vi 0, vr 154], (ni1_m4 al D I L)) = ((Cl X d 76 [vr 168] (ni1_m5 al D I L)).bind pm_av).bind (fun r => Rn X d co_To_init (98, [some (vr 151), some (vi 0)], [vr 168, vi 0, vr 155], r)) := (Sg_eq X d co_To_init (fun p => Nat.beq p 98) 7 _).trans rfl
set_option maxRecDepth 20000 in
theorem ni1_c2_s2 {X : Nat × (Nat → Int32)} {d : Nat} (al : List Nat) (D : Nat → Bool) (I : Nat → Nat → Int32) (L : Nat → Nat → Int64) : Rn X d co_To_init (98, [some (vr 151), some (vi 0)], [vr 168, vi 0, vr 155], (ni1_m6 al D I L)) = ((Cl X d 35 [vr 176] (ni1_m7 al D I L)).bind pm_av).bind (fun r => Rn X d co_To_init (111, [some (vr 151), some (vi 0)], [vr 176, vi 0, vr 157], r)) := (Sg_eq X d co_To_init (fun p => Nat.beq p 111) 7 _).trans rfl
set_option maxRecDepth 20000 in
theorem ni1_c2_s3 {X : Nat × (Nat → Int32)} {d : Nat} (al : List Nat) (D : Nat → Bool) (I : Nat → Nat → Int32) (L : Nat → Nat → Int64) : Rn X d co_To_init (111, [some (vr 151), some (vi 0)], [vr 176, vi 0, vr 157], (ni1_m8 al D I L)) = ((Cl X d 6 [vr 163] (ni1_m9 al D I L)).bind pm_av).bind (fun r => Rn X d co_To_init (85, [some (vr 151), some (vi 1)], [vr 163, vi 1, vr 154], r)) := (Sg_eq X d co_To_init (fun p => Nat.beq p 85) 12 _).trans rfl
set_option maxRecDepth 20000 in
theorem ni1_c2_s4 {X : Nat × (Nat → Int32)} {d : Nat} (al : List Nat) (D : Nat → Bool) (I : Nat → Nat → Int32) (L : Nat → Nat → Int64) : Rn X d co_To_init (85, [some (vr 151), some (vi 1)], [vr 163, vi 1, vr 154], (ni1_m11 al D I L)) = ((Cl X d 76 [vr 172] (ni1_m12 al D I L)).bind pm_av).bind (fun r => Rn X d co_To_init (98, [some (vr 151), some (vi 1)], [vr 172, vi 1, vr 155], r)) := (Sg_eq X d co_To_init (fun p => Nat.beq p 98) 7 _).trans rfl
set_option maxRecDepth 20000 in
theorem ni1_c2_s5 {X : Nat × (Nat → Int32)} {d : Nat} (al : List Nat) (D : Nat → Bool) (I : Nat → Nat → Int32) (L : Nat → Nat → Int64) : Rn X d co_To_init (98, [some (vr 151), some (vi 1)], [vr 172, vi 1, vr 155], (ni1_m13 al D I L)) = ((Cl X d 35 [vr 179] (ni1_m14 al D I L)).bind pm_av).bind (fun r => Rn X d co_To_init (111, [some (vr 151), some (vi 1)], [vr 179, vi 1, vr 157], r)) := (Sg_eq X d co_To_init (fun p => Nat.beq p 111) 7 _).trans rfl
set_option maxRecDepth 20000 in
theorem ni1_c2_s6 {X : Nat × (Nat → Int32)} {d : Nat} (al : List Nat) (D : Nat → Bool) (I : Nat → Nat → Int32) (L : Nat → Nat → Int64) : Rn X d co_To_init (111, [some (vr 151), some (vi 1)], [vr 179, vi 1, vr 157], (ni1_m15 al D I L)) = some (none, (ni1_m16 al D I L)) := (Sg_eq X d co_To_init (fun _ => false) 7 _).trans rfl
theorem ni1_c2 {X : Nat × (Nat → Int32)} {d : Nat} (al : List Nat) (D : Nat → Bool) (I : Nat → Nat → Int32) (L : Nat → Nat → Int64) : Cl X (d + 3) 92 [vr 151] (ni1_m1 al D I L) = some (none, (ni1_m16 al D I L)) := by
  rw [Cl_s]
  show Rn X (d + 2) co_To_init (0, [some (vr 151), none], [], (ni1_m1 al D I L)) = _
  rw [ni1_c2_s0, ni1_c3 (X := X) (d := d)]
  simp only [Option.bind_some, pm_av]
  rw [ni1_c2_s1, ni1_c5 (X := X) (d := d + 1)]
  simp only [Option.bind_some, pm_av]
  rw [ni1_c2_s2, ni1_c6 (X := X) (d := d + 1)]
  simp only [Option.bind_some, pm_av]
  rw [ni1_c2_s3, ni1_c7 (X := X) (d := d)]
  simp only [Option.bind_some, pm_av]
  rw [ni1_c2_s4, ni1_c9 (X := X) (d := d + 1)]
  simp only [Option.bind_some, pm_av]
  rw [ni1_c2_s5, ni1_c10 (X := X) (d := d + 1)]
  simp only [Option.bind_some, pm_av]
  rw [ni1_c2_s6]
abbrev ni1_m17 (al : List Nat) (D : Nat → Bool) (I : Nat → Nat → Int32) (L : Nat → Nat → Int64) : pm_M := (al ++ [151] ++ [152] ++ [153] ++ [154] ++ [155] ++ [156] ++ [157] ++ [158] ++ [159] ++ [160] ++ [161] ++ [162] ++ [168] ++ [169] ++ [170] ++ [171] ++ [176] ++ [177] ++ [178] ++ [163] ++ [164] ++ [165] ++ [166] ++ [167] ++ [172] ++ [173] ++ [174] ++ [175] ++ [179] ++ [180] ++ [181], pm_set (pm_set (pm_set (pm_set (pm_set (pm_set (pm_set (pm_set (pm_set (pm_set (pm_set (pm_set (pm_set (pm_set (pm_set (pm_set (pm_set (pm_set (pm_set (pm_set (pm_set (pm_set (pm_set (pm_set (pm_set (pm_set (pm_set (pm_set (pm_set (pm_set (pm_set (pm_dB (pm_fb 1 D)) 151) 152) 153) 154) 155) 156) 157) 158) 159) 160) 161) 162) 168) 169) 170) 171) 176) 177) 178) 163) 164) 165) 166) 167) 172) 173) 174) 175) 179) 180) 181, pm_up (pm_up (pm_up (pm_up (pm_up (pm_up (pm_up (pm_up (pm_up (pm_up (pm_up (pm_up (pm_up (pm_up (pm_up (pm_up (pm_up (pm_up (pm_up (pm_up (pm_up (pm_up (pm_up (pm_up (pm_up (pm_up (pm_up (pm_up (pm_up (pm_up (pm_up (pm_dM (pm_fb 1 D)) 151 0 152) 151 4 153) 151 5 154) 151 6 155) 151 7 156) 151 8 157) 158 5 159) 158 6 160) 158 7 161) 158 8 162) 154 0 158) 168 1 169) 168 2 170) 168 3 171) 155 0 168) 176 1 177) 176 2 178) 157 0 176) 163 5 164) 163 6 165) 163 7 166) 163 8 167) 154 1 163) 172 1 173) 172 2 174) 172 3 175) 155 1 172) 179 1 180) 179 2 181) 157 1 179) 33 1 151, pm_up (pm_up (pm_up (pm_up (pm_up (pm_up (pm_up (pm_up (pm_up (pm_up (pm_up (pm_up (pm_up (pm_up (pm_up (pm_up (pm_up (I) 151 1 0) 151 2 0) 151 3 (-1)) 158 0 20) 158 1 1) 158 2 5) 158 3 6) 158 4 0) 168 0 0) 176 0 0) 163 0 20) 163 1 1) 163 2 5) 163 3 6) 163 4 0) 172 0 0) 179 0 0, L)
set_option maxRecDepth 20000 in
theorem ni1_s0 {X : Nat × (Nat → Int32)} {d : Nat} (al : List Nat) (D : Nat → Bool) (I : Nat → Nat → Int32) (L : Nat → Nat → Int64) : Rn X d co_Ch_image (0, [some (vr 1), some (vi 1)], [], (ni1_m0 al D I L)) = ((Cl X d 92 [vr 151] (ni1_m1 al D I L)).bind pm_av).bind (fun r => Rn X d co_Ch_image (32, [some (vr 1), some (vi 1)], [vr 151, vi 1, vr 33], r)) := (Sg_eq X d co_Ch_image (fun p => Nat.beq p 32) 16 _).trans rfl
set_option maxRecDepth 20000 in
theorem ni1_s1 {X : Nat × (Nat → Int32)} {d : Nat} (al : List Nat) (D : Nat → Bool) (I : Nat → Nat → Int32) (L : Nat → Nat → Int64) : Rn X d co_Ch_image (32, [some (vr 1), some (vi 1)], [vr 151, vi 1, vr 33], (ni1_m16 al D I L)) = Rn X d co_Ch_image (33, [some (vr 1), some (vi 1)], [], (ni1_m17 al D I L)) := (Sg_eq X d co_Ch_image (fun p => Nat.beq p 33) 1 _).trans rfl
theorem ni1 {X : Nat × (Nat → Int32)} {d : Nat} (al : List Nat) (D : Nat → Bool) (I : Nat → Nat → Int32) (L : Nat → Nat → Int64) : Rn X (d + 3) co_Ch_image (0, [some (vr 1), some (vi 1)], [], (ni1_m0 al D I L)) = Rn X (d + 3) co_Ch_image (33, [some (vr 1), some (vi 1)], [], (ni1_m17 al D I L)) := by
  rw [ni1_s0, ni1_c2 (X := X) (d := d)]
  simp only [Option.bind_some, pm_av]
  rw [ni1_s1]
theorem niA_1 (D : Nat → Bool) : pm_set (pm_set (pm_set (pm_set (pm_set (pm_set (pm_set (pm_set (pm_set (pm_set (pm_set (pm_set (pm_set (pm_set (pm_set (pm_set (pm_set (pm_set (pm_set (pm_set (pm_set (pm_set (pm_set (pm_set (pm_set (pm_set (pm_set (pm_set (pm_set (pm_set (pm_set (pm_dB (pm_fb 1 D)) 151) 152) 153) 154) 155) 156) 157) 158) 159) 160) 161) 162) 168) 169) 170) 171) 176) 177) 178) 163) 164) 165) 166) 167) 172) 173) 174) 175) 179) 180) 181 = pm_dB (pm_tb 1 D) := by
  funext a
  by_cases h0 : a = 181
  · subst h0; rfl
  by_cases h1 : a = 180
  · subst h1; rfl
  by_cases h2 : a = 179
  · subst h2; rfl
  by_cases h3 : a = 175
  · subst h3; rfl
  by_cases h4 : a = 174
  · subst h4; rfl
  by_cases h5 : a = 173
  · subst h5; rfl
  by_cases h6 : a = 172
  · subst h6; rfl
  by_cases h7 : a = 167
  · subst h7; rfl
  by_cases h8 : a = 166
  · subst h8; rfl
  by_cases h9 : a = 165
  · subst h9; rfl
  by_cases h10 : a = 164
  · subst h10; rfl
  by_cases h11 : a = 163
  · subst h11; rfl
  by_cases h12 : a = 178
  · subst h12; rfl
  by_cases h13 : a = 177
  · subst h13; rfl
  by_cases h14 : a = 176
  · subst h14; rfl
  by_cases h15 : a = 171
  · subst h15; rfl
  by_cases h16 : a = 170
  · subst h16; rfl
  by_cases h17 : a = 169
  · subst h17; rfl
  by_cases h18 : a = 168
  · subst h18; rfl
  by_cases h19 : a = 162
  · subst h19; rfl
  by_cases h20 : a = 161
  · subst h20; rfl
  by_cases h21 : a = 160
  · subst h21; rfl
  by_cases h22 : a = 159
  · subst h22; rfl
  by_cases h23 : a = 158
  · subst h23; rfl
  by_cases h24 : a = 157
  · subst h24; rfl
  by_cases h25 : a = 156
  · subst h25; rfl
  by_cases h26 : a = 155
  · subst h26; rfl
  by_cases h27 : a = 154
  · subst h27; rfl
  by_cases h28 : a = 153
  · subst h28; rfl
  by_cases h29 : a = 152
  · subst h29; rfl
  by_cases h30 : a = 151
  · subst h30; rfl
  rw [set_ne h0, set_ne h1, set_ne h2, set_ne h3, set_ne h4, set_ne h5, set_ne h6, set_ne h7, set_ne h8, set_ne h9, set_ne h10, set_ne h11, set_ne h12, set_ne h13, set_ne h14, set_ne h15, set_ne h16, set_ne h17, set_ne h18, set_ne h19, set_ne h20, set_ne h21, set_ne h22, set_ne h23, set_ne h24, set_ne h25, set_ne h26, set_ne h27, set_ne h28, set_ne h29, set_ne h30]
  unfold pm_dB
  repeat' (first | with_reducible rfl | (exfalso; omega) | refine cnb (fun _ => ?_) (fun _ => ?_) | rfl)
theorem niN_1 (D : Nat → Bool) : pm_up (pm_up (pm_up (pm_up (pm_up (pm_up (pm_up (pm_up (pm_up (pm_up (pm_up (pm_up (pm_up (pm_up (pm_up (pm_up (pm_up (pm_up (pm_up (pm_up (pm_up (pm_up (pm_up (pm_up (pm_up (pm_up (pm_up (pm_up (pm_up (pm_up (pm_up (pm_dM (pm_fb 1 D)) 151 0 152) 151 4 153) 151 5 154) 151 6 155) 151 7 156) 151 8 157) 158 5 159) 158 6 160) 158 7 161) 158 8 162) 154 0 158) 168 1 169) 168 2 170) 168 3 171) 155 0 168) 176 1 177) 176 2 178) 157 0 176) 163 5 164) 163 6 165) 163 7 166) 163 8 167) 154 1 163) 172 1 173) 172 2 174) 172 3 175) 155 1 172) 179 1 180) 179 2 181) 157 1 179) 33 1 151 = pm_dM (pm_tb 1 D) := by
  funext a j
  by_cases c0 : a = 151
  · subst c0
    by_cases j0 : j = 0
    · subst j0; rfl
    by_cases j1 : j = 4
    · subst j1; rfl
    by_cases j2 : j = 5
    · subst j2; rfl
    by_cases j3 : j = 6
    · subst j3; rfl
    by_cases j4 : j = 7
    · subst j4; rfl
    by_cases j5 : j = 8
    · subst j5; rfl
    rw [up_ne (by omega), up_ne (by omega), up_ne (by omega), up_ne (by omega), up_ne (by omega), up_ne (by omega), up_ne (by omega), up_ne (by omega), up_ne (by omega), up_ne (by omega), up_ne (by omega), up_ne (by omega), up_ne (by omega), up_ne (by omega), up_ne (by omega), up_ne (by omega), up_ne (by omega), up_ne (by omega), up_ne (by omega), up_ne (by omega), up_ne (by omega), up_ne (by omega), up_ne (by omega), up_ne (by omega), up_ne (by omega), up_ne (by omega), up_ne (by omega), up_ne (by omega), up_ne (by omega), up_ne (by omega), up_ne (by omega)]
    show 0 = pm_dN (pm_tb 1 D) 151 j
    refine Eq.symm ?_
    unfold pm_dN
    repeat' (first | rfl | (exfalso; omega) | refine cz0b (fun _ => ?_) (fun _ => ?_) | refine cz0e (fun _ => ?_) (fun _ => ?_))
  by_cases c1 : a = 152
  · subst c1
    rw [up_ne (by omega), up_ne (by omega), up_ne (by omega), up_ne (by omega), up_ne (by omega), up_ne (by omega), up_ne (by omega), up_ne (by omega), up_ne (by omega), up_ne (by omega), up_ne (by omega), up_ne (by omega), up_ne (by omega), up_ne (by omega), up_ne (by omega), up_ne (by omega), up_ne (by omega), up_ne (by omega), up_ne (by omega), up_ne (by omega), up_ne (by omega), up_ne (by omega), up_ne (by omega), up_ne (by omega), up_ne (by omega), up_ne (by omega), up_ne (by omega), up_ne (by omega), up_ne (by omega), up_ne (by omega), up_ne (by omega)]
    show 0 = pm_dN (pm_tb 1 D) 152 j
    refine Eq.symm ?_
    unfold pm_dN
    repeat' (first | rfl | (exfalso; omega) | refine cz0b (fun _ => ?_) (fun _ => ?_) | refine cz0e (fun _ => ?_) (fun _ => ?_))
  by_cases c2 : a = 153
  · subst c2
    rw [up_ne (by omega), up_ne (by omega), up_ne (by omega), up_ne (by omega), up_ne (by omega), up_ne (by omega), up_ne (by omega), up_ne (by omega), up_ne (by omega), up_ne (by omega), up_ne (by omega), up_ne (by omega), up_ne (by omega), up_ne (by omega), up_ne (by omega), up_ne (by omega), up_ne (by omega), up_ne (by omega), up_ne (by omega), up_ne (by omega), up_ne (by omega), up_ne (by omega), up_ne (by omega), up_ne (by omega), up_ne (by omega), up_ne (by omega), up_ne (by omega), up_ne (by omega), up_ne (by omega), up_ne (by omega), up_ne (by omega)]
    show 0 = pm_dN (pm_tb 1 D) 153 j
    refine Eq.symm ?_
    unfold pm_dN
    repeat' (first | rfl | (exfalso; omega) | refine cz0b (fun _ => ?_) (fun _ => ?_) | refine cz0e (fun _ => ?_) (fun _ => ?_))
  by_cases c3 : a = 154
  · subst c3
    by_cases j0 : j = 0
    · subst j0; rfl
    by_cases j1 : j = 1
    · subst j1; rfl
    rw [up_ne (by omega), up_ne (by omega), up_ne (by omega), up_ne (by omega), up_ne (by omega), up_ne (by omega), up_ne (by omega), up_ne (by omega), up_ne (by omega), up_ne (by omega), up_ne (by omega), up_ne (by omega), up_ne (by omega), up_ne (by omega), up_ne (by omega), up_ne (by omega), up_ne (by omega), up_ne (by omega), up_ne (by omega), up_ne (by omega), up_ne (by omega), up_ne (by omega), up_ne (by omega), up_ne (by omega), up_ne (by omega), up_ne (by omega), up_ne (by omega), up_ne (by omega), up_ne (by omega), up_ne (by omega), up_ne (by omega)]
    show 0 = pm_dN (pm_tb 1 D) 154 j
    refine Eq.symm ?_
    unfold pm_dN
    repeat' (first | rfl | (exfalso; omega) | refine cz0b (fun _ => ?_) (fun _ => ?_) | refine cz0e (fun _ => ?_) (fun _ => ?_))
  by_cases c4 : a = 155
  · subst c4
    by_cases j0 : j = 0
    · subst j0; rfl
    by_cases j1 : j = 1
    · subst j1; rfl
    rw [up_ne (by omega), up_ne (by omega), up_ne (by omega), up_ne (by omega), up_ne (by omega), up_ne (by omega), up_ne (by omega), up_ne (by omega), up_ne (by omega), up_ne (by omega), up_ne (by omega), up_ne (by omega), up_ne (by omega), up_ne (by omega), up_ne (by omega), up_ne (by omega), up_ne (by omega), up_ne (by omega), up_ne (by omega), up_ne (by omega), up_ne (by omega), up_ne (by omega), up_ne (by omega), up_ne (by omega), up_ne (by omega), up_ne (by omega), up_ne (by omega), up_ne (by omega), up_ne (by omega), up_ne (by omega), up_ne (by omega)]
    show 0 = pm_dN (pm_tb 1 D) 155 j
    refine Eq.symm ?_
    unfold pm_dN
    repeat' (first | rfl | (exfalso; omega) | refine cz0b (fun _ => ?_) (fun _ => ?_) | refine cz0e (fun _ => ?_) (fun _ => ?_))
  by_cases c5 : a = 156
  · subst c5
    rw [up_ne (by omega), up_ne (by omega), up_ne (by omega), up_ne (by omega), up_ne (by omega), up_ne (by omega), up_ne (by omega), up_ne (by omega), up_ne (by omega), up_ne (by omega), up_ne (by omega), up_ne (by omega), up_ne (by omega), up_ne (by omega), up_ne (by omega), up_ne (by omega), up_ne (by omega), up_ne (by omega), up_ne (by omega), up_ne (by omega), up_ne (by omega), up_ne (by omega), up_ne (by omega), up_ne (by omega), up_ne (by omega), up_ne (by omega), up_ne (by omega), up_ne (by omega), up_ne (by omega), up_ne (by omega), up_ne (by omega)]
    show 0 = pm_dN (pm_tb 1 D) 156 j
    refine Eq.symm ?_
    unfold pm_dN
    repeat' (first | rfl | (exfalso; omega) | refine cz0b (fun _ => ?_) (fun _ => ?_) | refine cz0e (fun _ => ?_) (fun _ => ?_))
  by_cases c6 : a = 157
  · subst c6
    by_cases j0 : j = 0
    · subst j0; rfl
    by_cases j1 : j = 1
    · subst j1; rfl
    rw [up_ne (by omega), up_ne (by omega), up_ne (by omega), up_ne (by omega), up_ne (by omega), up_ne (by omega), up_ne (by omega), up_ne (by omega), up_ne (by omega), up_ne (by omega), up_ne (by omega), up_ne (by omega), up_ne (by omega), up_ne (by omega), up_ne (by omega), up_ne (by omega), up_ne (by omega), up_ne (by omega), up_ne (by omega), up_ne (by omega), up_ne (by omega), up_ne (by omega), up_ne (by omega), up_ne (by omega), up_ne (by omega), up_ne (by omega), up_ne (by omega), up_ne (by omega), up_ne (by omega), up_ne (by omega), up_ne (by omega)]
    show 0 = pm_dN (pm_tb 1 D) 157 j
    refine Eq.symm ?_
    unfold pm_dN
    repeat' (first | rfl | (exfalso; omega) | refine cz0b (fun _ => ?_) (fun _ => ?_) | refine cz0e (fun _ => ?_) (fun _ => ?_))
  by_cases c7 : a = 158
  · subst c7
    by_cases j0 : j = 5
    · subst j0; rfl
    by_cases j1 : j = 6
    · subst j1; rfl
    by_cases j2 : j = 7
    · subst j2; rfl
    by_cases j3 : j = 8
    · subst j3; rfl
    rw [up_ne (by omega), up_ne (by omega), up_ne (by omega), up_ne (by omega), up_ne (by omega), up_ne (by omega), up_ne (by omega), up_ne (by omega), up_ne (by omega), up_ne (by omega), up_ne (by omega), up_ne (by omega), up_ne (by omega), up_ne (by omega), up_ne (by omega), up_ne (by omega), up_ne (by omega), up_ne (by omega), up_ne (by omega), up_ne (by omega), up_ne (by omega), up_ne (by omega), up_ne (by omega), up_ne (by omega), up_ne (by omega), up_ne (by omega), up_ne (by omega), up_ne (by omega), up_ne (by omega), up_ne (by omega), up_ne (by omega)]
    show 0 = pm_dN (pm_tb 1 D) 158 j
    refine Eq.symm ?_
    unfold pm_dN
    repeat' (first | rfl | (exfalso; omega) | refine cz0b (fun _ => ?_) (fun _ => ?_) | refine cz0e (fun _ => ?_) (fun _ => ?_))
  by_cases c8 : a = 159
  · subst c8
    rw [up_ne (by omega), up_ne (by omega), up_ne (by omega), up_ne (by omega), up_ne (by omega), up_ne (by omega), up_ne (by omega), up_ne (by omega), up_ne (by omega), up_ne (by omega), up_ne (by omega), up_ne (by omega), up_ne (by omega), up_ne (by omega), up_ne (by omega), up_ne (by omega), up_ne (by omega), up_ne (by omega), up_ne (by omega), up_ne (by omega), up_ne (by omega), up_ne (by omega), up_ne (by omega), up_ne (by omega), up_ne (by omega), up_ne (by omega), up_ne (by omega), up_ne (by omega), up_ne (by omega), up_ne (by omega), up_ne (by omega)]
    show 0 = pm_dN (pm_tb 1 D) 159 j
    refine Eq.symm ?_
    unfold pm_dN
    repeat' (first | rfl | (exfalso; omega) | refine cz0b (fun _ => ?_) (fun _ => ?_) | refine cz0e (fun _ => ?_) (fun _ => ?_))
  by_cases c9 : a = 160
  · subst c9
    rw [up_ne (by omega), up_ne (by omega), up_ne (by omega), up_ne (by omega), up_ne (by omega), up_ne (by omega), up_ne (by omega), up_ne (by omega), up_ne (by omega), up_ne (by omega), up_ne (by omega), up_ne (by omega), up_ne (by omega), up_ne (by omega), up_ne (by omega), up_ne (by omega), up_ne (by omega), up_ne (by omega), up_ne (by omega), up_ne (by omega), up_ne (by omega), up_ne (by omega), up_ne (by omega), up_ne (by omega), up_ne (by omega), up_ne (by omega), up_ne (by omega), up_ne (by omega), up_ne (by omega), up_ne (by omega), up_ne (by omega)]
    show 0 = pm_dN (pm_tb 1 D) 160 j
    refine Eq.symm ?_
    unfold pm_dN
    repeat' (first | rfl | (exfalso; omega) | refine cz0b (fun _ => ?_) (fun _ => ?_) | refine cz0e (fun _ => ?_) (fun _ => ?_))
  by_cases c10 : a = 161
  · subst c10
    rw [up_ne (by omega), up_ne (by omega), up_ne (by omega), up_ne (by omega), up_ne (by omega), up_ne (by omega), up_ne (by omega), up_ne (by omega), up_ne (by omega), up_ne (by omega), up_ne (by omega), up_ne (by omega), up_ne (by omega), up_ne (by omega), up_ne (by omega), up_ne (by omega), up_ne (by omega), up_ne (by omega), up_ne (by omega), up_ne (by omega), up_ne (by omega), up_ne (by omega), up_ne (by omega), up_ne (by omega), up_ne (by omega), up_ne (by omega), up_ne (by omega), up_ne (by omega), up_ne (by omega), up_ne (by omega), up_ne (by omega)]
    show 0 = pm_dN (pm_tb 1 D) 161 j
    refine Eq.symm ?_
    unfold pm_dN
    repeat' (first | rfl | (exfalso; omega) | refine cz0b (fun _ => ?_) (fun _ => ?_) | refine cz0e (fun _ => ?_) (fun _ => ?_))
  by_cases c11 : a = 162
  · subst c11
    rw [up_ne (by omega), up_ne (by omega), up_ne (by omega), up_ne (by omega), up_ne (by omega), up_ne (by omega), up_ne (by omega), up_ne (by omega), up_ne (by omega), up_ne (by omega), up_ne (by omega), up_ne (by omega), up_ne (by omega), up_ne (by omega), up_ne (by omega), up_ne (by omega), up_ne (by omega), up_ne (by omega), up_ne (by omega), up_ne (by omega), up_ne (by omega), up_ne (by omega), up_ne (by omega), up_ne (by omega), up_ne (by omega), up_ne (by omega), up_ne (by omega), up_ne (by omega), up_ne (by omega), up_ne (by omega), up_ne (by omega)]
    show 0 = pm_dN (pm_tb 1 D) 162 j
    refine Eq.symm ?_
    unfold pm_dN
    repeat' (first | rfl | (exfalso; omega) | refine cz0b (fun _ => ?_) (fun _ => ?_) | refine cz0e (fun _ => ?_) (fun _ => ?_))
  by_cases c12 : a = 163
  · subst c12
    by_cases j0 : j = 5
    · subst j0; rfl
    by_cases j1 : j = 6
    · subst j1; rfl
    by_cases j2 : j = 7
    · subst j2; rfl
    by_cases j3 : j = 8
    · subst j3; rfl
    rw [up_ne (by omega), up_ne (by omega), up_ne (by omega), up_ne (by omega), up_ne (by omega), up_ne (by omega), up_ne (by omega), up_ne (by omega), up_ne (by omega), up_ne (by omega), up_ne (by omega), up_ne (by omega), up_ne (by omega), up_ne (by omega), up_ne (by omega), up_ne (by omega), up_ne (by omega), up_ne (by omega), up_ne (by omega), up_ne (by omega), up_ne (by omega), up_ne (by omega), up_ne (by omega), up_ne (by omega), up_ne (by omega), up_ne (by omega), up_ne (by omega), up_ne (by omega), up_ne (by omega), up_ne (by omega), up_ne (by omega)]
    show 0 = pm_dN (pm_tb 1 D) 163 j
    refine Eq.symm ?_
    unfold pm_dN
    repeat' (first | rfl | (exfalso; omega) | refine cz0b (fun _ => ?_) (fun _ => ?_) | refine cz0e (fun _ => ?_) (fun _ => ?_))
  by_cases c13 : a = 164
  · subst c13
    rw [up_ne (by omega), up_ne (by omega), up_ne (by omega), up_ne (by omega), up_ne (by omega), up_ne (by omega), up_ne (by omega), up_ne (by omega), up_ne (by omega), up_ne (by omega), up_ne (by omega), up_ne (by omega), up_ne (by omega), up_ne (by omega), up_ne (by omega), up_ne (by omega), up_ne (by omega), up_ne (by omega), up_ne (by omega), up_ne (by omega), up_ne (by omega), up_ne (by omega), up_ne (by omega), up_ne (by omega), up_ne (by omega), up_ne (by omega), up_ne (by omega), up_ne (by omega), up_ne (by omega), up_ne (by omega), up_ne (by omega)]
    show 0 = pm_dN (pm_tb 1 D) 164 j
    refine Eq.symm ?_
    unfold pm_dN
    repeat' (first | rfl | (exfalso; omega) | refine cz0b (fun _ => ?_) (fun _ => ?_) | refine cz0e (fun _ => ?_) (fun _ => ?_))
  by_cases c14 : a = 165
  · subst c14
    rw [up_ne (by omega), up_ne (by omega), up_ne (by omega), up_ne (by omega), up_ne (by omega), up_ne (by omega), up_ne (by omega), up_ne (by omega), up_ne (by omega), up_ne (by omega), up_ne (by omega), up_ne (by omega), up_ne (by omega), up_ne (by omega), up_ne (by omega), up_ne (by omega), up_ne (by omega), up_ne (by omega), up_ne (by omega), up_ne (by omega), up_ne (by omega), up_ne (by omega), up_ne (by omega), up_ne (by omega), up_ne (by omega), up_ne (by omega), up_ne (by omega), up_ne (by omega), up_ne (by omega), up_ne (by omega), up_ne (by omega)]
    show 0 = pm_dN (pm_tb 1 D) 165 j
    refine Eq.symm ?_
    unfold pm_dN
    repeat' (first | rfl | (exfalso; omega) | refine cz0b (fun _ => ?_) (fun _ => ?_) | refine cz0e (fun _ => ?_) (fun _ => ?_))
  by_cases c15 : a = 166
  · subst c15
    rw [up_ne (by omega), up_ne (by omega), up_ne (by omega), up_ne (by omega), up_ne (by omega), up_ne (by omega), up_ne (by omega), up_ne (by omega), up_ne (by omega), up_ne (by omega), up_ne (by omega), up_ne (by omega), up_ne (by omega), up_ne (by omega), up_ne (by omega), up_ne (by omega), up_ne (by omega), up_ne (by omega), up_ne (by omega), up_ne (by omega), up_ne (by omega), up_ne (by omega), up_ne (by omega), up_ne (by omega), up_ne (by omega), up_ne (by omega), up_ne (by omega), up_ne (by omega), up_ne (by omega), up_ne (by omega), up_ne (by omega)]
    show 0 = pm_dN (pm_tb 1 D) 166 j
    refine Eq.symm ?_
    unfold pm_dN
    repeat' (first | rfl | (exfalso; omega) | refine cz0b (fun _ => ?_) (fun _ => ?_) | refine cz0e (fun _ => ?_) (fun _ => ?_))
  by_cases c16 : a = 167
  · subst c16
    rw [up_ne (by omega), up_ne (by omega), up_ne (by omega), up_ne (by omega), up_ne (by omega), up_ne (by omega), up_ne (by omega), up_ne (by omega), up_ne (by omega), up_ne (by omega), up_ne (by omega), up_ne (by omega), up_ne (by omega), up_ne (by omega), up_ne (by omega), up_ne (by omega), up_ne (by omega), up_ne (by omega), up_ne (by omega), up_ne (by omega), up_ne (by omega), up_ne (by omega), up_ne (by omega), up_ne (by omega), up_ne (by omega), up_ne (by omega), up_ne (by omega), up_ne (by omega), up_ne (by omega), up_ne (by omega), up_ne (by omega)]
    show 0 = pm_dN (pm_tb 1 D) 167 j
    refine Eq.symm ?_
    unfold pm_dN
    repeat' (first | rfl | (exfalso; omega) | refine cz0b (fun _ => ?_) (fun _ => ?_) | refine cz0e (fun _ => ?_) (fun _ => ?_))
  by_cases c17 : a = 168
  · subst c17
    by_cases j0 : j = 1
    · subst j0; rfl
    by_cases j1 : j = 2
    · subst j1; rfl
    by_cases j2 : j = 3
    · subst j2; rfl
    rw [up_ne (by omega), up_ne (by omega), up_ne (by omega), up_ne (by omega), up_ne (by omega), up_ne (by omega), up_ne (by omega), up_ne (by omega), up_ne (by omega), up_ne (by omega), up_ne (by omega), up_ne (by omega), up_ne (by omega), up_ne (by omega), up_ne (by omega), up_ne (by omega), up_ne (by omega), up_ne (by omega), up_ne (by omega), up_ne (by omega), up_ne (by omega), up_ne (by omega), up_ne (by omega), up_ne (by omega), up_ne (by omega), up_ne (by omega), up_ne (by omega), up_ne (by omega), up_ne (by omega), up_ne (by omega), up_ne (by omega)]
    show 0 = pm_dN (pm_tb 1 D) 168 j
    refine Eq.symm ?_
    unfold pm_dN
    repeat' (first | rfl | (exfalso; omega) | refine cz0b (fun _ => ?_) (fun _ => ?_) | refine cz0e (fun _ => ?_) (fun _ => ?_))
  by_cases c18 : a = 169
  · subst c18
    rw [up_ne (by omega), up_ne (by omega), up_ne (by omega), up_ne (by omega), up_ne (by omega), up_ne (by omega), up_ne (by omega), up_ne (by omega), up_ne (by omega), up_ne (by omega), up_ne (by omega), up_ne (by omega), up_ne (by omega), up_ne (by omega), up_ne (by omega), up_ne (by omega), up_ne (by omega), up_ne (by omega), up_ne (by omega), up_ne (by omega), up_ne (by omega), up_ne (by omega), up_ne (by omega), up_ne (by omega), up_ne (by omega), up_ne (by omega), up_ne (by omega), up_ne (by omega), up_ne (by omega), up_ne (by omega), up_ne (by omega)]
    show 0 = pm_dN (pm_tb 1 D) 169 j
    refine Eq.symm ?_
    unfold pm_dN
    repeat' (first | rfl | (exfalso; omega) | refine cz0b (fun _ => ?_) (fun _ => ?_) | refine cz0e (fun _ => ?_) (fun _ => ?_))
  by_cases c19 : a = 170
  · subst c19
    rw [up_ne (by omega), up_ne (by omega), up_ne (by omega), up_ne (by omega), up_ne (by omega), up_ne (by omega), up_ne (by omega), up_ne (by omega), up_ne (by omega), up_ne (by omega), up_ne (by omega), up_ne (by omega), up_ne (by omega), up_ne (by omega), up_ne (by omega), up_ne (by omega), up_ne (by omega), up_ne (by omega), up_ne (by omega), up_ne (by omega), up_ne (by omega), up_ne (by omega), up_ne (by omega), up_ne (by omega), up_ne (by omega), up_ne (by omega), up_ne (by omega), up_ne (by omega), up_ne (by omega), up_ne (by omega), up_ne (by omega)]
    show 0 = pm_dN (pm_tb 1 D) 170 j
    refine Eq.symm ?_
    unfold pm_dN
    repeat' (first | rfl | (exfalso; omega) | refine cz0b (fun _ => ?_) (fun _ => ?_) | refine cz0e (fun _ => ?_) (fun _ => ?_))
  by_cases c20 : a = 171
  · subst c20
    rw [up_ne (by omega), up_ne (by omega), up_ne (by omega), up_ne (by omega), up_ne (by omega), up_ne (by omega), up_ne (by omega), up_ne (by omega), up_ne (by omega), up_ne (by omega), up_ne (by omega), up_ne (by omega), up_ne (by omega), up_ne (by omega), up_ne (by omega), up_ne (by omega), up_ne (by omega), up_ne (by omega), up_ne (by omega), up_ne (by omega), up_ne (by omega), up_ne (by omega), up_ne (by omega), up_ne (by omega), up_ne (by omega), up_ne (by omega), up_ne (by omega), up_ne (by omega), up_ne (by omega), up_ne (by omega), up_ne (by omega)]
    show 0 = pm_dN (pm_tb 1 D) 171 j
    refine Eq.symm ?_
    unfold pm_dN
    repeat' (first | rfl | (exfalso; omega) | refine cz0b (fun _ => ?_) (fun _ => ?_) | refine cz0e (fun _ => ?_) (fun _ => ?_))
  by_cases c21 : a = 172
  · subst c21
    by_cases j0 : j = 1
    · subst j0; rfl
    by_cases j1 : j = 2
    · subst j1; rfl
    by_cases j2 : j = 3
    · subst j2; rfl
    rw [up_ne (by omega), up_ne (by omega), up_ne (by omega), up_ne (by omega), up_ne (by omega), up_ne (by omega), up_ne (by omega), up_ne (by omega), up_ne (by omega), up_ne (by omega), up_ne (by omega), up_ne (by omega), up_ne (by omega), up_ne (by omega), up_ne (by omega), up_ne (by omega), up_ne (by omega), up_ne (by omega), up_ne (by omega), up_ne (by omega), up_ne (by omega), up_ne (by omega), up_ne (by omega), up_ne (by omega), up_ne (by omega), up_ne (by omega), up_ne (by omega), up_ne (by omega), up_ne (by omega), up_ne (by omega), up_ne (by omega)]
    show 0 = pm_dN (pm_tb 1 D) 172 j
    refine Eq.symm ?_
    unfold pm_dN
    repeat' (first | rfl | (exfalso; omega) | refine cz0b (fun _ => ?_) (fun _ => ?_) | refine cz0e (fun _ => ?_) (fun _ => ?_))
  by_cases c22 : a = 173
  · subst c22
    rw [up_ne (by omega), up_ne (by omega), up_ne (by omega), up_ne (by omega), up_ne (by omega), up_ne (by omega), up_ne (by omega), up_ne (by omega), up_ne (by omega), up_ne (by omega), up_ne (by omega), up_ne (by omega), up_ne (by omega), up_ne (by omega), up_ne (by omega), up_ne (by omega), up_ne (by omega), up_ne (by omega), up_ne (by omega), up_ne (by omega), up_ne (by omega), up_ne (by omega), up_ne (by omega), up_ne (by omega), up_ne (by omega), up_ne (by omega), up_ne (by omega), up_ne (by omega), up_ne (by omega), up_ne (by omega), up_ne (by omega)]
    show 0 = pm_dN (pm_tb 1 D) 173 j
    refine Eq.symm ?_
    unfold pm_dN
    repeat' (first | rfl | (exfalso; omega) | refine cz0b (fun _ => ?_) (fun _ => ?_) | refine cz0e (fun _ => ?_) (fun _ => ?_))
  by_cases c23 : a = 174
  · subst c23
    rw [up_ne (by omega), up_ne (by omega), up_ne (by omega), up_ne (by omega), up_ne (by omega), up_ne (by omega), up_ne (by omega), up_ne (by omega), up_ne (by omega), up_ne (by omega), up_ne (by omega), up_ne (by omega), up_ne (by omega), up_ne (by omega), up_ne (by omega), up_ne (by omega), up_ne (by omega), up_ne (by omega), up_ne (by omega), up_ne (by omega), up_ne (by omega), up_ne (by omega), up_ne (by omega), up_ne (by omega), up_ne (by omega), up_ne (by omega), up_ne (by omega), up_ne (by omega), up_ne (by omega), up_ne (by omega), up_ne (by omega)]
    show 0 = pm_dN (pm_tb 1 D) 174 j
    refine Eq.symm ?_
    unfold pm_dN
    repeat' (first | rfl | (exfalso; omega) | refine cz0b (fun _ => ?_) (fun _ => ?_) | refine cz0e (fun _ => ?_) (fun _ => ?_))
  by_cases c24 : a = 175
  · subst c24
    rw [up_ne (by omega), up_ne (by omega), up_ne (by omega), up_ne (by omega), up_ne (by omega), up_ne (by omega), up_ne (by omega), up_ne (by omega), up_ne (by omega), up_ne (by omega), up_ne (by omega), up_ne (by omega), up_ne (by omega), up_ne (by omega), up_ne (by omega), up_ne (by omega), up_ne (by omega), up_ne (by omega), up_ne (by omega), up_ne (by omega), up_ne (by omega), up_ne (by omega), up_ne (by omega), up_ne (by omega), up_ne (by omega), up_ne (by omega), up_ne (by omega), up_ne (by omega), up_ne (by omega), up_ne (by omega), up_ne (by omega)]
    show 0 = pm_dN (pm_tb 1 D) 175 j
    refine Eq.symm ?_
    unfold pm_dN
    repeat' (first | rfl | (exfalso; omega) | refine cz0b (fun _ => ?_) (fun _ => ?_) | refine cz0e (fun _ => ?_) (fun _ => ?_))
  by_cases c25 : a = 176
  · subst c25
    by_cases j0 : j = 1
    · subst j0; rfl
    by_cases j1 : j = 2
    · subst j1; rfl
    rw [up_ne (by omega), up_ne (by omega), up_ne (by omega), up_ne (by omega), up_ne (by omega), up_ne (by omega), up_ne (by omega), up_ne (by omega), up_ne (by omega), up_ne (by omega), up_ne (by omega), up_ne (by omega), up_ne (by omega), up_ne (by omega), up_ne (by omega), up_ne (by omega), up_ne (by omega), up_ne (by omega), up_ne (by omega), up_ne (by omega), up_ne (by omega), up_ne (by omega), up_ne (by omega), up_ne (by omega), up_ne (by omega), up_ne (by omega), up_ne (by omega), up_ne (by omega), up_ne (by omega), up_ne (by omega), up_ne (by omega)]
    show 0 = pm_dN (pm_tb 1 D) 176 j
    refine Eq.symm ?_
    unfold pm_dN
    repeat' (first | rfl | (exfalso; omega) | refine cz0b (fun _ => ?_) (fun _ => ?_) | refine cz0e (fun _ => ?_) (fun _ => ?_))
  by_cases c26 : a = 177
  · subst c26
    rw [up_ne (by omega), up_ne (by omega), up_ne (by omega), up_ne (by omega), up_ne (by omega), up_ne (by omega), up_ne (by omega), up_ne (by omega), up_ne (by omega), up_ne (by omega), up_ne (by omega), up_ne (by omega), up_ne (by omega), up_ne (by omega), up_ne (by omega), up_ne (by omega), up_ne (by omega), up_ne (by omega), up_ne (by omega), up_ne (by omega), up_ne (by omega), up_ne (by omega), up_ne (by omega), up_ne (by omega), up_ne (by omega), up_ne (by omega), up_ne (by omega), up_ne (by omega), up_ne (by omega), up_ne (by omega), up_ne (by omega)]
    show 0 = pm_dN (pm_tb 1 D) 177 j
    refine Eq.symm ?_
    unfold pm_dN
    repeat' (first | rfl | (exfalso; omega) | refine cz0b (fun _ => ?_) (fun _ => ?_) | refine cz0e (fun _ => ?_) (fun _ => ?_))
  by_cases c27 : a = 178
  · subst c27
    rw [up_ne (by omega), up_ne (by omega), up_ne (by omega), up_ne (by omega), up_ne (by omega), up_ne (by omega), up_ne (by omega), up_ne (by omega), up_ne (by omega), up_ne (by omega), up_ne (by omega), up_ne (by omega), up_ne (by omega), up_ne (by omega), up_ne (by omega), up_ne (by omega), up_ne (by omega), up_ne (by omega), up_ne (by omega), up_ne (by omega), up_ne (by omega), up_ne (by omega), up_ne (by omega), up_ne (by omega), up_ne (by omega), up_ne (by omega), up_ne (by omega), up_ne (by omega), up_ne (by omega), up_ne (by omega), up_ne (by omega)]
    show 0 = pm_dN (pm_tb 1 D) 178 j
    refine Eq.symm ?_
    unfold pm_dN
    repeat' (first | rfl | (exfalso; omega) | refine cz0b (fun _ => ?_) (fun _ => ?_) | refine cz0e (fun _ => ?_) (fun _ => ?_))
  by_cases c28 : a = 179
  · subst c28
    by_cases j0 : j = 1
    · subst j0; rfl
    by_cases j1 : j = 2
    · subst j1; rfl
    rw [up_ne (by omega), up_ne (by omega), up_ne (by omega), up_ne (by omega), up_ne (by omega), up_ne (by omega), up_ne (by omega), up_ne (by omega), up_ne (by omega), up_ne (by omega), up_ne (by omega), up_ne (by omega), up_ne (by omega), up_ne (by omega), up_ne (by omega), up_ne (by omega), up_ne (by omega), up_ne (by omega), up_ne (by omega), up_ne (by omega), up_ne (by omega), up_ne (by omega), up_ne (by omega), up_ne (by omega), up_ne (by omega), up_ne (by omega), up_ne (by omega), up_ne (by omega), up_ne (by omega), up_ne (by omega), up_ne (by omega)]
    show 0 = pm_dN (pm_tb 1 D) 179 j
    refine Eq.symm ?_
    unfold pm_dN
    repeat' (first | rfl | (exfalso; omega) | refine cz0b (fun _ => ?_) (fun _ => ?_) | refine cz0e (fun _ => ?_) (fun _ => ?_))
  by_cases c29 : a = 180
  · subst c29
    rw [up_ne (by omega), up_ne (by omega), up_ne (by omega), up_ne (by omega), up_ne (by omega), up_ne (by omega), up_ne (by omega), up_ne (by omega), up_ne (by omega), up_ne (by omega), up_ne (by omega), up_ne (by omega), up_ne (by omega), up_ne (by omega), up_ne (by omega), up_ne (by omega), up_ne (by omega), up_ne (by omega), up_ne (by omega), up_ne (by omega), up_ne (by omega), up_ne (by omega), up_ne (by omega), up_ne (by omega), up_ne (by omega), up_ne (by omega), up_ne (by omega), up_ne (by omega), up_ne (by omega), up_ne (by omega), up_ne (by omega)]
    show 0 = pm_dN (pm_tb 1 D) 180 j
    refine Eq.symm ?_
    unfold pm_dN
    repeat' (first | rfl | (exfalso; omega) | refine cz0b (fun _ => ?_) (fun _ => ?_) | refine cz0e (fun _ => ?_) (fun _ => ?_))
  by_cases c30 : a = 181
  · subst c30
    rw [up_ne (by omega), up_ne (by omega), up_ne (by omega), up_ne (by omega), up_ne (by omega), up_ne (by omega), up_ne (by omega), up_ne (by omega), up_ne (by omega), up_ne (by omega), up_ne (by omega), up_ne (by omega), up_ne (by omega), up_ne (by omega), up_ne (by omega), up_ne (by omega), up_ne (by omega), up_ne (by omega), up_ne (by omega), up_ne (by omega), up_ne (by omega), up_ne (by omega), up_ne (by omega), up_ne (by omega), up_ne (by omega), up_ne (by omega), up_ne (by omega), up_ne (by omega), up_ne (by omega), up_ne (by omega), up_ne (by omega)]
    show 0 = pm_dN (pm_tb 1 D) 181 j
    refine Eq.symm ?_
    unfold pm_dN
    repeat' (first | rfl | (exfalso; omega) | refine cz0b (fun _ => ?_) (fun _ => ?_) | refine cz0e (fun _ => ?_) (fun _ => ?_))
  by_cases c31 : a = 33
  · subst c31
    by_cases j0 : j = 1
    · subst j0; rfl
    rw [up_ne (by omega), up_ne (by omega), up_ne (by omega), up_ne (by omega), up_ne (by omega), up_ne (by omega), up_ne (by omega), up_ne (by omega), up_ne (by omega), up_ne (by omega), up_ne (by omega), up_ne (by omega), up_ne (by omega), up_ne (by omega), up_ne (by omega), up_ne (by omega), up_ne (by omega), up_ne (by omega), up_ne (by omega), up_ne (by omega), up_ne (by omega), up_ne (by omega), up_ne (by omega), up_ne (by omega), up_ne (by omega), up_ne (by omega), up_ne (by omega), up_ne (by omega), up_ne (by omega), up_ne (by omega), up_ne (by omega)]
    show pm_dN (pm_fb 1 D) 33 j = pm_dN (pm_tb 1 D) 33 j
    unfold pm_dN
    repeat' (first | with_reducible rfl | (exfalso; omega) | refine cnb (fun _ => ?_) (fun _ => ?_) | refine cne (fun _ => ?_) (fun _ => ?_) | rfl)
  rw [up_ne (fun e => c31 e.1), up_ne (fun e => c6 e.1), up_ne (fun e => c28 e.1), up_ne (fun e => c28 e.1), up_ne (fun e => c4 e.1), up_ne (fun e => c21 e.1), up_ne (fun e => c21 e.1), up_ne (fun e => c21 e.1), up_ne (fun e => c3 e.1), up_ne (fun e => c12 e.1), up_ne (fun e => c12 e.1), up_ne (fun e => c12 e.1), up_ne (fun e => c12 e.1), up_ne (fun e => c6 e.1), up_ne (fun e => c25 e.1), up_ne (fun e => c25 e.1), up_ne (fun e => c4 e.1), up_ne (fun e => c17 e.1), up_ne (fun e => c17 e.1), up_ne (fun e => c17 e.1), up_ne (fun e => c3 e.1), up_ne (fun e => c7 e.1), up_ne (fun e => c7 e.1), up_ne (fun e => c7 e.1), up_ne (fun e => c7 e.1), up_ne (fun e => c0 e.1), up_ne (fun e => c0 e.1), up_ne (fun e => c0 e.1), up_ne (fun e => c0 e.1), up_ne (fun e => c0 e.1), up_ne (fun e => c0 e.1)]
  have eB : pm_dB (pm_fb 1 D) a = pm_dB (pm_tb 1 D) a := by
    unfold pm_dB
    repeat' (first | with_reducible rfl | (exfalso; omega) | refine cnb (fun _ => ?_) (fun _ => ?_) | rfl)
  have eN : pm_dN (pm_fb 1 D) a j = pm_dN (pm_tb 1 D) a j := by
    unfold pm_dN
    repeat' (first | with_reducible rfl | (exfalso; omega) | refine cnb (fun _ => ?_) (fun _ => ?_) | refine cne (fun _ => ?_) (fun _ => ?_) | rfl)
  rw [pm_dM, pm_dM, eB, eN]
def niI_1 (I : Nat → Nat → Int32) : Nat → Nat → Int32 := pm_up (pm_up (pm_up (pm_up (pm_up (pm_up (pm_up (pm_up (pm_up (pm_up (pm_up (pm_up (pm_up (pm_up (pm_up (pm_up (pm_up (I) 151 1 0) 151 2 0) 151 3 (-1)) 158 0 20) 158 1 1) 158 2 5) 158 3 6) 158 4 0) 168 0 0) 176 0 0) 163 0 20) 163 1 1) 163 2 5) 163 3 6) 163 4 0) 172 0 0) 179 0 0
def niL_1 (al : List Nat) : List Nat := al ++ [151] ++ [152] ++ [153] ++ [154] ++ [155] ++ [156] ++ [157] ++ [158] ++ [159] ++ [160] ++ [161] ++ [162] ++ [168] ++ [169] ++ [170] ++ [171] ++ [176] ++ [177] ++ [178] ++ [163] ++ [164] ++ [165] ++ [166] ++ [167] ++ [172] ++ [173] ++ [174] ++ [175] ++ [179] ++ [180] ++ [181]
theorem nim_1 (al : List Nat) (D : Nat → Bool) (I : Nat → Nat → Int32) (L : Nat → Nat → Int64) : ni1_m17 al D I L = pm_mm (niL_1 al) (pm_tb 1 D) (niI_1 I) L := by
  show (_, pm_set (pm_set (pm_set (pm_set (pm_set (pm_set (pm_set (pm_set (pm_set (pm_set (pm_set (pm_set (pm_set (pm_set (pm_set (pm_set (pm_set (pm_set (pm_set (pm_set (pm_set (pm_set (pm_set (pm_set (pm_set (pm_set (pm_set (pm_set (pm_set (pm_set (pm_set (pm_dB (pm_fb 1 D)) 151) 152) 153) 154) 155) 156) 157) 158) 159) 160) 161) 162) 168) 169) 170) 171) 176) 177) 178) 163) 164) 165) 166) 167) 172) 173) 174) 175) 179) 180) 181, pm_up (pm_up (pm_up (pm_up (pm_up (pm_up (pm_up (pm_up (pm_up (pm_up (pm_up (pm_up (pm_up (pm_up (pm_up (pm_up (pm_up (pm_up (pm_up (pm_up (pm_up (pm_up (pm_up (pm_up (pm_up (pm_up (pm_up (pm_up (pm_up (pm_up (pm_up (pm_dM (pm_fb 1 D)) 151 0 152) 151 4 153) 151 5 154) 151 6 155) 151 7 156) 151 8 157) 158 5 159) 158 6 160) 158 7 161) 158 8 162) 154 0 158) 168 1 169) 168 2 170) 168 3 171) 155 0 168) 176 1 177) 176 2 178) 157 0 176) 163 5 164) 163 6 165) 163 7 166) 163 8 167) 154 1 163) 172 1 173) 172 2 174) 172 3 175) 155 1 172) 179 1 180) 179 2 181) 157 1 179) 33 1 151, _, _) = _
  rw [niA_1, niN_1]; rfl
theorem nio_1 {I : Nat → Nat → Int32} {a : Nat} (h : ¬ (151 ≤ a ∧ a ≤ 181)) : niI_1 I a = I a := by
  rw [niI_1, up_rw (by omega), up_rw (by omega), up_rw (by omega), up_rw (by omega), up_rw (by omega), up_rw (by omega), up_rw (by omega), up_rw (by omega), up_rw (by omega), up_rw (by omega), up_rw (by omega), up_rw (by omega), up_rw (by omega), up_rw (by omega), up_rw (by omega), up_rw (by omega), up_rw (by omega)]
theorem nw_image_1 {X : Nat × (Nat → Int32)} {d : Nat} (al : List Nat) (D : Nat → Bool) (I : Nat → Nat → Int32) (L : Nat → Nat → Int64) : Rn X (d + 3) co_Ch_image (0, [some (vr 1), some (vi 1)], [], pm_mm al (pm_fb 1 D) I L) = Rn X (d + 3) co_Ch_image (33, [some (vr 1), some (vi 1)], [], pm_mm (niL_1 al) (pm_tb 1 D) (niI_1 I) L) := (ni1 al D I L).trans (by rw [nim_1])
end
