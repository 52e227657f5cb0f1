section
abbrev ni0_m0 (al : List Nat) (D : Nat → Bool) (I : Nat → Nat → Int32) (L : Nat → Nat → Int64) : pm_M := (al, pm_dB (pm_fb 0 D), pm_dM (pm_fb 0 D), I, L)
abbrev ni0_m1 (al : List Nat) (D : Nat → Bool) (I : Nat → Nat → Int32) (L : Nat → Nat → Int64) : pm_M := (al ++ [120], pm_set (pm_dB (pm_fb 0 D)) 120, pm_dM (pm_fb 0 D), I, L)
abbrev ni0_m2 (al : List Nat) (D : Nat → Bool) (I : Nat → Nat → Int32) (L : Nat → Nat → Int64) : pm_M := (al ++ [120] ++ [121] ++ [122] ++ [123] ++ [124] ++ [125] ++ [126] ++ [127], pm_set (pm_set (pm_set (pm_set (pm_set (pm_set (pm_set (pm_set (pm_dB (pm_fb 0 D)) 120) 121) 122) 123) 124) 125) 126) 127, pm_up (pm_up (pm_up (pm_up (pm_up (pm_up (pm_dM (pm_fb 0 D)) 120 0 121) 120 4 122) 120 5 123) 120 6 124) 120 7 125) 120 8 126, pm_up (pm_up (pm_up (I) 120 1 0) 120 2 0) 120 3 (-1), L)
abbrev ni0_m3 (al : List Nat) (D : Nat → Bool) (I : Nat → Nat → Int32) (L : Nat → Nat → Int64) : pm_M := (al ++ [120] ++ [121] ++ [122] ++ [123] ++ [124] ++ [125] ++ [126] ++ [127] ++ [128] ++ [129] ++ [130] ++ [131], pm_set (pm_set (pm_set (pm_set (pm_set (pm_set (pm_set (pm_set (pm_set (pm_set (pm_set (pm_set (pm_dB (pm_fb 0 D)) 120) 121) 122) 123) 124) 125) 126) 127) 128) 129) 130) 131, pm_up (pm_up (pm_up (pm_up (pm_up (pm_up (pm_up (pm_up (pm_up (pm_up (pm_dM (pm_fb 0 D)) 120 0 121) 120 4 122) 120 5 123) 120 6 124) 120 7 125) 120 8 126) 127 5 128) 127 6 129) 127 7 130) 127 8 131, pm_up (pm_up (pm_up (I) 120 1 0) 120 2 0) 120 3 (-1), L)
abbrev ni0_m4 (al : List Nat) (D : Nat → Bool) (I : Nat → Nat → Int32) (L : Nat → Nat → Int64) : pm_M := (al ++ [120] ++ [121] ++ [122] ++ [123] ++ [124] ++ [125] ++ [126] ++ [127] ++ [128] ++ [129] ++ [130] ++ [131], pm_set (pm_set (pm_set (pm_set (pm_set (pm_set (pm_set (pm_set (pm_set (pm_set (pm_set (pm_set (pm_dB (pm_fb 0 D)) 120) 121) 122) 123) 124) 125) 126) 127) 128) 129) 130) 131, pm_up (pm_up (pm_up (pm_up (pm_up (pm_up (pm_up (pm_up (pm_up (pm_up (pm_dM (pm_fb 0 D)) 120 0 121) 120 4 122) 120 5 123) 120 6 124) 120 7 125) 120 8 126) 127 5 128) 127 6 129) 127 7 130) 127 8 131, pm_up (pm_up (pm_up (pm_up (pm_up (pm_up (pm_up (pm_up (I) 120 1 0) 120 2 0) 120 3 (-1)) 127 0 20) 127 1 1) 127 2 5) 127 3 6) 127 4 0, L)
set_option maxRecDepth 20000 in
theorem ni0_c4_s0 {X : Nat × (Nat → Int32)} {d : Nat} (al : List Nat) (D : Nat → Bool) (I : Nat → Nat → Int32) (L : Nat → Nat → Int64) : Rn X d co_Ba_clear (0, [some (vr 127)], [], (ni0_m3 al D I L)) = some (none, (ni0_m4 al D I L)) := (Sg_eq X d co_Ba_clear (fun _ => false) 16 _).trans rfl
theorem ni0_c4 {X : Nat × (Nat → Int32)} {d : Nat} (al : List Nat) (D : Nat → Bool) (I : Nat → Nat → Int32) (L : Nat → Nat → Int64) : Cl X (d + 1) 7 [vr 127] (ni0_m3 al D I L) = some (none, (ni0_m4 al D I L)) := by
  rw [Cl_s]
  show Rn X (d) co_Ba_clear (0, [some (vr 127)], [], (ni0_m3 al D I L)) = _
  rw [ni0_c4_s0]
set_option maxRecDepth 20000 in
theorem ni0_c3_s0 {X : Nat × (Nat → Int32)} {d : Nat} (al : List Nat) (D : Nat → Bool) (I : Nat → Nat → Int32) (L : Nat → Nat → Int64) : Rn X d co_Ba_init (0, [some (vr 127)], [], (ni0_m2 al D I L)) = ((Cl X d 7 [vr 127] (ni0_m3 al D I L)).bind pm_av).bind (fun r => Rn X d co_Ba_init (40, [some (vr 127)], [], r)) := (Sg_eq X d co_Ba_init (fun p => Nat.beq p 40) 20 _).trans rfl
set_option maxRecDepth 20000 in
theorem ni0_c3_s1 {X : Nat × (Nat → Int32)} {d : Nat} (al : List Nat) (D : Nat → Bool) (I : Nat → Nat → Int32) (L : Nat → Nat → Int64) : Rn X d co_Ba_init (40, [some (vr 127)], [], (ni0_m4 al D I L)) = some (none, (ni0_m4 al D I L)) := (Sg_eq X d co_Ba_init (fun _ => false) 1 _).trans rfl
theorem ni0_c3 {X : Nat × (Nat → Int32)} {d : Nat} (al : List Nat) (D : Nat → Bool) (I : Nat → Nat → Int32) (L : Nat → Nat → Int64) : Cl X (d + 2) 6 [vr 127] (ni0_m2 al D I L) = some (none, (ni0_m4 al D I L)) := by
  rw [Cl_s]
  show Rn X (d + 1) co_Ba_init (0, [some (vr 127)], [], (ni0_m2 al D I L)) = _
  rw [ni0_c3_s0, ni0_c4 (X := X) (d := d)]
  simp only [Option.bind_some, pm_av]
  rw [ni0_c3_s1]
abbrev ni0_m5 (al : List Nat) (D : Nat → Bool) (I : Nat → Nat → Int32) (L : Nat → Nat → Int64) : pm_M := (al ++ [120] ++ [121] ++ [122] ++ [123] ++ [124] ++ [125] ++ [126] ++ [127] ++ [128] ++ [129] ++ [130] ++ [131] ++ [137], pm_set (pm_set (pm_set (pm_set (pm_set (pm_set (pm_set (pm_set (pm_set (pm_set (pm_set (pm_set (pm_set (pm_dB (pm_fb 0 D)) 120) 121) 122) 123) 124) 125) 126) 127) 128) 129) 130) 131) 137, pm_up (pm_up (pm_up (pm_up (pm_up (pm_up (pm_up (pm_up (pm_up (pm_up (pm_up (pm_dM (pm_fb 0 D)) 120 0 121) 120 4 122) 120 5 123) 120 6 124) 120 7 125) 120 8 126) 127 5 128) 127 6 129) 127 7 130) 127 8 131) 123 0 127, pm_up (pm_up (pm_up (pm_up (pm_up (pm_up (pm_up (pm_up (I) 120 1 0) 120 2 0) 120 3 (-1)) 127 0 20) 127 1 1) 127 2 5) 127 3 6) 127 4 0, L)
abbrev ni0_m6 (al : List Nat) (D : Nat → Bool) (I : Nat → Nat → Int32) (L : Nat → Nat → Int64) : pm_M := (al ++ [120] ++ [121] ++ [122] ++ [123] ++ [124] ++ [125] ++ [126] ++ [127] ++ [128] ++ [129] ++ [130] ++ [131] ++ [137] ++ [138] ++ [139] ++ [140], pm_set (pm_set (pm_set (pm_set (pm_set (pm_set (pm_set (pm_set (pm_set (pm_set (pm_set (pm_set (pm_set (pm_set (pm_set (pm_set (pm_dB (pm_fb 0 D)) 120) 121) 122) 123) 124) 125) 126) 127) 128) 129) 130) 131) 137) 138) 139) 140, pm_up (pm_up (pm_up (pm_up (pm_up (pm_up (pm_up (pm_up (pm_up (pm_up (pm_up (pm_up (pm_up (pm_up (pm_dM (pm_fb 0 D)) 120 0 121) 120 4 122) 120 5 123) 120 6 124) 120 7 125) 120 8 126) 127 5 128) 127 6 129) 127 7 130) 127 8 131) 123 0 127) 137 1 138) 137 2 139) 137 3 140, pm_up (pm_up (pm_up (pm_up (pm_up (pm_up (pm_up (pm_up (pm_up (I) 120 1 0) 120 2 0) 120 3 (-1)) 127 0 20) 127 1 1) 127 2 5) 127 3 6) 127 4 0) 137 0 0, L)
set_option maxRecDepth 20000 in
theorem ni0_c5_s0 {X : Nat × (Nat → Int32)} {d : Nat} (al : List Nat) (D : Nat → Bool) (I : Nat → Nat → Int32) (L : Nat → Nat → Int64) : Rn X d co_Sc_init (0, [some (vr 137)], [], (ni0_m5 al D I L)) = some (none, (ni0_m6 al D I L)) := (Sg_eq X d co_Sc_init (fun _ => false) 18 _).trans rfl
theorem ni0_c5 {X : Nat × (Nat → Int32)} {d : Nat} (al : List Nat) (D : Nat → Bool) (I : Nat → Nat → Int32) (L : Nat → Nat → Int64) : Cl X (d + 1) 76 [vr 137] (ni0_m5 al D I L) = some (none, (ni0_m6 al D I L)) := by
  rw [Cl_s]
  show Rn X (d) co_Sc_init (0, [some (vr 137)], [], (ni0_m5 al D I L)) = _
  rw [ni0_c5_s0]
abbrev ni0_m7 (al : List Nat) (D : Nat → Bool) (I : Nat → Nat → Int32) (L : Nat → Nat → Int64) : pm_M := (al ++ [120] ++ [121] ++ [122] ++ [123] ++ [124] ++ [125] ++ [126] ++ [127] ++ [128] ++ [129] ++ [130] ++ [131] ++ [137] ++ [138] ++ [139] ++ [140] ++ [145], pm_set (pm_set (pm_set (pm_set (pm_set (pm_set (pm_set (pm_set (pm_set (pm_set (pm_set (pm_set (pm_set (pm_set (pm_set (pm_set (pm_set (pm_dB (pm_fb 0 D)) 120) 121) 122) 123) 124) 125) 126) 127) 128) 129) 130) 131) 137) 138) 139) 140) 145, pm_up (pm_up (pm_up (pm_up (pm_up (pm_up (pm_up (pm_up (pm_up (pm_up (pm_up (pm_up (pm_up (pm_up (pm_up (pm_dM (pm_fb 0 D)) 120 0 121) 120 4 122) 120 5 123) 120 6 124) 120 7 125) 120 8 126) 127 5 128) 127 6 129) 127 7 130) 127 8 131) 123 0 127) 137 1 138) 137 2 139) 137 3 140) 124 0 137, pm_up (pm_up (pm_up (pm_up (pm_up (pm_up (pm_up (pm_up (pm_up (I) 120 1 0) 120 2 0) 120 3 (-1)) 127 0 20) 127 1 1) 127 2 5) 127 3 6) 127 4 0) 137 0 0, L)
abbrev ni0_m8 (al : List Nat) (D : Nat → Bool) (I : Nat → Nat → Int32) (L : Nat → Nat → Int64) : pm_M := (al ++ [120] ++ [121] ++ [122] ++ [123] ++ [124] ++ [125] ++ [126] ++ [127] ++ [128] ++ [129] ++ [130] ++ [131] ++ [137] ++ [138] ++ [139] ++ [140] ++ [145] ++ [146] ++ [147], pm_set (pm_set (pm_set (pm_set (pm_set (pm_set (pm_set (pm_set (pm_set (pm_set (pm_set (pm_set (pm_set (pm_set (pm_set (pm_set (pm_set (pm_set (pm_set (pm_dB (pm_fb 0 D)) 120) 121) 122) 123) 124) 125) 126) 127) 128) 129) 130) 131) 137) 138) 139) 140) 145) 146) 147, pm_up (pm_up (pm_up (pm_up (pm_up (pm_up (pm_up (pm_up (pm_up (pm_up (pm_up (pm_up (pm_up (pm_up (pm_up (pm_up (pm_up (pm_dM (pm_fb 0 D)) 120 0 121) 120 4 122) 120 5 123) 120 6 124) 120 7 125) 120 8 126) 127 5 128) 127 6 129) 127 7 130) 127 8 131) 123 0 127) 137 1 138) 137 2 139) 137 3 140) 124 0 137) 145 1 146) 145 2 147, pm_up (pm_up (pm_up (pm_up (pm_up (pm_up (pm_up (pm_up (pm_up (pm_up (I) 120 1 0) 120 2 0) 120 3 (-1)) 127 0 20) 127 1 1) 127 2 5) 127 3 6) 127 4 0) 137 0 0) 145 0 0, L)
set_option maxRecDepth 20000 in
theorem ni0_c6_s0 {X : Nat × (Nat → Int32)} {d : Nat} (al : List Nat) (D : Nat → Bool) (I : Nat → Nat → Int32) (L : Nat → Nat → Int64) : Rn X d co_Lo_init (0, [some (vr 145)], [], (ni0_m7 al D I L)) = some (none, (ni0_m8 al D I L)) := (Sg_eq X d co_Lo_init (fun _ => false) 14 _).trans rfl
theorem ni0_c6 {X : Nat × (Nat → Int32)} {d : Nat} (al : List Nat) (D : Nat → Bool) (I : Nat → Nat → Int32) (L : Nat → Nat → Int64) : Cl X (d + 1) 35 [vr 145] (ni0_m7 al D I L) = some (none, (ni0_m8 al D I L)) := by
  rw [Cl_s]
  show Rn X (d) co_Lo_init (0, [some (vr 145)], [], (ni0_m7 al D I L)) = _
  rw [ni0_c6_s0]
abbrev ni0_m9 (al : List Nat) (D : Nat → Bool) (I : Nat → Nat → Int32) (L : Nat → Nat → Int64) : pm_M := (al ++ [120] ++ [121] ++ [122] ++ [123] ++ [124] ++ [125] ++ [126] ++ [127] ++ [128] ++ [129] ++ [130] ++ [131] ++ [137] ++ [138] ++ [139] ++ [140] ++ [145] ++ [146] ++ [147] ++ [132], pm_set (pm_set (pm_set (pm_set (pm_set (pm_set (pm_set (pm_set (pm_set (pm_set (pm_set (pm_set (pm_set (pm_set (pm_set (pm_set (pm_set (pm_set (pm_set (pm_set (pm_dB (pm_fb 0 D)) 120) 121) 122) 123) 124) 125) 126) 127) 128) 129) 130) 131) 137) 138) 139) 140) 145) 146) 147) 132, pm_up (pm_up (pm_up (pm_up (pm_up (pm_up (pm_up (pm_up (pm_up (pm_up (pm_up (pm_up (pm_up (pm_up (pm_up (pm_up (pm_up (pm_up (pm_dM (pm_fb 0 D)) 120 0 121) 120 4 122) 120 5 123) 120 6 124) 120 7 125) 120 8 126) 127 5 128) 127 6 129) 127 7 130) 127 8 131) 123 0 127) 137 1 138) 137 2 139) 137 3 140) 124 0 137) 145 1 146) 145 2 147) 126 0 145, pm_up (pm_up (pm_up (pm_up (pm_up (pm_up (pm_up (pm_up (pm_up (pm_up (I) 120 1 0) 120 2 0) 120 3 (-1)) 127 0 20) 127 1 1) 127 2 5) 127 3 6) 127 4 0) 137 0 0) 145 0 0, L)
abbrev ni0_m10 (al : List Nat) (D : Nat → Bool) (I : Nat → Nat → Int32) (L : Nat → Nat → Int64) : pm_M := (al ++ [120] ++ [121] ++ [122] ++ [123] ++ [124] ++ [125] ++ [126] ++ [127] ++ [128] ++ [129] ++ [130] ++ [131] ++ [137] ++ [138] ++ [139] ++ [140] ++ [145] ++ [146] ++ [147] ++ [132] ++ [133] ++ [134] ++ [135] ++ [136], pm_set (pm_set (pm_set (pm_set (pm_set (pm_set (pm_set (pm_set (pm_set (pm_set (pm_set (pm_set (pm_set (pm_set (pm_set (pm_set (pm_set (pm_set (pm_set (pm_set (pm_set (pm_set (pm_set (pm_set (pm_dB (pm_fb 0 D)) 120) 121) 122) 123) 124) 125) 126) 127) 128) 129) 130) 131) 137) 138) 139) 140) 145) 146) 147) 132) 133) 134) 135) 136, pm_up (pm_up (pm_up (pm_up (pm_up (pm_up (pm_up (pm_up (pm_up (pm_up (pm_up (pm_up (pm_up (pm_up (pm_up (pm_up (pm_up (pm_up (pm_up (pm_up (pm_up (pm_up (pm_dM (pm_fb 0 D)) 120 0 121) 120 4 122) 120 5 123) 120 6 124) 120 7 125) 120 8 126) 127 5 128) 127 6 129) 127 7 130) 127 8 131) 123 0 127) 137 1 138) 137 2 139) 137 3 140) 124 0 137) 145 1 146) 145 2 147) 126 0 145) 132 5 133) 132 6 134) 132 7 135) 132 8 136, pm_up (pm_up (pm_up (pm_up (pm_up (pm_up (pm_up (pm_up (pm_up (pm_up (I) 120 1 0) 120 2 0) 120 3 (-1)) 127 0 20) 127 1 1) 127 2 5) 127 3 6) 127 4 0) 137 0 0) 145 0 0, L)
abbrev ni0_m11 (al : List Nat) (D : Nat → Bool) (I : Nat → Nat → Int32) (L : Nat → Nat → Int64) : pm_M := (al ++ [120] ++ [121] ++ [122] ++ [123] ++ [124] ++ [125] ++ [126] ++ [127] ++ [128] ++ [129] ++ [130] ++ [131] ++ [137] ++ [138] ++ [139] ++ [140] ++ [145] ++ [146] ++ [147] ++ [132] ++ [133] ++ [134] ++ [135] ++ [136], pm_set (pm_set (pm_set (pm_set (pm_set (pm_set (pm_set (pm_set (pm_set (pm_set (pm_set (pm_set (pm_set (pm_set (pm_set (pm_set (pm_set (pm_set (pm_set (pm_set (pm_set (pm_set (pm_set (pm_set (pm_dB (pm_fb 0 D)) 120) 121) 122) 123) 124) 125) 126) 127) 128) 129) 130) 131) 137) 138) 139) 140) 145) 146) 147) 132) 133) 134) 135) 136, pm_up (pm_up (pm_up (pm_up (pm_up (pm_up (pm_up (pm_up (pm_up (pm_up (pm_up (pm_up (pm_up (pm_up (pm_up (pm_up (pm_up (pm_up (pm_up (pm_up (pm_up (pm_up (pm_dM (pm_fb 0 D)) 120 0 121) 120 4 122) 120 5 123) 120 6 124) 120 7 125) 120 8 126) 127 5 128) 127 6 129) 127 7 130) 127 8 131) 123 0 127) 137 1 138) 137 2 139) 137 3 140) 124 0 137) 145 1 146) 145 2 147) 126 0 145) 132 5 133) 132 6 134) 132 7 135) 132 8 136, pm_up (pm_up (pm_up (pm_up (pm_up (pm_up (pm_up (pm_up (pm_up (pm_up (pm_up (pm_up (pm_up (pm_up (pm_up (I) 120 1 0) 120 2 0) 120 3 (-1)) 127 0 20) 127 1 1) 127 2 5) 127 3 6) 127 4 0) 137 0 0) 145 0 0) 132 0 20) 132 1 1) 132 2 5) 132 3 6) 132 4 0, L)
set_option maxRecDepth 20000 in
theorem ni0_c8_s0 {X : Nat × (Nat → Int32)} {d : Nat} (al : List Nat) (D : Nat → Bool) (I : Nat → Nat → Int32) (L : Nat → Nat → Int64) : Rn X d co_Ba_clear (0, [some (vr 132)], [], (ni0_m10 al D I L)) = some (none, (ni0_m11 al D I L)) := (Sg_eq X d co_Ba_clear (fun _ => false) 16 _).trans rfl
theorem ni0_c8 {X : Nat × (Nat → Int32)} {d : Nat} (al : List Nat) (D : Nat → Bool) (I : Nat → Nat → Int32) (L : Nat → Nat → Int64) : Cl X (d + 1) 7 [vr 132] (ni0_m10 al D I L) = some (none, (ni0_m11 al D I L)) := by
  rw [Cl_s]
  show Rn X (d) co_Ba_clear (0, [some (vr 132)], [], (ni0_m10 al D I L)) = _
  rw [ni0_c8_s0]
set_option maxRecDepth 20000 in
theorem ni0_c7_s0 {X : Nat × (Nat → Int32)} {d : Nat} (al : List Nat) (D : Nat → Bool) (I : Nat → Nat → Int32) (L : Nat → Nat → Int64) : Rn X d co_Ba_init (0, [some (vr 132)], [], (ni0_m9 al D I L)) = ((Cl X d 7 [vr 132] (ni0_m10 al D I L)).bind pm_av).bind (fun r => Rn X d co_Ba_init (40, [some (vr 132)], [], r)) := (Sg_eq X d co_Ba_init (fun p => Nat.beq p 40) 20 _).trans rfl
set_option maxRecDepth 20000 in
theorem ni0_c7_s1 {X : Nat × (Nat → Int32)} {d : Nat} (al : List Nat) (D : Nat → Bool) (I : Nat → Nat → Int32) (L : Nat → Nat → Int64) : Rn X d co_Ba_init (40, [some (vr 132)], [], (ni0_m11 al D I L)) = some (none, (ni0_m11 al D I L)) := (Sg_eq X d co_Ba_init (fun _ => false) 1 _).trans rfl
theorem ni0_c7 {X : Nat × (Nat → Int32)} {d : Nat} (al : List Nat) (D : Nat → Bool) (I : Nat → Nat → Int32) (L : Nat → Nat → Int64) : Cl X (d + 2) 6 [vr 132] (ni0_m9 al D I L) = some (none, (ni0_m11 al D I L)) := by
  rw [Cl_s]
  show Rn X (d + 1) co_Ba_init (0, [some (vr 132)], [], (ni0_m9 al D I L)) = _
  rw [ni0_c7_s0, ni0_c8 (X := X) (d := d)]
  simp only [Option.bind_some, pm_av]
  rw [ni0_c7_s1]
abbrev ni0_m12 (al : List Nat) (D : Nat → Bool) (I : Nat → Nat → Int32) (L : Nat → Nat → Int64) : pm_M := (al ++ [120] ++ [121] ++ [122] ++ [123] ++ [124] ++ [125] ++ [126] ++ [127] ++ [128] ++ [129] ++ [130] ++ [131] ++ [137] ++ [138] ++ [139] ++ [140] ++ [145] ++ [146] ++ [147] ++ [132] ++ [133] ++ [134] ++ [135] ++ [136] ++ [141], pm_set (pm_set (pm_set (pm_set (pm_set (pm_set (pm_set (pm_set (pm_set (pm_set (pm_set (pm_set (pm_set (pm_set (pm_set (pm_set (pm_set (pm_set (pm_set (pm_set (pm_set (pm_set (pm_set (pm_set (pm_set (pm_dB (pm_fb 0 D)) 120) 121) 122) 123) 124) 125) 126) 127) 128) 129) 130) 131) 137) 138) 139) 140) 145) 146) 147) 132) 133) 134) 135) 136) 141, pm_up (pm_up (pm_up (pm_up (pm_up (pm_up (pm_up (pm_up (pm_up (pm_up (pm_up (pm_up (pm_up (pm_up (pm_up (pm_up (pm_up (pm_up (pm_up (pm_up (pm_up (pm_up (pm_up (pm_dM (pm_fb 0 D)) 120 0 121) 120 4 122) 120 5 123) 120 6 124) 120 7 125) 120 8 126) 127 5 128) 127 6 129) 127 7 130) 127 8 131) 123 0 127) 137 1 138) 137 2 139) 137 3 140) 124 0 137) 145 1 146) 145 2 147) 126 0 145) 132 5 133) 132 6 134) 132 7 135) 132 8 136) 123 1 132, pm_up (pm_up (pm_up (pm_up (pm_up (pm_up (pm_up (pm_up (pm_up (pm_up (pm_up (pm_up (pm_up (pm_up (pm_up (I) 120 1 0) 120 2 0) 120 3 (-1)) 127 0 20) 127 1 1) 127 2 5) 127 3 6) 127 4 0) 137 0 0) 145 0 0) 132 0 20) 132 1 1) 132 2 5) 132 3 6) 132 4 0, L)
abbrev ni0_m13 (al : List Nat) (D : Nat → Bool) (I : Nat → Nat → Int32) (L : Nat → Nat → Int64) : pm_M := (al ++ [120] ++ [121] ++ [122] ++ [123] ++ [124] ++ [125] ++ [126] ++ [127] ++ [128] ++ [129] ++ [130] ++ [131] ++ [137] ++ [138] ++ [139] ++ [140] ++ [145] ++ [146] ++ [147] ++ [132] ++ [133] ++ [134] ++ [135] ++ [136] ++ [141] ++ [142] ++ [143] ++ [144], pm_set (pm_set (pm_set (pm_set (pm_set (pm_set (pm_set (pm_set (pm_set (pm_set (pm_set (pm_set (pm_set (pm_set (pm_set (pm_set (pm_set (pm_set (pm_set (pm_set (pm_set (pm_set (pm_set (pm_set (pm_set (pm_set (pm_set (pm_set (pm_dB (pm_fb 0 D)) 120) 121) 122) 123) 124) 125) 126) 127) 128) 129) 130) 131) 137) 138) 139) 140) 145) 146) 147) 132) 133) 134) 135) 136) 141) 142) 143) 144, pm_up (pm_up (pm_up (pm_up (pm_up (pm_up (pm_up (pm_up (pm_up (pm_up (pm_up (pm_up (pm_up (pm_up (pm_up (pm_up (pm_up (pm_up (pm_up (pm_up (pm_up (pm_up (pm_up (pm_up (pm_up (pm_up (pm_dM (pm_fb 0 D)) 120 0 121) 120 4 122) 120 5 123) 120 6 124) 120 7 125) 120 8 126) 127 5 128) 127 6 129) 127 7 130) 127 8 131) 123 0 127) 137 1 138) 137 2 139) 137 3 140) 124 0 137) 145 1 146) 145 2 147) 126 0 145) 132 5 133) 132 6 134) 132 7 135) 132 8 136) 123 1 132) 141 1 142) 141 2 143) 141 3 144, pm_up (pm_up (pm_up (pm_up (pm_up (pm_up (pm_up (pm_up (pm_up (pm_up (pm_up (pm_up (pm_up (pm_up (pm_up (pm_up (I) 120 1 0) 120 2 0) 120 3 (-1)) 127 0 20) 127 1 1) 127 2 5) 127 3 6) 127 4 0) 137 0 0) 145 0 0) 132 0 20) 132 1 1) 132 2 5) 132 3 6) 132 4 0) 141 0 0, L)
set_option maxRecDepth 20000 in
theorem ni0_c9_s0 {X : Nat × (Nat → Int32)} {d : Nat} (al : List Nat) (D : Nat → Bool) (I : Nat → Nat → Int32) (L : Nat → Nat → Int64) : Rn X d co_Sc_init (0, [some (vr 141)], [], (ni0_m12 al D I L)) = some (none, (ni0_m13 al D I L)) := (Sg_eq X d co_Sc_init (fun _ => false) 18 _).trans rfl
theorem ni0_c9 {X : Nat × (Nat → Int32)} {d : Nat} (al : List Nat) (D : Nat → Bool) (I : Nat → Nat → Int32) (L : Nat → Nat → Int64) : Cl X (d + 1) 76 [vr 141] (ni0_m12 al D I L) = some (none, (ni0_m13 al D I L)) := by
  rw [Cl_s]
  show Rn X (d) co_Sc_init (0, [some (vr 141)], [], (ni0_m12 al D I L)) = _
  rw [ni0_c9_s0]
abbrev ni0_m14 (al : List Nat) (D : Nat → Bool) (I : Nat → Nat → Int32) (L : Nat → Nat → Int64) : pm_M := (al ++ [120] ++ [121] ++ [122] ++ [123] ++ [124] ++ [125] ++ [126] ++ [127] ++ [128] ++ [129] ++ [130] ++ [131] ++ [137] ++ [138] ++ [139] ++ [140] ++ [145] ++ [146] ++ [147] ++ [132] ++ [133] ++ [134] ++ [135] ++ [136] ++ [141] ++ [142] ++ [143] ++ [144] ++ [148], pm_set (pm_set (pm_set (pm_set (pm_set (pm_set (pm_set (pm_set (pm_set (pm_set (pm_set (pm_set (pm_set (pm_set (pm_set (pm_set (pm_set (pm_set (pm_set (pm_set (pm_set (pm_set (pm_set (pm_set (pm_set (pm_set (pm_set (pm_set (pm_set (pm_dB (pm_fb 0 D)) 120) 121) 122) 123) 124) 125) 126) 127) 128) 129) 130) 131) 137) 138) 139) 140) 145) 146) 147) 132) 133) 134) 135) 136) 141) 142) 143) 144) 148, pm_up (pm_up (pm_up (pm_up (pm_up (pm_up (pm_up (pm_up (pm_up (pm_up (pm_up (pm_up (pm_up (pm_up (pm_up (pm_up (pm_up (pm_up (pm_up (pm_up (pm_up (pm_up (pm_up (pm_up (pm_up (pm_up (pm_up (pm_dM (pm_fb 0 D)) 120 0 121) 120 4 122) 120 5 123) 120 6 124) 120 7 125) 120 8 126) 127 5 128) 127 6 129) 127 7 130) 127 8 131) 123 0 127) 137 1 138) 137 2 139) 137 3 140) 124 0 137) 145 1 146) 145 2 147) 126 0 145) 132 5 133) 132 6 134) 132 7 135) 132 8 136) 123 1 132) 141 1 142) 141 2 143) 141 3 144) 124 1 141, pm_up (pm_up (pm_up (pm_up (pm_up (pm_up (pm_up (pm_up (pm_up (pm_up (pm_up (pm_up (pm_up (pm_up (pm_up (pm_up (I) 120 1 0) 120 2 0) 120 3 (-1)) 127 0 20) 127 1 1) 127 2 5) 127 3 6) 127 4 0) 137 0 0) 145 0 0) 132 0 20) 132 1 1) 132 2 5) 132 3 6) 132 4 0) 141 0 0, L)
abbrev ni0_m15 (al : List Nat) (D : Nat → Bool) (I : Nat → Nat → Int32) (L : Nat → Nat → Int64) : pm_M := (al ++ [120] ++ [121] ++ [122] ++ [123] ++ [124] ++ [125] ++ [126] ++ [127] ++ [128] ++ [129] ++ [130] ++ [131] ++ [137] ++ [138] ++ [139] ++ [140] ++ [145] ++ [146] ++ [147] ++ [132] ++ [133] ++ [134] ++ [135] ++ [136] ++ [141] ++ [142] ++ [143] ++ [144] ++ [148] ++ [149] ++ [150], pm_set (pm_set (pm_set (pm_set (pm_set (pm_set (pm_set (pm_set (pm_set (pm_set (pm_set (pm_set (pm_set (pm_set (pm_set (pm_set (pm_set (pm_set (pm_set (pm_set (pm_set (pm_set (pm_set (pm_set (pm_set (pm_set (pm_set (pm_set (pm_set (pm_set (pm_set (pm_dB (pm_fb 0 D)) 120) 121) 122) 123) 124) 125) 126) 127) 128) 129) 130) 131) 137) 138) 139) 140) 145) 146) 147) 132) 133) 134) 135) 136) 141) 142) 143) 144) 148) 149) 150, pm_up (pm_up (pm_up (pm_up (pm_up (pm_up (pm_up (pm_up (pm_up (pm_up (pm_up (pm_up (pm_up (pm_up (pm_up (pm_up (pm_up (pm_up (pm_up (pm_up (pm_up (pm_up (pm_up (pm_up (pm_up (pm_up (pm_up (pm_up (pm_up (pm_dM (pm_fb 0 D)) 120 0 121) 120 4 122) 120 5 123) 120 6 124) 120 7 125) 120 8 126) 127 5 128) 127 6 129) 127 7 130) 127 8 131) 123 0 127) 137 1 138) 137 2 139) 137 3 140) 124 0 137) 145 1 146) 145 2 147) 126 0 145) 132 5 133) 132 6 134) 132 7 135) 132 8 136) 123 1 132) 141 1 142) 141 2 143) 141 3 144) 124 1 141) 148 1 149) 148 2 150, pm_up (pm_up (pm_up (pm_up (pm_up (pm_up (pm_up (pm_up (pm_up (pm_up (pm_up (pm_up (pm_up (pm_up (pm_up (pm_up (pm_up (I) 120 1 0) 120 2 0) 120 3 (-1)) 127 0 20) 127 1 1) 127 2 5) 127 3 6) 127 4 0) 137 0 0) 145 0 0) 132 0 20) 132 1 1) 132 2 5) 132 3 6) 132 4 0) 141 0 0) 148 0 0, L)
set_option maxRecDepth 20000 in
theorem ni0_c10_s0 {X : Nat × (Nat → Int32)} {d : Nat} (al : List Nat) (D : Nat → Bool) (I : Nat → Nat → Int32) (L : Nat → Nat → Int64) : Rn X d co_Lo_init (0, [some (vr 148)], [], (ni0_m14 al D I L)) = some (none, (ni0_m15 al D I L)) := (Sg_eq X d co_Lo_init (fun _ => false) 14 _).trans rfl
theorem ni0_c10 {X : Nat × (Nat → Int32)} {d : Nat} (al : List Nat) (D : Nat → Bool) (I : Nat → Nat → Int32) (L : Nat → Nat → Int64) : Cl X (d + 1) 35 [vr 148] (ni0_m14 al D I L) = some (none, (ni0_m15 al D I L)) := by
  rw [Cl_s]
  show Rn X (d) co_Lo_init (0, [some (vr 148)], [], (ni0_m14 al D I L)) = _
  rw [ni0_c10_s0]
abbrev ni0_m16 (al : List Nat) (D : Nat → Bool) (I : Nat → Nat → Int32) (L : Nat → Nat → Int64) : pm_M := (al ++ [120] ++ [121] ++ [122] ++ [123] ++ [124] ++ [125] ++ [126] ++ [127] ++ [128] ++ [129] ++ [130] ++ [131] ++ [137] ++ [138] ++ [139] ++ [140] ++ [145] ++ [146] ++ [147] ++ [132] ++ [133] ++ [134] ++ [135] ++ [136] ++ [141] ++ [142] ++ [143] ++ [144] ++ [148] ++ [149] ++ [150], pm_set (pm_set (pm_set (pm_set (pm_set (pm_set (pm_set (pm_set (pm_set (pm_set (pm_set (pm_set (pm_set (pm_set (pm_set (pm_set (pm_set (pm_set (pm_set (pm_set (pm_set (pm_set (pm_set (pm_set (pm_set (pm_set (pm_set (pm_set (pm_set (pm_set (pm_set (pm_dB (pm_fb 0 D)) 120) 121) 122) 123) 124) 125) 126) 127) 128) 129) 130) 131) 137) 138) 139) 140) 145) 146) 147) 132) 133) 134) 135) 136) 141) 142) 143) 144) 148) 149) 150, pm_up (pm_up (pm_up (pm_up (pm_up (pm_up (pm_up (pm_up (pm_up (pm_up (pm_up (pm_up (pm_up (pm_up (pm_up (pm_up (pm_up (pm_up (pm_up (pm_up (pm_up (pm_up (pm_up (pm_up (pm_up (pm_up (pm_up (pm_up (pm_up (pm_up (pm_dM (pm_fb 0 D)) 120 0 121) 120 4 122) 120 5 123) 120 6 124) 120 7 125) 120 8 126) 127 5 128) 127 6 129) 127 7 130) 127 8 131) 123 0 127) 137 1 138) 137 2 139) 137 3 140) 124 0 137) 145 1 146) 145 2 147) 126 0 145) 132 5 133) 132 6 134) 132 7 135) 132 8 136) 123 1 132) 141 1 142) 141 2 143) 141 3 144) 124 1 141) 148 1 149) 148 2 150) 126 1 148, pm_up (pm_up (pm_up (pm_up (pm_up (pm_up (pm_up (pm_up (pm_up (pm_up (pm_up (pm_up (pm_up (pm_up (pm_up (pm_up (pm_up (I) 120 1 0) 120 2 0) 120 3 (-1)) 127 0 20) 127 1 1) 127 2 5) 127 3 6) 127 4 0) 137 0 0) 145 0 0) 132 0 20) 132 1 1) 132 2 5) 132 3 6) 132 4 0) 141 0 0) 148 0 0, L)
set_option maxRecDepth 20000 in
theorem ni0_c2_s0 {X : Nat × (Nat → Int32)} {d : Nat} (al : List Nat) (D : Nat → Bool) (I : Nat → Nat → Int32) (L : Nat → Nat → Int64) : Rn X d co_To_init (0, [some (vr 120), none], [], (ni0_m1 al D I L)) = ((Cl X d 6 [vr 127] (ni0_m2 al D I L)).bind pm_av).bind (fun r => Rn X d co_To_init (85, [some (vr 120), some (vi 0)], [vr 127, vi 0, vr 123], r)) := (Sg_eq X d co_To_init (fun p => Nat.beq p 85) 46 _).trans rfl
set_option maxRecDepth 20000 in
theorem ni0_c2_s1 {X : Nat × (Nat → Int32)} {d : Nat} (al : List Nat) (D : Nat → Bool) (I : Nat → Nat → Int32) (L : Nat → Nat → Int64) : Rn X d co_To_init (85, [some (vr 120), some (vi 0)], [vr 127, vi 0, vr 123], (ni0_m4 al D I L)) = ((Cl X d 76 [vr 137] (ni0_m5 al D I L)).bind pm_av).bind (fun r => Rn X d co_To_init (98, [some (vr 120), some (vi 0)], [vr 137, vi 0, vr 124], r)) := (Sg_eq X d co_To_init (fun p => Nat.beq p 98) 7 _).trans rfl
set_option maxRecDepth 20000 in
theorem ni0_c2_s2 {X : Nat × (Nat → Int32)} {d : Nat} (al : List Nat) (D : Nat → Bool) (I : Nat → Nat → Int32) (L : Nat → Nat → Int64) : Rn X d co_To_init (98, [some (vr 120), some (vi 0)], [vr 137, vi 0, vr 124], (ni0_m6 al D I L)) = ((Cl X d 35 [vr 145] (ni0_m7 al D I L)).bind pm_av).bind (fun r => Rn X d co_To_init (111, [some (vr 120), some (vi 0)], [vr 145, vi 0, vr 126], r)) := (Sg_eq X d co_To_init (fun p => Nat.beq p 111) 7 _).trans rfl
set_option maxRecDepth 20000 in
theorem ni0_c2_s3 {X : Nat × (Nat → Int32)} {d : Nat} (al : List Nat) (D : Nat → Bool) (I : Nat → Nat → Int32) (L : Nat → Nat → Int64) : Rn X d co_To_init (111, [some (vr 120), some (vi 0)], [vr 145, vi 0, vr 126], (ni0_m8 al D I L)) = ((Cl X d 6 [vr 132] (ni0_m9 al D I L)).bind pm_av).bind (fun r => Rn X d co_To_init (85, [some (vr 120), some (vi 1)], [vr 132, vi 1, vr 123], r)) := (Sg_eq X d co_To_init (fun p => Nat.beq p 85) 12 _).trans rfl
set_option maxRecDepth 20000 in
theorem ni0_c2_s4 {X : Nat × (Nat → Int32)} {d : Nat} (al : List Nat) (D : Nat → Bool) (I : Nat → Nat → Int32) (L : Nat → Nat → Int64) : Rn X d co_To_init (85, [some (vr 120), some (vi 1)], [vr 132, vi 1, vr 123], (ni0_m11 al D I L)) = ((Cl X d 76 [vr 141] (ni0_m12 al D I L)).bind pm_av).bind (fun r => Rn X d co_To_init (98, [some (vr 120), some (vi 1)], [vr 141, vi 1, vr 124], r)) := (Sg_eq X d co_To_init (fun p => Nat.beq p 98) 7 _).trans rfl
set_option maxRecDepth 20000 in
theorem ni0_c2_s5 {X : Nat × (Nat → Int32)} {d : Nat} (al : List Nat) (D : Nat → Bool) (I : Nat → Nat → Int32) (L : Nat → Nat → Int64) : Rn X d co_To_init (98, [some (vr 120), some (vi 1)], [vr 141, vi 1, vr 124], (ni0_m13 al D I L)) = ((Cl X d 35 [vr 148] (ni0_m14 al D I L)).bind pm_av).bind (fun r => Rn X d co_To_init (111, [some (vr 120), some (vi 1)], [vr 148, vi 1, vr 126], r)) := (Sg_eq X d co_To_init (fun p => Nat.beq p 111) 7 _).trans rfl
set_option maxRecDepth 20000 in
theorem ni0_c2_s6 {X : Nat × (Nat → Int32)} {d : Nat} (al : List Nat) (D : Nat → Bool) (I : Nat → Nat → Int32) (L : Nat → Nat → Int64) : Rn X d co_To_init (111, [some (vr 120), some (vi 1)], [vr 148, vi 1, vr 126], (ni0_m15 al D I L)) = some (none, (ni0_m16 al D I L)) := (Sg_eq X d co_To_init (fun _ => false) 7 _).trans rfl
theorem ni0_c2 {X : Nat × (Nat → Int32)} {d : Nat} (al : List Nat) (D : Nat → Bool) (I : Nat → Nat → Int32) (L : Nat → Nat → Int64) : Cl X (d + 3) 92 [vr 120] (ni0_m1 al D I L) = some (none, (ni0_m16 al D I L)) := by
  rw [Cl_s]
  show Rn X (d + 2) co_To_init (0, [some (vr 120), none], [], (ni0_m1 al D I L)) = _
  rw [ni0_c2_s0, ni0_c3 (X := X) (d := d)]
  simp only [Option.bind_some, pm_av]
  rw [ni0_c2_s1, ni0_c5 (X := X) (d := d + 1)]
  simp only [Option.bind_some, pm_av]
  rw [ni0_c2_s2, ni0_c6 (X := X) (d := d + 1)]
  simp only [Option.bind_some, pm_av]
  rw [ni0_c2_s3, ni0_c7 (X := X) (d := d)]
  simp only [Option.bind_some, pm_av]
  rw [ni0_c2_s4, ni0_c9 (X := X) (d := d + 1)]
  simp only [Option.bind_some, pm_av]
  rw [ni0_c2_s5, ni0_c10 (X := X) (d := d + 1)]
  simp only [Option.bind_some, pm_av]
  rw [ni0_c2_s6]
abbrev ni0_m17 (al : List Nat) (D : Nat → Bool) (I : Nat → Nat → Int32) (L : Nat → Nat → Int64) : pm_M := (al ++ [120] ++ [121] ++ [122] ++ [123] ++ [124] ++ [125] ++ [126] ++ [127] ++ [128] ++ [129] ++ [130] ++ [131] ++ [137] ++ [138] ++ [139] ++ [140] ++ [145] ++ [146] ++ [147] ++ [132] ++ [133] ++ [134] ++ [135] ++ [136] ++ [141] ++ [142] ++ [143] ++ [144] ++ [148] ++ [149] ++ [150], pm_set (pm_set (pm_set (pm_set (pm_set (pm_set (pm_set (pm_set (pm_set (pm_set (pm_set (pm_set (pm_set (pm_set (pm_set (pm_set (pm_set (pm_set (pm_set (pm_set (pm_set (pm_set (pm_set (pm_set (pm_set (pm_set (pm_set (pm_set (pm_set (pm_set (pm_set (pm_dB (pm_fb 0 D)) 120) 121) 122) 123) 124) 125) 126) 127) 128) 129) 130) 131) 137) 138) 139) 140) 145) 146) 147) 132) 133) 134) 135) 136) 141) 142) 143) 144) 148) 149) 150, pm_up (pm_up (pm_up (pm_up (pm_up (pm_up (pm_up (pm_up (pm_up (pm_up (pm_up (pm_up (pm_up (pm_up (pm_up (pm_up (pm_up (pm_up (pm_up (pm_up (pm_up (pm_up (pm_up (pm_up (pm_up (pm_up (pm_up (pm_up (pm_up (pm_up (pm_up (pm_dM (pm_fb 0 D)) 120 0 121) 120 4 122) 120 5 123) 120 6 124) 120 7 125) 120 8 126) 127 5 128) 127 6 129) 127 7 130) 127 8 131) 123 0 127) 137 1 138) 137 2 139) 137 3 140) 124 0 137) 145 1 146) 145 2 147) 126 0 145) 132 5 133) 132 6 134) 132 7 135) 132 8 136) 123 1 132) 141 1 142) 141 2 143) 141 3 144) 124 1 141) 148 1 149) 148 2 150) 126 1 148) 33 0 120, pm_up (pm_up (pm_up (pm_up (pm_up (pm_up (pm_up (pm_up (pm_up (pm_up (pm_up (pm_up (pm_up (pm_up (pm_up (pm_up (pm_up (I) 120 1 0) 120 2 0) 120 3 (-1)) 127 0 20) 127 1 1) 127 2 5) 127 3 6) 127 4 0) 137 0 0) 145 0 0) 132 0 20) 132 1 1) 132 2 5) 132 3 6) 132 4 0) 141 0 0) 148 0 0, L)
set_option maxRecDepth 20000 in
theorem ni0_s0 {X : Nat × (Nat → Int32)} {d : Nat} (al : List Nat) (D : Nat → Bool) (I : Nat → Nat → Int32) (L : Nat → Nat → Int64) : Rn X d co_Ch_image (0, [some (vr 1), some (vi 0)], [], (ni0_m0 al D I L)) = ((Cl X d 92 [vr 120] (ni0_m1 al D I L)).bind pm_av).bind (fun r => Rn X d co_Ch_image (32, [some (vr 1), some (vi 0)], [vr 120, vi 0, vr 33], r)) := (Sg_eq X d co_Ch_image (fun p => Nat.beq p 32) 16 _).trans rfl
set_option maxRecDepth 20000 in
theorem ni0_s1 {X : Nat × (Nat → Int32)} {d : Nat} (al : List Nat) (D : Nat → Bool) (I : Nat → Nat → Int32) (L : Nat → Nat → Int64) : Rn X d co_Ch_image (32, [some (vr 1), some (vi 0)], [vr 120, vi 0, vr 33], (ni0_m16 al D I L)) = Rn X d co_Ch_image (33, [some (vr 1), some (vi 0)], [], (ni0_m17 al D I L)) := (Sg_eq X d co_Ch_image (fun p => Nat.beq p 33) 1 _).trans rfl
theorem ni0 {X : Nat × (Nat → Int32)} {d : Nat} (al : List Nat) (D : Nat → Bool) (I : Nat → Nat → Int32) (L : Nat → Nat → Int64) : Rn X (d + 3) co_Ch_image (0, [some (vr 1), some (vi 0)], [], (ni0_m0 al D I L)) = Rn X (d + 3) co_Ch_image (33, [some (vr 1), some (vi 0)], [], (ni0_m17 al D I L)) := by
  rw [ni0_s0, ni0_c2 (X := X) (d := d)]
  simp only [Option.bind_some, pm_av]
  rw [ni0_s1]
theorem niA_0 (D : Nat → Bool) : pm_set (pm_set (pm_set (pm_set (pm_set (pm_set (pm_set (pm_set (pm_set (pm_set (pm_set (pm_set (pm_set (pm_set (pm_set (pm_set (pm_set (pm_set (pm_set (pm_set (pm_set (pm_set (pm_set (pm_set (pm_set (pm_set (pm_set (pm_set (pm_set (pm_set (pm_set (pm_dB (pm_fb 0 D)) 120) 121) 122) 123) 124) 125) 126) 127) 128) 129) 130) 131) 137) 138) 139) 140) 145) 146) 147) 132) 133) 134) 135) 136) 141) 142) 143) 144) 148) 149) 150 = pm_dB (pm_tb 0 D) := by
  funext a
  by_cases h0 : a = 150
  · subst h0; rfl
  by_cases h1 : a = 149
  · subst h1; rfl
  by_cases h2 : a = 148
  · subst h2; rfl
  by_cases h3 : a = 144
  · subst h3; rfl
  by_cases h4 : a = 143
  · subst h4; rfl
  by_cases h5 : a = 142
  · subst h5; rfl
  by_cases h6 : a = 141
  · subst h6; rfl
  by_cases h7 : a = 136
  · subst h7; rfl
  by_cases h8 : a = 135
  · subst h8; rfl
  by_cases h9 : a = 134
  · subst h9; rfl
  by_cases h10 : a = 133
  · subst h10; rfl
  by_cases h11 : a = 132
  · subst h11; rfl
  by_cases h12 : a = 147
  · subst h12; rfl
  by_cases h13 : a = 146
  · subst h13; rfl
  by_cases h14 : a = 145
  · subst h14; rfl
  by_cases h15 : a = 140
  · subst h15; rfl
  by_cases h16 : a = 139
  · subst h16; rfl
  by_cases h17 : a = 138
  · subst h17; rfl
  by_cases h18 : a = 137
  · subst h18; rfl
  by_cases h19 : a = 131
  · subst h19; rfl
  by_cases h20 : a = 130
  · subst h20; rfl
  by_cases h21 : a = 129
  · subst h21; rfl
  by_cases h22 : a = 128
  · subst h22; rfl
  by_cases h23 : a = 127
  · subst h23; rfl
  by_cases h24 : a = 126
  · subst h24; rfl
  by_cases h25 : a = 125
  · subst h25; rfl
  by_cases h26 : a = 124
  · subst h26; rfl
  by_cases h27 : a = 123
  · subst h27; rfl
  by_cases h28 : a = 122
  · subst h28; rfl
  by_cases h29 : a = 121
  · subst h29; rfl
  by_cases h30 : a = 120
  · subst h30; rfl
  rw [set_ne h0, set_ne h1, set_ne h2, set_ne h3, set_ne h4, set_ne h5, set_ne h6, set_ne h7, set_ne h8, set_ne h9, set_ne h10, set_ne h11, set_ne h12, set_ne h13, set_ne h14, set_ne h15, set_ne h16, set_ne h17, set_ne h18, set_ne h19, set_ne h20, set_ne h21, set_ne h22, set_ne h23, set_ne h24, set_ne h25, set_ne h26, set_ne h27, set_ne h28, set_ne h29, set_ne h30]
  unfold pm_dB
  repeat' (first | with_reducible rfl | (exfalso; omega) | refine cnb (fun _ => ?_) (fun _ => ?_) | rfl)
theorem niN_0 (D : Nat → Bool) : pm_up (pm_up (pm_up (pm_up (pm_up (pm_up (pm_up (pm_up (pm_up (pm_up (pm_up (pm_up (pm_up (pm_up (pm_up (pm_up (pm_up (pm_up (pm_up (pm_up (pm_up (pm_up (pm_up (pm_up (pm_up (pm_up (pm_up (pm_up (pm_up (pm_up (pm_up (pm_dM (pm_fb 0 D)) 120 0 121) 120 4 122) 120 5 123) 120 6 124) 120 7 125) 120 8 126) 127 5 128) 127 6 129) 127 7 130) 127 8 131) 123 0 127) 137 1 138) 137 2 139) 137 3 140) 124 0 137) 145 1 146) 145 2 147) 126 0 145) 132 5 133) 132 6 134) 132 7 135) 132 8 136) 123 1 132) 141 1 142) 141 2 143) 141 3 144) 124 1 141) 148 1 149) 148 2 150) 126 1 148) 33 0 120 = pm_dM (pm_tb 0 D) := by
  funext a j
  by_cases c0 : a = 120
  · subst c0
    by_cases j0 : j = 0
    · subst j0; rfl
    by_cases j1 : j = 4
    · subst j1; rfl
    by_cases j2 : j = 5
    · subst j2; rfl
    by_cases j3 : j = 6
    · subst j3; rfl
    by_cases j4 : j = 7
    · subst j4; rfl
    by_cases j5 : j = 8
    · subst j5; rfl
    rw [up_ne (by omega), up_ne (by omega), up_ne (by omega), up_ne (by omega), up_ne (by omega), up_ne (by omega), up_ne (by omega), up_ne (by omega), up_ne (by omega), up_ne (by omega), up_ne (by omega), up_ne (by omega), up_ne (by omega), up_ne (by omega), up_ne (by omega), up_ne (by omega), up_ne (by omega), up_ne (by omega), up_ne (by omega), up_ne (by omega), up_ne (by omega), up_ne (by omega), up_ne (by omega), up_ne (by omega), up_ne (by omega), up_ne (by omega), up_ne (by omega), up_ne (by omega), up_ne (by omega), up_ne (by omega), up_ne (by omega)]
    show 0 = pm_dN (pm_tb 0 D) 120 j
    refine Eq.symm ?_
    unfold pm_dN
    repeat' (first | rfl | (exfalso; omega) | refine cz0b (fun _ => ?_) (fun _ => ?_) | refine cz0e (fun _ => ?_) (fun _ => ?_))
  by_cases c1 : a = 121
  · subst c1
    rw [up_ne (by omega), up_ne (by omega), up_ne (by omega), up_ne (by omega), up_ne (by omega), up_ne (by omega), up_ne (by omega), up_ne (by omega), up_ne (by omega), up_ne (by omega), up_ne (by omega), up_ne (by omega), up_ne (by omega), up_ne (by omega), up_ne (by omega), up_ne (by omega), up_ne (by omega), up_ne (by omega), up_ne (by omega), up_ne (by omega), up_ne (by omega), up_ne (by omega), up_ne (by omega), up_ne (by omega), up_ne (by omega), up_ne (by omega), up_ne (by omega), up_ne (by omega), up_ne (by omega), up_ne (by omega), up_ne (by omega)]
    show 0 = pm_dN (pm_tb 0 D) 121 j
    refine Eq.symm ?_
    unfold pm_dN
    repeat' (first | rfl | (exfalso; omega) | refine cz0b (fun _ => ?_) (fun _ => ?_) | refine cz0e (fun _ => ?_) (fun _ => ?_))
  by_cases c2 : a = 122
  · subst c2
    rw [up_ne (by omega), up_ne (by omega), up_ne (by omega), up_ne (by omega), up_ne (by omega), up_ne (by omega), up_ne (by omega), up_ne (by omega), up_ne (by omega), up_ne (by omega), up_ne (by omega), up_ne (by omega), up_ne (by omega), up_ne (by omega), up_ne (by omega), up_ne (by omega), up_ne (by omega), up_ne (by omega), up_ne (by omega), up_ne (by omega), up_ne (by omega), up_ne (by omega), up_ne (by omega), up_ne (by omega), up_ne (by omega), up_ne (by omega), up_ne (by omega), up_ne (by omega), up_ne (by omega), up_ne (by omega), up_ne (by omega)]
    show 0 = pm_dN (pm_tb 0 D) 122 j
    refine Eq.symm ?_
    unfold pm_dN
    repeat' (first | rfl | (exfalso; omega) | refine cz0b (fun _ => ?_) (fun _ => ?_) | refine cz0e (fun _ => ?_) (fun _ => ?_))
  by_cases c3 : a = 123
  · subst c3
    by_cases j0 : j = 0
    · subst j0; rfl
    by_cases j1 : j = 1
    · subst j1; rfl
    rw [up_ne (by omega), up_ne (by omega), up_ne (by omega), up_ne (by omega), up_ne (by omega), up_ne (by omega), up_ne (by omega), up_ne (by omega), up_ne (by omega), up_ne (by omega), up_ne (by omega), up_ne (by omega), up_ne (by omega), up_ne (by omega), up_ne (by omega), up_ne (by omega), up_ne (by omega), up_ne (by omega), up_ne (by omega), up_ne (by omega), up_ne (by omega), up_ne (by omega), up_ne (by omega), up_ne (by omega), up_ne (by omega), up_ne (by omega), up_ne (by omega), up_ne (by omega), up_ne (by omega), up_ne (by omega), up_ne (by omega)]
    show 0 = pm_dN (pm_tb 0 D) 123 j
    refine Eq.symm ?_
    unfold pm_dN
    repeat' (first | rfl | (exfalso; omega) | refine cz0b (fun _ => ?_) (fun _ => ?_) | refine cz0e (fun _ => ?_) (fun _ => ?_))
  by_cases c4 : a = 124
  · subst c4
    by_cases j0 : j = 0
    · subst j0; rfl
    by_cases j1 : j = 1
    · subst j1; rfl
    rw [up_ne (by omega), up_ne (by omega), up_ne (by omega), up_ne (by omega), up_ne (by omega), up_ne (by omega), up_ne (by omega), up_ne (by omega), up_ne (by omega), up_ne (by omega), up_ne (by omega), up_ne (by omega), up_ne (by omega), up_ne (by omega), up_ne (by omega), up_ne (by omega), up_ne (by omega), up_ne (by omega), up_ne (by omega), up_ne (by omega), up_ne (by omega), up_ne (by omega), up_ne (by omega), up_ne (by omega), up_ne (by omega), up_ne (by omega), up_ne (by omega), up_ne (by omega), up_ne (by omega), up_ne (by omega), up_ne (by omega)]
    show 0 = pm_dN (pm_tb 0 D) 124 j
    refine Eq.symm ?_
    unfold pm_dN
    repeat' (first | rfl | (exfalso; omega) | refine cz0b (fun _ => ?_) (fun _ => ?_) | refine cz0e (fun _ => ?_) (fun _ => ?_))
  by_cases c5 : a = 125
  · subst c5
    rw [up_ne (by omega), up_ne (by omega), up_ne (by omega), up_ne (by omega), up_ne (by omega), up_ne (by omega), up_ne (by omega), up_ne (by omega), up_ne (by omega), up_ne (by omega), up_ne (by omega), up_ne (by omega), up_ne (by omega), up_ne (by omega), up_ne (by omega), up_ne (by omega), up_ne (by omega), up_ne (by omega), up_ne (by omega), up_ne (by omega), up_ne (by omega), up_ne (by omega), up_ne (by omega), up_ne (by omega), up_ne (by omega), up_ne (by omega), up_ne (by omega), up_ne (by omega), up_ne (by omega), up_ne (by omega), up_ne (by omega)]
    show 0 = pm_dN (pm_tb 0 D) 125 j
    refine Eq.symm ?_
    unfold pm_dN
    repeat' (first | rfl | (exfalso; omega) | refine cz0b (fun _ => ?_) (fun _ => ?_) | refine cz0e (fun _ => ?_) (fun _ => ?_))
  by_cases c6 : a = 126
  · subst c6
    by_cases j0 : j = 0
    · subst j0; rfl
    by_cases j1 : j = 1
    · subst j1; rfl
    rw [up_ne (by omega), up_ne (by omega), up_ne (by omega), up_ne (by omega), up_ne (by omega), up_ne (by omega), up_ne (by omega), up_ne (by omega), up_ne (by omega), up_ne (by omega), up_ne (by omega), up_ne (by omega), up_ne (by omega), up_ne (by omega), up_ne (by omega), up_ne (by omega), up_ne (by omega), up_ne (by omega), up_ne (by omega), up_ne (by omega), up_ne (by omega), up_ne (by omega), up_ne (by omega), up_ne (by omega), up_ne (by omega), up_ne (by omega), up_ne (by omega), up_ne (by omega), up_ne (by omega), up_ne (by omega), up_ne (by omega)]
    show 0 = pm_dN (pm_tb 0 D) 126 j
    refine Eq.symm ?_
    unfold pm_dN
    repeat' (first | rfl | (exfalso; omega) | refine cz0b (fun _ => ?_) (fun _ => ?_) | refine cz0e (fun _ => ?_) (fun _ => ?_))
  by_cases c7 : a = 127
  · subst c7
    by_cases j0 : j = 5
    · subst j0; rfl
    by_cases j1 : j = 6
    · subst j1; rfl
    by_cases j2 : j = 7
    · subst j2; rfl
    by_cases j3 : j = 8
    · subst j3; rfl
    rw [up_ne (by omega), up_ne (by omega), up_ne (by omega), up_ne (by omega), up_ne (by omega), up_ne (by omega), up_ne (by omega), up_ne (by omega), up_ne (by omega), up_ne (by omega), up_ne (by omega), up_ne (by omega), up_ne (by omega), up_ne (by omega), up_ne (by omega), up_ne (by omega), up_ne (by omega), up_ne (by omega), up_ne (by omega), up_ne (by omega), up_ne (by omega), up_ne (by omega), up_ne (by omega), up_ne (by omega), up_ne (by omega), up_ne (by omega), up_ne (by omega), up_ne (by omega), up_ne (by omega), up_ne (by omega), up_ne (by omega)]
    show 0 = pm_dN (pm_tb 0 D) 127 j
    refine Eq.symm ?_
    unfold pm_dN
    repeat' (first | rfl | (exfalso; omega) | refine cz0b (fun _ => ?_) (fun _ => ?_) | refine cz0e (fun _ => ?_) (fun _ => ?_))
  by_cases c8 : a = 128
  · subst c8
    rw [up_ne (by omega), up_ne (by omega), up_ne (by omega), up_ne (by omega), up_ne (by omega), up_ne (by omega), up_ne (by omega), up_ne (by omega), up_ne (by omega), up_ne (by omega), up_ne (by omega), up_ne (by omega), up_ne (by omega), up_ne (by omega), up_ne (by omega), up_ne (by omega), up_ne (by omega), up_ne (by omega), up_ne (by omega), up_ne (by omega), up_ne (by omega), up_ne (by omega), up_ne (by omega), up_ne (by omega), up_ne (by omega), up_ne (by omega), up_ne (by omega), up_ne (by omega), up_ne (by omega), up_ne (by omega), up_ne (by omega)]
    show 0 = pm_dN (pm_tb 0 D) 128 j
    refine Eq.symm ?_
    unfold pm_dN
    repeat' (first | rfl | (exfalso; omega) | refine cz0b (fun _ => ?_) (fun _ => ?_) | refine cz0e (fun _ => ?_) (fun _ => ?_))
  by_cases c9 : a = 129
  · subst c9
    rw [up_ne (by omega), up_ne (by omega), up_ne (by omega), up_ne (by omega), up_ne (by omega), up_ne (by omega), up_ne (by omega), up_ne (by omega), up_ne (by omega), up_ne (by omega), up_ne (by omega), up_ne (by omega), up_ne (by omega), up_ne (by omega), up_ne (by omega), up_ne (by omega), up_ne (by omega), up_ne (by omega), up_ne (by omega), up_ne (by omega), up_ne (by omega), up_ne (by omega), up_ne (by omega), up_ne (by omega), up_ne (by omega), up_ne (by omega), up_ne (by omega), up_ne (by omega), up_ne (by omega), up_ne (by omega), up_ne (by omega)]
    show 0 = pm_dN (pm_tb 0 D) 129 j
    refine Eq.symm ?_
    unfold pm_dN
    repeat' (first | rfl | (exfalso; omega) | refine cz0b (fun _ => ?_) (fun _ => ?_) | refine cz0e (fun _ => ?_) (fun _ => ?_))
  by_cases c10 : a = 130
  · subst c10
    rw [up_ne (by omega), up_ne (by omega), up_ne (by omega), up_ne (by omega), up_ne (by omega), up_ne (by omega), up_ne (by omega), up_ne (by omega), up_ne (by omega), up_ne (by omega), up_ne (by omega), up_ne (by omega), up_ne (by omega), up_ne (by omega), up_ne (by omega), up_ne (by omega), up_ne (by omega), up_ne (by omega), up_ne (by omega), up_ne (by omega), up_ne (by omega), up_ne (by omega), up_ne (by omega), up_ne (by omega), up_ne (by omega), up_ne (by omega), up_ne (by omega), up_ne (by omega), up_ne (by omega), up_ne (by omega), up_ne (by omega)]
    show 0 = pm_dN (pm_tb 0 D) 130 j
    refine Eq.symm ?_
    unfold pm_dN
    repeat' (first | rfl | (exfalso; omega) | refine cz0b (fun _ => ?_) (fun _ => ?_) | refine cz0e (fun _ => ?_) (fun _ => ?_))
  by_cases c11 : a = 131
  · subst c11
    rw [up_ne (by omega), up_ne (by omega), up_ne (by omega), up_ne (by omega), up_ne (by omega), up_ne (by omega), up_ne (by omega), up_ne (by omega), up_ne (by omega), up_ne (by omega), up_ne (by omega), up_ne (by omega), up_ne (by omega), up_ne (by omega), up_ne (by omega), up_ne (by omega), up_ne (by omega), up_ne (by omega), up_ne (by omega), up_ne (by omega), up_ne (by omega), up_ne (by omega), up_ne (by omega), up_ne (by omega), up_ne (by omega), up_ne (by omega), up_ne (by omega), up_ne (by omega), up_ne (by omega), up_ne (by omega), up_ne (by omega)]
    show 0 = pm_dN (pm_tb 0 D) 131 j
    refine Eq.symm ?_
    unfold pm_dN
    repeat' (first | rfl | (exfalso; omega) | refine cz0b (fun _ => ?_) (fun _ => ?_) | refine cz0e (fun _ => ?_) (fun _ => ?_))
  by_cases c12 : a = 132
  · subst c12
    by_cases j0 : j = 5
    · subst j0; rfl
    by_cases j1 : j = 6
    · subst j1; rfl
    by_cases j2 : j = 7
    · subst j2; rfl
    by_cases j3 : j = 8
    · subst j3; rfl
    rw [up_ne (by omega), up_ne (by omega), up_ne (by omega), up_ne (by omega), up_ne (by omega), up_ne (by omega), up_ne (by omega), up_ne (by omega), up_ne (by omega), up_ne (by omega), up_ne (by omega), up_ne (by omega), up_ne (by omega), up_ne (by omega), up_ne (by omega), up_ne (by omega), up_ne (by omega), up_ne (by omega), up_ne (by omega), up_ne (by omega), up_ne (by omega), up_ne (by omega), up_ne (by omega), up_ne (by omega), up_ne (by omega), up_ne (by omega), up_ne (by omega), up_ne (by omega), up_ne (by omega), up_ne (by omega), up_ne (by omega)]
    show 0 = pm_dN (pm_tb 0 D) 132 j
    refine Eq.symm ?_
    unfold pm_dN
    repeat' (first | rfl | (exfalso; omega) | refine cz0b (fun _ => ?_) (fun _ => ?_) | refine cz0e (fun _ => ?_) (fun _ => ?_))
  by_cases c13 : a = 133
  · subst c13
    rw [up_ne (by omega), up_ne (by omega), up_ne (by omega), up_ne (by omega), up_ne (by omega), up_ne (by omega), up_ne (by omega), up_ne (by omega), up_ne (by omega), up_ne (by omega), up_ne (by omega), up_ne (by omega), up_ne (by omega), up_ne (by omega), up_ne (by omega), up_ne (by omega), up_ne (by omega), up_ne (by omega), up_ne (by omega), up_ne (by omega), up_ne (by omega), up_ne (by omega), up_ne (by omega), up_ne (by omega), up_ne (by omega), up_ne (by omega), up_ne (by omega), up_ne (by omega), up_ne (by omega), up_ne (by omega), up_ne (by omega)]
    show 0 = pm_dN (pm_tb 0 D) 133 j
    refine Eq.symm ?_
    unfold pm_dN
    repeat' (first | rfl | (exfalso; omega) | refine cz0b (fun _ => ?_) (fun _ => ?_) | refine cz0e (fun _ => ?_) (fun _ => ?_))
  by_cases c14 : a = 134
  · subst c14
    rw [up_ne (by omega), up_ne (by omega), up_ne (by omega), up_ne (by omega), up_ne (by omega), up_ne (by omega), up_ne (by omega), up_ne (by omega), up_ne (by omega), up_ne (by omega), up_ne (by omega), up_ne (by omega), up_ne (by omega), up_ne (by omega), up_ne (by omega), up_ne (by omega), up_ne (by omega), up_ne (by omega), up_ne (by omega), up_ne (by omega), up_ne (by omega), up_ne (by omega), up_ne (by omega), up_ne (by omega), up_ne (by omega), up_ne (by omega), up_ne (by omega), up_ne (by omega), up_ne (by omega), up_ne (by omega), up_ne (by omega)]
    show 0 = pm_dN (pm_tb 0 D) 134 j
    refine Eq.symm ?_
    unfold pm_dN
    repeat' (first | rfl | (exfalso; omega) | refine cz0b (fun _ => ?_) (fun _ => ?_) | refine cz0e (fun _ => ?_) (fun _ => ?_))
  by_cases c15 : a = 135
  · subst c15
    rw [up_ne (by omega), up_ne (by omega), up_ne (by omega), up_ne (by omega), up_ne (by omega), up_ne (by omega), up_ne (by omega), up_ne (by omega), up_ne (by omega), up_ne (by omega), up_ne (by omega), up_ne (by omega), up_ne (by omega), up_ne (by omega), up_ne (by omega), up_ne (by omega), up_ne (by omega), up_ne (by omega), up_ne (by omega), up_ne (by omega), up_ne (by omega), up_ne (by omega), up_ne (by omega), up_ne (by omega), up_ne (by omega), up_ne (by omega), up_ne (by omega), up_ne (by omega), up_ne (by omega), up_ne (by omega), up_ne (by omega)]
    show 0 = pm_dN (pm_tb 0 D) 135 j
    refine Eq.symm ?_
    unfold pm_dN
    repeat' (first | rfl | (exfalso; omega) | refine cz0b (fun _ => ?_) (fun _ => ?_) | refine cz0e (fun _ => ?_) (fun _ => ?_))
  by_cases c16 : a = 136
  · subst c16
    rw [up_ne (by omega), up_ne (by omega), up_ne (by omega), up_ne (by omega), up_ne (by omega), up_ne (by omega), up_ne (by omega), up_ne (by omega), up_ne (by omega), up_ne (by omega), up_ne (by omega), up_ne (by omega), up_ne (by omega), up_ne (by omega), up_ne (by omega), up_ne (by omega), up_ne (by omega), up_ne (by omega), up_ne (by omega), up_ne (by omega), up_ne (by omega), up_ne (by omega), up_ne (by omega), up_ne (by omega), up_ne (by omega), up_ne (by omega), up_ne (by omega), up_ne (by omega), up_ne (by omega), up_ne (by omega), up_ne (by omega)]
    show 0 = pm_dN (pm_tb 0 D) 136 j
    refine Eq.symm ?_
    unfold pm_dN
    repeat' (first | rfl | (exfalso; omega) | refine cz0b (fun _ => ?_) (fun _ => ?_) | refine cz0e (fun _ => ?_) (fun _ => ?_))
  by_cases c17 : a = 137
  · subst c17
    by_cases j0 : j = 1
    · subst j0; rfl
    by_cases j1 : j = 2
    · subst j1; rfl
    by_cases j2 : j = 3
    · subst j2; rfl
    rw [up_ne (by omega), up_ne (by omega), up_ne (by omega), up_ne (by omega), up_ne (by omega), up_ne (by omega), up_ne (by omega), up_ne (by omega), up_ne (by omega), up_ne (by omega), up_ne (by omega), up_ne (by omega), up_ne (by omega), up_ne (by omega), up_ne (by omega), up_ne (by omega), up_ne (by omega), up_ne (by omega), up_ne (by omega), up_ne (by omega), up_ne (by omega), up_ne (by omega), up_ne (by omega), up_ne (by omega), up_ne (by omega), up_ne (by omega), up_ne (by omega), up_ne (by omega), up_ne (by omega), up_ne (by omega), up_ne (by omega)]
    show 0 = pm_dN (pm_tb 0 D) 137 j
    refine Eq.symm ?_
    unfold pm_dN
    repeat' (first | rfl | (exfalso; omega) | refine cz0b (fun _ => ?_) (fun _ => ?_) | refine cz0e (fun _ => ?_) (fun _ => ?_))
  by_cases c18 : a = 138
  · subst c18
    rw [up_ne (by omega), up_ne (by omega), up_ne (by omega), up_ne (by omega), up_ne (by omega), up_ne (by omega), up_ne (by omega), up_ne (by omega), up_ne (by omega), up_ne (by omega), up_ne (by omega), up_ne (by omega), up_ne (by omega), up_ne (by omega), up_ne (by omega), up_ne (by omega), up_ne (by omega), up_ne (by omega), up_ne (by omega), up_ne (by omega), up_ne (by omega), up_ne (by omega), up_ne (by omega), up_ne (by omega), up_ne (by omega), up_ne (by omega), up_ne (by omega), up_ne (by omega), up_ne (by omega), up_ne (by omega), up_ne (by omega)]
    show 0 = pm_dN (pm_tb 0 D) 138 j
    refine Eq.symm ?_
    unfold pm_dN
    repeat' (first | rfl | (exfalso; omega) | refine cz0b (fun _ => ?_) (fun _ => ?_) | refine cz0e (fun _ => ?_) (fun _ => ?_))
  by_cases c19 : a = 139
  · subst c19
    rw [up_ne (by omega), up_ne (by omega), up_ne (by omega), up_ne (by omega), up_ne (by omega), up_ne (by omega), up_ne (by omega), up_ne (by omega), up_ne (by omega), up_ne (by omega), up_ne (by omega), up_ne (by omega), up_ne (by omega), up_ne (by omega), up_ne (by omega), up_ne (by omega), up_ne (by omega), up_ne (by omega), up_ne (by omega), up_ne (by omega), up_ne (by omega), up_ne (by omega), up_ne (by omega), up_ne (by omega), up_ne (by omega), up_ne (by omega), up_ne (by omega), up_ne (by omega), up_ne (by omega), up_ne (by omega), up_ne (by omega)]
    show 0 = pm_dN (pm_tb 0 D) 139 j
    refine Eq.symm ?_
    unfold pm_dN
    repeat' (first | rfl | (exfalso; omega) | refine cz0b (fun _ => ?_) (fun _ => ?_) | refine cz0e (fun _ => ?_) (fun _ => ?_))
  by_cases c20 : a = 140
  · subst c20
    rw [up_ne (by omega), up_ne (by omega), up_ne (by omega), up_ne (by omega), up_ne (by omega), up_ne (by omega), up_ne (by omega), up_ne (by omega), up_ne (by omega), up_ne (by omega), up_ne (by omega), up_ne (by omega), up_ne (by omega), up_ne (by omega), up_ne (by omega), up_ne (by omega), up_ne (by omega), up_ne (by omega), up_ne (by omega), up_ne (by omega), up_ne (by omega), up_ne (by omega), up_ne (by omega), up_ne (by omega), up_ne (by omega), up_ne (by omega), up_ne (by omega), up_ne (by omega), up_ne (by omega), up_ne (by omega), up_ne (by omega)]
    show 0 = pm_dN (pm_tb 0 D) 140 j
    refine Eq.symm ?_
    unfold pm_dN
    repeat' (first | rfl | (exfalso; omega) | refine cz0b (fun _ => ?_) (fun _ => ?_) | refine cz0e (fun _ => ?_) (fun _ => ?_))
  by_cases c21 : a = 141
  · subst c21
    by_cases j0 : j = 1
    · subst j0; rfl
    by_cases j1 : j = 2
    · subst j1; rfl
    by_cases j2 : j = 3
    · subst j2; rfl
    rw [up_ne (by omega), up_ne (by omega), up_ne (by omega), up_ne (by omega), up_ne (by omega), up_ne (by omega), up_ne (by omega), up_ne (by omega), up_ne (by omega), up_ne (by omega), up_ne (by omega), up_ne (by omega), up_ne (by omega), up_ne (by omega), up_ne (by omega), up_ne (by omega), up_ne (by omega), up_ne (by omega), up_ne (by omega), up_ne (by omega), up_ne (by omega), up_ne (by omega), up_ne (by omega), up_ne (by omega), up_ne (by omega), up_ne (by omega), up_ne (by omega), up_ne (by omega), up_ne (by omega), up_ne (by omega), up_ne (by omega)]
    show 0 = pm_dN (pm_tb 0 D) 141 j
    refine Eq.symm ?_
    unfold pm_dN
    repeat' (first | rfl | (exfalso; omega) | refine cz0b (fun _ => ?_) (fun _ => ?_) | refine cz0e (fun _ => ?_) (fun _ => ?_))
  by_cases c22 : a = 142
  · subst c22
    rw [up_ne (by omega), up_ne (by omega), up_ne (by omega), up_ne (by omega), up_ne (by omega), up_ne (by omega), up_ne (by omega), up_ne (by omega), up_ne (by omega), up_ne (by omega), up_ne (by omega), up_ne (by omega), up_ne (by omega), up_ne (by omega), up_ne (by omega), up_ne (by omega), up_ne (by omega), up_ne (by omega), up_ne (by omega), up_ne (by omega), up_ne (by omega), up_ne (by omega), up_ne (by omega), up_ne (by omega), up_ne (by omega), up_ne (by omega), up_ne (by omega), up_ne (by omega), up_ne (by omega), up_ne (by omega), up_ne (by omega)]
    show 0 = pm_dN (pm_tb 0 D) 142 j
    refine Eq.symm ?_
    unfold pm_dN
    repeat' (first | rfl | (exfalso; omega) | refine cz0b (fun _ => ?_) (fun _ => ?_) | refine cz0e (fun _ => ?_) (fun _ => ?_))
  by_cases c23 : a = 143
  · subst c23
    rw [up_ne (by omega), up_ne (by omega), up_ne (by omega), up_ne (by omega), up_ne (by omega), up_ne (by omega), up_ne (by omega), up_ne (by omega), up_ne (by omega), up_ne (by omega), up_ne (by omega), up_ne (by omega), up_ne (by omega), up_ne (by omega), up_ne (by omega), up_ne (by omega), up_ne (by omega), up_ne (by omega), up_ne (by omega), up_ne (by omega), up_ne (by omega), up_ne (by omega), up_ne (by omega), up_ne (by omega), up_ne (by omega), up_ne (by omega), up_ne (by omega), up_ne (by omega), up_ne (by omega), up_ne (by omega), up_ne (by omega)]
    show 0 = pm_dN (pm_tb 0 D) 143 j
    refine Eq.symm ?_
    unfold pm_dN
    repeat' (first | rfl | (exfalso; omega) | refine cz0b (fun _ => ?_) (fun _ => ?_) | refine cz0e (fun _ => ?_) (fun _ => ?_))
  by_cases c24 : a = 144
  · subst c24
    rw [up_ne (by omega), up_ne (by omega), up_ne (by omega), up_ne (by omega), up_ne (by omega), up_ne (by omega), up_ne (by omega), up_ne (by omega), up_ne (by omega), up_ne (by omega), up_ne (by omega), up_ne (by omega), up_ne (by omega), up_ne (by omega), up_ne (by omega), up_ne (by omega), up_ne (by omega), up_ne (by omega), up_ne (by omega), up_ne (by omega), up_ne (by omega), up_ne (by omega), up_ne (by omega), up_ne (by omega), up_ne (by omega), up_ne (by omega), up_ne (by omega), up_ne (by omega), up_ne (by omega), up_ne (by omega), up_ne (by omega)]
    show 0 = pm_dN (pm_tb 0 D) 144 j
    refine Eq.symm ?_
    unfold pm_dN
    repeat' (first | rfl | (exfalso; omega) | refine cz0b (fun _ => ?_) (fun _ => ?_) | refine cz0e (fun _ => ?_) (fun _ => ?_))
  by_cases c25 : a = 145
  · subst c25
    by_cases j0 : j = 1
    · subst j0; rfl
    by_cases j1 : j = 2
    · subst j1; rfl
    rw [up_ne (by omega), up_ne (by omega), up_ne (by omega), up_ne (by omega), up_ne (by omega), up_ne (by omega), up_ne (by omega), up_ne (by omega), up_ne (by omega), up_ne (by omega), up_ne (by omega), up_ne (by omega), up_ne (by omega), up_ne (by omega), up_ne (by omega), up_ne (by omega), up_ne (by omega), up_ne (by omega), up_ne (by omega), up_ne (by omega), up_ne (by omega), up_ne (by omega), up_ne (by omega), up_ne (by omega), up_ne (by omega), up_ne (by omega), up_ne (by omega), up_ne (by omega), up_ne (by omega), up_ne (by omega), up_ne (by omega)]
    show 0 = pm_dN (pm_tb 0 D) 145 j
    refine Eq.symm ?_
    unfold pm_dN
    repeat' (first | rfl | (exfalso; omega) | refine cz0b (fun _ => ?_) (fun _ => ?_) | refine cz0e (fun _ => ?_) (fun _ => ?_))
  by_cases c26 : a = 146
  · subst c26
    rw [up_ne (by omega), up_ne (by omega), up_ne (by omega), up_ne (by omega), up_ne (by omega), up_ne (by omega), up_ne (by omega), up_ne (by omega), up_ne (by omega), up_ne (by omega), up_ne (by omega), up_ne (by omega), up_ne (by omega), up_ne (by omega), up_ne (by omega), up_ne (by omega), up_ne (by omega), up_ne (by omega), up_ne (by omega), up_ne (by omega), up_ne (by omega), up_ne (by omega), up_ne (by omega), up_ne (by omega), up_ne (by omega), up_ne (by omega), up_ne (by omega), up_ne (by omega), up_ne (by omega), up_ne (by omega), up_ne (by omega)]
    show 0 = pm_dN (pm_tb 0 D) 146 j
    refine Eq.symm ?_
    unfold pm_dN
    repeat' (first | rfl | (exfalso; omega) | refine cz0b (fun _ => ?_) (fun _ => ?_) | refine cz0e (fun _ => ?_) (fun _ => ?_))
  by_cases c27 : a = 147
  · subst c27
    rw [up_ne (by omega), up_ne (by omega), up_ne (by omega), up_ne (by omega), up_ne (by omega), up_ne (by omega), up_ne (by omega), up_ne (by omega), up_ne (by omega), up_ne (by omega), up_ne (by omega), up_ne (by omega), up_ne (by omega), up_ne (by omega), up_ne (by omega), up_ne (by omega), up_ne (by omega), up_ne (by omega), up_ne (by omega), up_ne (by omega), up_ne (by omega), up_ne (by omega), up_ne (by omega), up_ne (by omega), up_ne (by omega), up_ne (by omega), up_ne (by omega), up_ne (by omega), up_ne (by omega), up_ne (by omega), up_ne (by omega)]
    show 0 = pm_dN (pm_tb 0 D) 147 j
    refine Eq.symm ?_
    unfold pm_dN
    repeat' (first | rfl | (exfalso; omega) | refine cz0b (fun _ => ?_) (fun _ => ?_) | refine cz0e (fun _ => ?_) (fun _ => ?_))
  by_cases c28 : a = 148
  · subst c28
    by_cases j0 : j = 1
    · subst j0; rfl
    by_cases j1 : j = 2
    · subst j1; rfl
    rw [up_ne (by omega), up_ne (by omega), up_ne (by omega), up_ne (by omega), up_ne (by omega), up_ne (by omega), up_ne (by omega), up_ne (by omega), up_ne (by omega), up_ne (by omega), up_ne (by omega), up_ne (by omega), up_ne (by omega), up_ne (by omega), up_ne (by omega), up_ne (by omega), up_ne (by omega), up_ne (by omega), up_ne (by omega), up_ne (by omega), up_ne (by omega), up_ne (by omega), up_ne (by omega), up_ne (by omega), up_ne (by omega), up_ne (by omega), up_ne (by omega), up_ne (by omega), up_ne (by omega), up_ne (by omega), up_ne (by omega)]
    show 0 = pm_dN (pm_tb 0 D) 148 j
    refine Eq.symm ?_
    unfold pm_dN
    repeat' (first | rfl | (exfalso; omega) | refine cz0b (fun _ => ?_) (fun _ => ?_) | refine cz0e (fun _ => ?_) (fun _ => ?_))
  by_cases c29 : a = 149
  · subst c29
    rw [up_ne (by omega), up_ne (by omega), up_ne (by omega), up_ne (by omega), up_ne (by omega), up_ne (by omega), up_ne (by omega), up_ne (by omega), up_ne (by omega), up_ne (by omega), up_ne (by omega), up_ne (by omega), up_ne (by omega), up_ne (by omega), up_ne (by omega), up_ne (by omega), up_ne (by omega), up_ne (by omega), up_ne (by omega), up_ne (by omega), up_ne (by omega), up_ne (by omega), up_ne (by omega), up_ne (by omega), up_ne (by omega), up_ne (by omega), up_ne (by omega), up_ne (by omega), up_ne (by omega), up_ne (by omega), up_ne (by omega)]
    show 0 = pm_dN (pm_tb 0 D) 149 j
    refine Eq.symm ?_
    unfold pm_dN
    repeat' (first | rfl | (exfalso; omega) | refine cz0b (fun _ => ?_) (fun _ => ?_) | refine cz0e (fun _ => ?_) (fun _ => ?_))
  by_cases c30 : a = 150
  · subst c30
    rw [up_ne (by omega), up_ne (by omega), up_ne (by omega), up_ne (by omega), up_ne (by omega), up_ne (by omega), up_ne (by omega), up_ne (by omega), up_ne (by omega), up_ne (by omega), up_ne (by omega), up_ne (by omega), up_ne (by omega), up_ne (by omega), up_ne (by omega), up_ne (by omega), up_ne (by omega), up_ne (by omega), up_ne (by omega), up_ne (by omega), up_ne (by omega), up_ne (by omega), up_ne (by omega), up_ne (by omega), up_ne (by omega), up_ne (by omega), up_ne (by omega), up_ne (by omega), up_ne (by omega), up_ne (by omega), up_ne (by omega)]
    show 0 = pm_dN (pm_tb 0 D) 150 j
    refine Eq.symm ?_
    unfold pm_dN
    repeat' (first | rfl | (exfalso; omega) | refine cz0b (fun _ => ?_) (fun _ => ?_) | refine cz0e (fun _ => ?_) (fun _ => ?_))
  by_cases c31 : a = 33
  · subst c31
    by_cases j0 : j = 0
    · subst j0; rfl
    rw [up_ne (by omega), up_ne (by omega), up_ne (by omega), up_ne (by omega), up_ne (by omega), up_ne (by omega), up_ne (by omega), up_ne (by omega), up_ne (by omega), up_ne (by omega), up_ne (by omega), up_ne (by omega), up_ne (by omega), up_ne (by omega), up_ne (by omega), up_ne (by omega), up_ne (by omega), up_ne (by omega), up_ne (by omega), up_ne (by omega), up_ne (by omega), up_ne (by omega), up_ne (by omega), up_ne (by omega), up_ne (by omega), up_ne (by omega), up_ne (by omega), up_ne (by omega), up_ne (by omega), up_ne (by omega), up_ne (by omega)]
    show pm_dN (pm_fb 0 D) 33 j = pm_dN (pm_tb 0 D) 33 j
    unfold pm_dN
    repeat' (first | with_reducible rfl | (exfalso; omega) | refine cnb (fun _ => ?_) (fun _ => ?_) | refine cne (fun _ => ?_) (fun _ => ?_) | rfl)
  rw [up_ne (fun e => c31 e.1), up_ne (fun e => c6 e.1), up_ne (fun e => c28 e.1), up_ne (fun e => c28 e.1), up_ne (fun e => c4 e.1), up_ne (fun e => c21 e.1), up_ne (fun e => c21 e.1), up_ne (fun e => c21 e.1), up_ne (fun e => c3 e.1), up_ne (fun e => c12 e.1), up_ne (fun e => c12 e.1), up_ne (fun e => c12 e.1), up_ne (fun e => c12 e.1), up_ne (fun e => c6 e.1), up_ne (fun e => c25 e.1), up_ne (fun e => c25 e.1), up_ne (fun e => c4 e.1), up_ne (fun e => c17 e.1), up_ne (fun e => c17 e.1), up_ne (fun e => c17 e.1), up_ne (fun e => c3 e.1), up_ne (fun e => c7 e.1), up_ne (fun e => c7 e.1), up_ne (fun e => c7 e.1), up_ne (fun e => c7 e.1), up_ne (fun e => c0 e.1), up_ne (fun e => c0 e.1), up_ne (fun e => c0 e.1), up_ne (fun e => c0 e.1), up_ne (fun e => c0 e.1), up_ne (fun e => c0 e.1)]
  have eB : pm_dB (pm_fb 0 D) a = pm_dB (pm_tb 0 D) a := by
    unfold pm_dB
    repeat' (first | with_reducible rfl | (exfalso; omega) | refine cnb (fun _ => ?_) (fun _ => ?_) | rfl)
  have eN : pm_dN (pm_fb 0 D) a j = pm_dN (pm_tb 0 D) a j := by
    unfold pm_dN
    repeat' (first | with_reducible rfl | (exfalso; omega) | refine cnb (fun _ => ?_) (fun _ => ?_) | refine cne (fun _ => ?_) (fun _ => ?_) | rfl)
  rw [pm_dM, pm_dM, eB, eN]
def niI_0 (I : Nat → Nat → Int32) : Nat → Nat → Int32 := pm_up (pm_up (pm_up (pm_up (pm_up (pm_up (pm_up (pm_up (pm_up (pm_up (pm_up (pm_up (pm_up (pm_up (pm_up (pm_up (pm_up (I) 120 1 0) 120 2 0) 120 3 (-1)) 127 0 20) 127 1 1) 127 2 5) 127 3 6) 127 4 0) 137 0 0) 145 0 0) 132 0 20) 132 1 1) 132 2 5) 132 3 6) 132 4 0) 141 0 0) 148 0 0
def niL_0 (al : List Nat) : List Nat := al ++ [120] ++ [121] ++ [122] ++ [123] ++ [124] ++ [125] ++ [126] ++ [127] ++ [128] ++ [129] ++ [130] ++ [131] ++ [137] ++ [138] ++ [139] ++ [140] ++ [145] ++ [146] ++ [147] ++ [132] ++ [133] ++ [134] ++ [135] ++ [136] ++ [141] ++ [142] ++ [143] ++ [144] ++ [148] ++ [149] ++ [150]
theorem nim_0 (al : List Nat) (D : Nat → Bool) (I : Nat → Nat → Int32) (L : Nat → Nat → Int64) : ni0_m17 al D I L = pm_mm (niL_0 al) (pm_tb 0 D) (niI_0 I) L := by
  show (_, pm_set (pm_set (pm_set (pm_set (pm_set (pm_set (pm_set (pm_set (pm_set (pm_set (pm_set (pm_set (pm_set (pm_set (pm_set (pm_set (pm_set (pm_set (pm_set (pm_set (pm_set (pm_set (pm_set (pm_set (pm_set (pm_set (pm_set (pm_set (pm_set (pm_set (pm_set (pm_dB (pm_fb 0 D)) 120) 121) 122) 123) 124) 125) 126) 127) 128) 129) 130) 131) 137) 138) 139) 140) 145) 146) 147) 132) 133) 134) 135) 136) 141) 142) 143) 144) 148) 149) 150, pm_up (pm_up (pm_up (pm_up (pm_up (pm_up (pm_up (pm_up (pm_up (pm_up (pm_up (pm_up (pm_up (pm_up (pm_up (pm_up (pm_up (pm_up (pm_up (pm_up (pm_up (pm_up (pm_up (pm_up (pm_up (pm_up (pm_up (pm_up (pm_up (pm_up (pm_up (pm_dM (pm_fb 0 D)) 120 0 121) 120 4 122) 120 5 123) 120 6 124) 120 7 125) 120 8 126) 127 5 128) 127 6 129) 127 7 130) 127 8 131) 123 0 127) 137 1 138) 137 2 139) 137 3 140) 124 0 137) 145 1 146) 145 2 147) 126 0 145) 132 5 133) 132 6 134) 132 7 135) 132 8 136) 123 1 132) 141 1 142) 141 2 143) 141 3 144) 124 1 141) 148 1 149) 148 2 150) 126 1 148) 33 0 120, _, _) = _
  rw [niA_0, niN_0]; rfl
theorem nio_0 {I : Nat → Nat → Int32} {a : Nat} (h : ¬ (120 ≤ a ∧ a ≤ 150)) : niI_0 I a = I a := by
  rw [niI_0, up_rw (by omega), up_rw (by omega), up_rw (by omega), up_rw (by omega), up_rw (by omega), up_rw (by omega), up_rw (by omega), up_rw (by omega), up_rw (by omega), up_rw (by omega), up_rw (by omega), up_rw (by omega), up_rw (by omega), up_rw (by omega), up_rw (by omega), up_rw (by omega), up_rw (by omega)]
theorem nw_image_0 {X : Nat × (Nat → Int32)} {d : Nat} (al : List Nat) (D : Nat → Bool) (I : Nat → Nat → Int32) (L : Nat → Nat → Int64) : Rn X (d + 3) co_Ch_image (0, [some (vr 1), some (vi 0)], [], pm_mm al (pm_fb 0 D) I L) = Rn X (d + 3) co_Ch_image (33, [some (vr 1), some (vi 0)], [], pm_mm (niL_0 al) (pm_tb 0 D) (niI_0 I) L) := (ni0 al D I L).trans (by rw [nim_0])
end
