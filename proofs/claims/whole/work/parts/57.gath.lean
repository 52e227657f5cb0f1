theorem two {b : Nat} (h : b < 2) : b = 0 ∨ b = 1 := by omega
theorem three {b : Nat} (h : b < 3) : b = 0 ∨ b = 1 ∨ b = 2 := by omega
theorem four {b : Nat} (h : b < 4) : b = 0 ∨ b = 1 ∨ b = 2 ∨ b = 3 := by omega
theorem eight {b : Nat} (h : b < 8) : b = 0 ∨ b = 1 ∨ b = 2 ∨ b = 3 ∨ b = 4 ∨ b = 5 ∨ b = 6 ∨ b = 7 := by omega
theorem sgb_Ch_image_t_0 {b : Nat} (hb : b < 3) (X : Nat × (Nat → Int32)) (d : Nat) (al : List Nat) (D : Nat → Bool) (I : Nat → Nat → Int32) (L : Nat → Nat → Int64) : Rn X d co_Ch_image (0, [some (vr 1), some (vi (Int32.ofNat b))], [], pm_mm al (pm_tb b D) I L) = cond (decide ((Int32.ofNat b : Int32) < 0)) (Rn X d co_Ch_image (9, [some (vr 1), some (vi (Int32.ofNat b))], [], pm_mm al (pm_tb b D) I L)) (Rn X d co_Ch_image (33, [some (vr 1), some (vi (Int32.ofNat b))], [], pm_mm al (pm_tb b D) I L)) := by
  rcases three hb with rfl | rfl | rfl
  · exact sg_Ch_image_0_t_0 ..
  · exact sg_Ch_image_1_t_0 ..
  · exact sg_Ch_image_2_t_0 ..
theorem sgb_Ch_image_t_9 {b : Nat} (hb : b < 3) (X : Nat × (Nat → Int32)) (d : Nat) (o0 o1 : Option pm_V) (al : List Nat) (D : Nat → Bool) (I : Nat → Nat → Int32) (L : Nat → Nat → Int64) : Rn X d co_Ch_image (9, [o0, o1], [], pm_mm al (pm_tb b D) I L) = some (some (vi 0), pm_mm al (pm_tb b D) I L) := by
  rcases three hb with rfl | rfl | rfl
  · exact sg_Ch_image_0_t_9 ..
  · exact sg_Ch_image_1_t_9 ..
  · exact sg_Ch_image_2_t_9 ..
theorem sgb_Ch_image_t_33 {b : Nat} (hb : b < 3) (X : Nat × (Nat → Int32)) (d : Nat) (al : List Nat) (D : Nat → Bool) (I : Nat → Nat → Int32) (L : Nat → Nat → Int64) : Rn X d co_Ch_image (33, [some (vr 1), some (vi (Int32.ofNat b))], [], pm_mm al (pm_tb b D) I L) = ((Cl X d 96 [vr (120 + 31 * b), vr 2] (pm_mm al (pm_tb b D) I L)).bind pm_av).bind (fun r => Rn X d co_Ch_image (46, [some (vr 1), some (vi (Int32.ofNat b))], [], r)) := by
  rcases three hb with rfl | rfl | rfl
  · exact sg_Ch_image_0_t_33 ..
  · exact sg_Ch_image_1_t_33 ..
  · exact sg_Ch_image_2_t_33 ..
theorem sgb_Ch_image_t_46 {b : Nat} (hb : b < 3) (X : Nat × (Nat → Int32)) (d : Nat) (o0 o1 : Option pm_V) (al : List Nat) (D : Nat → Bool) (I : Nat → Nat → Int32) (L : Nat → Nat → Int64) : Rn X d co_Ch_image (46, [o0, o1], [], pm_mm al (pm_tb b D) I L) = some (some (vi 1), pm_mm al (pm_tb b D) I L) := by
  rcases three hb with rfl | rfl | rfl
  · exact sg_Ch_image_0_t_46 ..
  · exact sg_Ch_image_1_t_46 ..
  · exact sg_Ch_image_2_t_46 ..
theorem sgb_Ch_again_t_0 {b : Nat} (hb : b < 3) (X : Nat × (Nat → Int32)) (d : Nat) (al : List Nat) (D : Nat → Bool) (I : Nat → Nat → Int32) (L : Nat → Nat → Int64) : Rn X d co_Ch_again (0, [some (vr 1), some (vi (Int32.ofNat b))], [], pm_mm al (pm_tb b D) I L) = cond (decide ((Int32.ofNat b : Int32) < 0)) (Rn X d co_Ch_again (18, [some (vr 1), some (vi (Int32.ofNat b))], [], pm_mm al (pm_tb b D) I L)) (((Cl X d 96 [vr 2, vr (120 + 31 * b)] (pm_mm al (pm_tb b D) I L)).bind pm_av).bind (fun r => Rn X d co_Ch_again (33, [some (vr 1), some (vi (Int32.ofNat b))], [], r))) := by
  rcases three hb with rfl | rfl | rfl
  · exact sg_Ch_again_0_t_0 ..
  · exact sg_Ch_again_1_t_0 ..
  · exact sg_Ch_again_2_t_0 ..
theorem sgb_Ch_again_t_18 {b : Nat} (hb : b < 3) (X : Nat × (Nat → Int32)) (d : Nat) (o0 o1 : Option pm_V) (al : List Nat) (D : Nat → Bool) (I : Nat → Nat → Int32) (L : Nat → Nat → Int64) : Rn X d co_Ch_again (18, [o0, o1], [], pm_mm al (pm_tb b D) I L) = some (some (vi 0), pm_mm al (pm_tb b D) I L) := by
  rcases three hb with rfl | rfl | rfl
  · exact sg_Ch_again_0_t_18 ..
  · exact sg_Ch_again_1_t_18 ..
  · exact sg_Ch_again_2_t_18 ..
theorem sgb_Ch_again_t_33 {b : Nat} (hb : b < 3) (X : Nat × (Nat → Int32)) (d : Nat) (o1 : Option pm_V) (al : List Nat) (D : Nat → Bool) (I : Nat → Nat → Int32) (L : Nat → Nat → Int64) : Rn X d co_Ch_again (33, [some (vr 1), o1], [], pm_mm al (pm_tb b D) I L) = ((Cl X d 113 [vr 1] (pm_mm al (pm_tb b D) I L)).bind pm_av).bind (fun r => Rn X d co_Ch_again (37, [some (vr 1), o1], [], r)) := by
  rcases three hb with rfl | rfl | rfl
  · exact sg_Ch_again_0_t_33 ..
  · exact sg_Ch_again_1_t_33 ..
  · exact sg_Ch_again_2_t_33 ..
theorem sgb_Ch_again_t_37 {b : Nat} (hb : b < 3) (X : Nat × (Nat → Int32)) (d : Nat) (o0 o1 : Option pm_V) (al : List Nat) (D : Nat → Bool) (I : Nat → Nat → Int32) (L : Nat → Nat → Int64) : Rn X d co_Ch_again (37, [o0, o1], [], pm_mm al (pm_tb b D) I L) = some (some (vi 1), pm_mm al (pm_tb b D) I L) := by
  rcases three hb with rfl | rfl | rfl
  · exact sg_Ch_again_0_t_37 ..
  · exact sg_Ch_again_1_t_37 ..
  · exact sg_Ch_again_2_t_37 ..
theorem sgb_Ch_again_f_0 {b : Nat} (hb : b < 3) (X : Nat × (Nat → Int32)) (d : Nat) (al : List Nat) (D : Nat → Bool) (I : Nat → Nat → Int32) (L : Nat → Nat → Int64) : Rn X d co_Ch_again (0, [some (vr 1), some (vi (Int32.ofNat b))], [], pm_mm al (pm_fb b D) I L) = cond (decide ((Int32.ofNat b : Int32) < 0)) (Rn X d co_Ch_again (18, [some (vr 1), some (vi (Int32.ofNat b))], [], pm_mm al (pm_fb b D) I L)) (Rn X d co_Ch_again (18, [some (vr 1), some (vi (Int32.ofNat b))], [], pm_mm al (pm_fb b D) I L)) := by
  rcases three hb with rfl | rfl | rfl
  · exact sg_Ch_again_0_f_0 ..
  · exact sg_Ch_again_1_f_0 ..
  · exact sg_Ch_again_2_f_0 ..
theorem sgb_Ch_again_f_18 {b : Nat} (hb : b < 3) (X : Nat × (Nat → Int32)) (d : Nat) (o0 o1 : Option pm_V) (al : List Nat) (D : Nat → Bool) (I : Nat → Nat → Int32) (L : Nat → Nat → Int64) : Rn X d co_Ch_again (18, [o0, o1], [], pm_mm al (pm_fb b D) I L) = some (some (vi 0), pm_mm al (pm_fb b D) I L) := by
  rcases three hb with rfl | rfl | rfl
  · exact sg_Ch_again_0_f_18 ..
  · exact sg_Ch_again_1_f_18 ..
  · exact sg_Ch_again_2_f_18 ..
theorem sgb_Ch_again_f_33 {b : Nat} (hb : b < 3) (X : Nat × (Nat → Int32)) (d : Nat) (o1 : Option pm_V) (al : List Nat) (D : Nat → Bool) (I : Nat → Nat → Int32) (L : Nat → Nat → Int64) : Rn X d co_Ch_again (33, [some (vr 1), o1], [], pm_mm al (pm_fb b D) I L) = ((Cl X d 113 [vr 1] (pm_mm al (pm_fb b D) I L)).bind pm_av).bind (fun r => Rn X d co_Ch_again (37, [some (vr 1), o1], [], r)) := by
  rcases three hb with rfl | rfl | rfl
  · exact sg_Ch_again_0_f_33 ..
  · exact sg_Ch_again_1_f_33 ..
  · exact sg_Ch_again_2_f_33 ..
theorem sgb_Ch_again_f_37 {b : Nat} (hb : b < 3) (X : Nat × (Nat → Int32)) (d : Nat) (o0 o1 : Option pm_V) (al : List Nat) (D : Nat → Bool) (I : Nat → Nat → Int32) (L : Nat → Nat → Int64) : Rn X d co_Ch_again (37, [o0, o1], [], pm_mm al (pm_fb b D) I L) = some (some (vi 1), pm_mm al (pm_fb b D) I L) := by
  rcases three hb with rfl | rfl | rfl
  · exact sg_Ch_again_0_f_37 ..
  · exact sg_Ch_again_1_f_37 ..
  · exact sg_Ch_again_2_f_37 ..
theorem sgb_Ch_forgetWays_t_2 {b : Nat} (hb : b < 4) (X : Nat × (Nat → Int32)) (d : Nat) (al : List Nat) (D : Nat → Bool) (I : Nat → Nat → Int32) (L : Nat → Nat → Int64) : Rn X d co_Ch_forgetWays (2, [some (vr 1), some (vi (Int32.ofNat b))], [], pm_mm al (pm_tb (3 + b) D) I L) = Rn X d co_Ch_forgetWays (30, [some (vr 1), some (vi (Int32.ofNat b))], [], pm_mm al (pm_tb (3 + b) D) (pm_up I (220 + 3 * b) 3 0) L) := by
  rcases four hb with rfl | rfl | rfl | rfl
  · exact sg_Ch_forgetWays_0_t_2 ..
  · exact sg_Ch_forgetWays_1_t_2 ..
  · exact sg_Ch_forgetWays_2_t_2 ..
  · exact sg_Ch_forgetWays_3_t_2 ..
theorem sgb_Ch_forgetWays_f_2 {b : Nat} (hb : b < 4) (X : Nat × (Nat → Int32)) (d : Nat) (al : List Nat) (D : Nat → Bool) (I : Nat → Nat → Int32) (L : Nat → Nat → Int64) : Rn X d co_Ch_forgetWays (2, [some (vr 1), some (vi (Int32.ofNat b))], [], pm_mm al (pm_fb (3 + b) D) I L) = Rn X d co_Ch_forgetWays (30, [some (vr 1), some (vi (Int32.ofNat b))], [], pm_mm al (pm_fb (3 + b) D) I L) := by
  rcases four hb with rfl | rfl | rfl | rfl
  · exact sg_Ch_forgetWays_0_f_2 ..
  · exact sg_Ch_forgetWays_1_f_2 ..
  · exact sg_Ch_forgetWays_2_f_2 ..
  · exact sg_Ch_forgetWays_3_f_2 ..
theorem sgb_Ch_band_0 {b : Nat} (hb : b < 2) (X : Nat × (Nat → Int32)) (d : Nat) (x2 : Int32) (al : List Nat) (D : Nat → Bool) (I : Nat → Nat → Int32) (L : Nat → Nat → Int64) : Rn X d co_Ch_band (0, [some (vr 1), some (vi (Int32.ofNat b)), some (vi x2)], [], pm_mm al D I L) = ((Cl X d 93 [vr 2, vi 0, vi (Int32.ofNat b)] (pm_mm al D I L)).bind pm_ai).bind (fun r => Rn X d co_Ch_band (9, [some (vr 1), some (vi (Int32.ofNat b)), some (vi x2)], [vi r.1], r.2)) := by
  rcases two hb with rfl | rfl
  · exact sg_Ch_band_0_0 ..
  · exact sg_Ch_band_1_0 ..
theorem sgb_Ch_band_9 {b : Nat} (hb : b < 2) (X : Nat × (Nat → Int32)) (d : Nat) (x2 u0 : Int32) (al : List Nat) (D : Nat → Bool) (I : Nat → Nat → Int32) (L : Nat → Nat → Int64) : Rn X d co_Ch_band (9, [some (vr 1), some (vi (Int32.ofNat b)), some (vi x2)], [vi u0], pm_mm al D I L) = cond (decide (u0 = 0)) (some (some (vi (-1)), pm_mm al D I L)) (((Cl X d 10 [vr (9 + 5 * b), vi x2] (pm_mm al D I L)).bind pm_ai).bind (fun r => Rn X d co_Ch_band (27, [some (vr 1), some (vi (Int32.ofNat b)), some (vi x2)], [vi r.1], r.2))) := by
  rcases two hb with rfl | rfl
  · exact sg_Ch_band_0_9 ..
  · exact sg_Ch_band_1_9 ..
theorem sgb_Ch_band_27 (X : Nat × (Nat → Int32)) (d : Nat) (o0 o1 o2 : Option pm_V) (u0 : Int32) (al : List Nat) (D : Nat → Bool) (I : Nat → Nat → Int32) (L : Nat → Nat → Int64) : Rn X d co_Ch_band (27, [o0, o1, o2], [vi u0], pm_mm al D I L) = some (some (vi u0), pm_mm al D I L) :=
  sg_Ch_band_0_27 ..
theorem sgb_Ch_note_0 {b : Nat} (hb : b < 2) (X : Nat × (Nat → Int32)) (d : Nat) (x2 x3 : Int32) (o4 : Option pm_V) (al : List Nat) (D : Nat → Bool) (I : Nat → Nat → Int32) (L : Nat → Nat → Int64) : Rn X d co_Ch_note (0, [some (vr 1), some (vi (Int32.ofNat b)), some (vi x2), some (vi x3), o4], [], pm_mm al D I L) = ((Cl X d 93 [vr 2, vi 1, vi (Int32.ofNat b)] (pm_mm al D I L)).bind pm_ai).bind (fun r => Rn X d co_Ch_note (9, [some (vr 1), some (vi (Int32.ofNat b)), some (vi x2), some (vi x3), o4], [vi r.1], r.2)) := by
  rcases two hb with rfl | rfl
  · exact sg_Ch_note_0_0 ..
  · exact sg_Ch_note_1_0 ..
theorem sgb_Ch_note_9 {b : Nat} (hb : b < 2) (X : Nat × (Nat → Int32)) (d : Nat) (x2 x3 : Int32) (o4 : Option pm_V) (u0 : Int32) (al : List Nat) (D : Nat → Bool) (I : Nat → Nat → Int32) (L : Nat → Nat → Int64) : Rn X d co_Ch_note (9, [some (vr 1), some (vi (Int32.ofNat b)), some (vi x2), some (vi x3), o4], [vi u0], pm_mm al D I L) = cond (decide (u0 = 0)) (some (some (vi (-2)), pm_mm al D I L)) (cond (decide (x2 = (-1))) (cond (decide (x3 = 0)) (Rn X d co_Ch_note (45, [some (vr 1), some (vi (Int32.ofNat b)), some (vi x2), some (vi x3), some (vr (19 + 4 * b))], [vi (I (19 + 4 * b) 0)], pm_mm al D I L)) (Rn X d co_Ch_note (45, [some (vr 1), some (vi (Int32.ofNat b)), some (vi x2), some (vi x3), some (vr (19 + 4 * b))], [vi (-2)], pm_mm al D I L))) (cond (decide (x2 < 0)) (Rn X d co_Ch_note (59, [some (vr 1), some (vi (Int32.ofNat b)), some (vi x2), some (vi x3), some (vr (19 + 4 * b))], [], pm_mm al D I L)) (cond (decide (x2 < (I (19 + 4 * b) 0))) (cond (decide (x3 = 0)) (cond (pm_in x2 8) (some (some (vi (I (20 + 4 * b) x2.toNatClampNeg)), pm_mm al D I L)) none) (cond (decide (x3 = 1)) (cond (pm_in x2 8) (some (some (vi (I (21 + 4 * b) x2.toNatClampNeg)), pm_mm al D I L)) none) (cond (decide (x3 = 2)) (cond (pm_in x2 8) (some (some (vi (I (22 + 4 * b) x2.toNatClampNeg)), pm_mm al D I L)) none) (some (some (vi (-2)), pm_mm al D I L))))) (Rn X d co_Ch_note (59, [some (vr 1), some (vi (Int32.ofNat b)), some (vi x2), some (vi x3), some (vr (19 + 4 * b))], [], pm_mm al D I L))))) := by
  rcases two hb with rfl | rfl
  · exact sg_Ch_note_0_9 ..
  · exact sg_Ch_note_1_9 ..
theorem sgb_Ch_note_45 (X : Nat × (Nat → Int32)) (d : Nat) (o0 o1 o2 o3 o4 : Option pm_V) (u0 : Int32) (al : List Nat) (D : Nat → Bool) (I : Nat → Nat → Int32) (L : Nat → Nat → Int64) : Rn X d co_Ch_note (45, [o0, o1, o2, o3, o4], [vi u0], pm_mm al D I L) = some (some (vi u0), pm_mm al D I L) :=
  sg_Ch_note_0_45 ..
theorem sgb_Ch_note_59 (X : Nat × (Nat → Int32)) (d : Nat) (o0 o1 o2 o3 o4 : Option pm_V) (al : List Nat) (D : Nat → Bool) (I : Nat → Nat → Int32) (L : Nat → Nat → Int64) : Rn X d co_Ch_note (59, [o0, o1, o2, o3, o4], [], pm_mm al D I L) = some (some (vi (-2)), pm_mm al D I L) :=
  sg_Ch_note_0_59 ..
theorem sgb_Ch_line_0 {b : Nat} (hb : b < 2) (X : Nat × (Nat → Int32)) (d : Nat) (x2 x3 : Int32) (o4 : Option pm_V) (al : List Nat) (D : Nat → Bool) (I : Nat → Nat → Int32) (L : Nat → Nat → Int64) : Rn X d co_Ch_line (0, [some (vr 1), some (vi (Int32.ofNat b)), some (vi x2), some (vi x3), o4], [], pm_mm al D I L) = ((Cl X d 93 [vr 2, vi 3, vi (Int32.ofNat b)] (pm_mm al D I L)).bind pm_ai).bind (fun r => Rn X d co_Ch_line (9, [some (vr 1), some (vi (Int32.ofNat b)), some (vi x2), some (vi x3), o4], [vi r.1], r.2)) := by
  rcases two hb with rfl | rfl
  · exact sg_Ch_line_0_0 ..
  · exact sg_Ch_line_1_0 ..
theorem sgb_Ch_line_9 {b : Nat} (hb : b < 2) (X : Nat × (Nat → Int32)) (d : Nat) (x2 x3 : Int32) (o4 : Option pm_V) (u0 : Int32) (al : List Nat) (D : Nat → Bool) (I : Nat → Nat → Int32) (L : Nat → Nat → Int64) : Rn X d co_Ch_line (9, [some (vr 1), some (vi (Int32.ofNat b)), some (vi x2), some (vi x3), o4], [vi u0], pm_mm al D I L) = cond (decide (u0 = 0)) (some (some (vi (-2)), pm_mm al D I L)) (cond (decide (x2 = (-1))) (cond (decide (x3 = 0)) (Rn X d co_Ch_line (45, [some (vr 1), some (vi (Int32.ofNat b)), some (vi x2), some (vi x3), some (vr (27 + 3 * b))], [vi (I (27 + 3 * b) 0)], pm_mm al D I L)) (Rn X d co_Ch_line (45, [some (vr 1), some (vi (Int32.ofNat b)), some (vi x2), some (vi x3), some (vr (27 + 3 * b))], [vi (-2)], pm_mm al D I L))) (cond (decide (x2 < 0)) (Rn X d co_Ch_line (59, [some (vr 1), some (vi (Int32.ofNat b)), some (vi x2), some (vi x3), some (vr (27 + 3 * b))], [], pm_mm al D I L)) (cond (decide (x2 < (I (27 + 3 * b) 0))) (cond (decide (x3 = 0)) (cond (pm_in x2 8) (some (some (vi (I (28 + 3 * b) x2.toNatClampNeg)), pm_mm al D I L)) none) (cond (decide (x3 = 1)) (cond (pm_in x2 8) (some (some (vi (I (29 + 3 * b) x2.toNatClampNeg)), pm_mm al D I L)) none) (some (some (vi (-2)), pm_mm al D I L)))) (Rn X d co_Ch_line (59, [some (vr 1), some (vi (Int32.ofNat b)), some (vi x2), some (vi x3), some (vr (27 + 3 * b))], [], pm_mm al D I L))))) := by
  rcases two hb with rfl | rfl
  · exact sg_Ch_line_0_9 ..
  · exact sg_Ch_line_1_9 ..
theorem sgb_Ch_line_45 (X : Nat × (Nat → Int32)) (d : Nat) (o0 o1 o2 o3 o4 : Option pm_V) (u0 : Int32) (al : List Nat) (D : Nat → Bool) (I : Nat → Nat → Int32) (L : Nat → Nat → Int64) : Rn X d co_Ch_line (45, [o0, o1, o2, o3, o4], [vi u0], pm_mm al D I L) = some (some (vi u0), pm_mm al D I L) :=
  sg_Ch_line_0_45 ..
theorem sgb_Ch_line_59 (X : Nat × (Nat → Int32)) (d : Nat) (o0 o1 o2 o3 o4 : Option pm_V) (al : List Nat) (D : Nat → Bool) (I : Nat → Nat → Int32) (L : Nat → Nat → Int64) : Rn X d co_Ch_line (59, [o0, o1, o2, o3, o4], [], pm_mm al D I L) = some (some (vi (-2)), pm_mm al D I L) :=
  sg_Ch_line_0_59 ..
theorem sgb_Ch_dense_0 {b : Nat} (hb : b < 2) (X : Nat × (Nat → Int32)) (d : Nat) (x2 : Int32) (o3 : Option pm_V) (al : List Nat) (D : Nat → Bool) (I : Nat → Nat → Int32) (L : Nat → Nat → Int64) : Rn X d co_Ch_dense (0, [some (vr 1), some (vi (Int32.ofNat b)), some (vi x2), o3], [], pm_mm al D I L) = ((Cl X d 93 [vr 2, vi 1, vi (Int32.ofNat b)] (pm_mm al D I L)).bind pm_ai).bind (fun r => Rn X d co_Ch_dense (9, [some (vr 1), some (vi (Int32.ofNat b)), some (vi x2), o3], [vi r.1], r.2)) := by
  rcases two hb with rfl | rfl
  · exact sg_Ch_dense_0_0 ..
  · exact sg_Ch_dense_1_0 ..
theorem sgb_Ch_dense_9 {b : Nat} (hb : b < 2) (X : Nat × (Nat → Int32)) (d : Nat) (x2 : Int32) (o3 : Option pm_V) (u0 : Int32) (al : List Nat) (D : Nat → Bool) (I : Nat → Nat → Int32) (L : Nat → Nat → Int64) : Rn X d co_Ch_dense (9, [some (vr 1), some (vi (Int32.ofNat b)), some (vi x2), o3], [vi u0], pm_mm al D I L) = cond (decide (u0 = 0)) (some (some (vi (-2)), pm_mm al D I L)) (cond (decide (x2 = 0)) (((Cl X d 84 [vr (19 + 4 * b)] (pm_mm al D I L)).bind pm_ai).bind (fun r => Rn X d co_Ch_dense (64, [some (vr 1), some (vi (Int32.ofNat b)), some (vi x2), some (vr (19 + 4 * b))], [vi r.1], r.2))) (cond (decide (x2 = 1)) (((Cl X d 83 [vr (19 + 4 * b)] (pm_mm al D I L)).bind pm_ai).bind (fun r => Rn X d co_Ch_dense (69, [some (vr 1), some (vi (Int32.ofNat b)), some (vi x2), some (vr (19 + 4 * b))], [vi r.1], r.2))) (cond (decide (x2 = 2)) (((Cl X d 83 [vr (19 + 4 * b)] (pm_mm al D I L)).bind pm_ai).bind (fun r => Rn X d co_Ch_dense (75, [some (vr 1), some (vi (Int32.ofNat b)), some (vi x2), some (vr (19 + 4 * b))], [vi r.1, vr (19 + 4 * b)], r.2))) (cond (decide (x2 = 3)) (((Cl X d 80 [vr (19 + 4 * b)] (pm_mm al D I L)).bind pm_ai).bind (fun r => Rn X d co_Ch_dense (86, [some (vr 1), some (vi (Int32.ofNat b)), some (vi x2), some (vr (19 + 4 * b))], [vi r.1], r.2))) (cond (decide (x2 = 4)) (((Cl X d 82 [vr (19 + 4 * b)] (pm_mm al D I L)).bind pm_ai).bind (fun r => Rn X d co_Ch_dense (91, [some (vr 1), some (vi (Int32.ofNat b)), some (vi x2), some (vr (19 + 4 * b))], [vi r.1], r.2))) (some (some (vi (-2)), pm_mm al D I L))))))) := by
  rcases two hb with rfl | rfl
  · exact sg_Ch_dense_0_9 ..
  · exact sg_Ch_dense_1_9 ..
theorem sgb_Ch_dense_64 (X : Nat × (Nat → Int32)) (d : Nat) (o0 o1 o2 o3 : Option pm_V) (u0 : Int32) (al : List Nat) (D : Nat → Bool) (I : Nat → Nat → Int32) (L : Nat → Nat → Int64) : Rn X d co_Ch_dense (64, [o0, o1, o2, o3], [vi u0], pm_mm al D I L) = some (some (vi u0), pm_mm al D I L) :=
  sg_Ch_dense_0_64 ..
theorem sgb_Ch_dense_69 (X : Nat × (Nat → Int32)) (d : Nat) (o0 o1 o2 o3 : Option pm_V) (u0 : Int32) (al : List Nat) (D : Nat → Bool) (I : Nat → Nat → Int32) (L : Nat → Nat → Int64) : Rn X d co_Ch_dense (69, [o0, o1, o2, o3], [vi u0], pm_mm al D I L) = some (some (vi u0), pm_mm al D I L) :=
  sg_Ch_dense_0_69 ..
theorem sgb_Ch_dense_75 {b : Nat} (hb : b < 2) (X : Nat × (Nat → Int32)) (d : Nat) (o0 o1 o2 o3 : Option pm_V) (u1 : Int32) (al : List Nat) (D : Nat → Bool) (I : Nat → Nat → Int32) (L : Nat → Nat → Int64) : Rn X d co_Ch_dense (75, [o0, o1, o2, o3], [vi u1, vr (19 + 4 * b)], pm_mm al D I L) = ((Cl X d 81 [vr (19 + 4 * b), vi u1] (pm_mm al D I L)).bind pm_ai).bind (fun r => Rn X d co_Ch_dense (78, [o0, o1, o2, o3], [vi r.1], r.2)) := by
  rcases two hb with rfl | rfl
  · exact sg_Ch_dense_0_75 ..
  · exact sg_Ch_dense_1_75 ..
theorem sgb_Ch_dense_78 (X : Nat × (Nat → Int32)) (d : Nat) (o0 o1 o2 o3 : Option pm_V) (u0 : Int32) (al : List Nat) (D : Nat → Bool) (I : Nat → Nat → Int32) (L : Nat → Nat → Int64) : Rn X d co_Ch_dense (78, [o0, o1, o2, o3], [vi u0], pm_mm al D I L) = ((Cl X d 1 [vi u0] (pm_mm al D I L)).bind pm_ai).bind (fun r => Rn X d co_Ch_dense (81, [o0, o1, o2, o3], [vi r.1], r.2)) :=
  sg_Ch_dense_0_78 ..
theorem sgb_Ch_dense_81 (X : Nat × (Nat → Int32)) (d : Nat) (o0 o1 o2 o3 : Option pm_V) (u0 : Int32) (al : List Nat) (D : Nat → Bool) (I : Nat → Nat → Int32) (L : Nat → Nat → Int64) : Rn X d co_Ch_dense (81, [o0, o1, o2, o3], [vi u0], pm_mm al D I L) = some (some (vi u0), pm_mm al D I L) :=
  sg_Ch_dense_0_81 ..
theorem sgb_Ch_dense_86 (X : Nat × (Nat → Int32)) (d : Nat) (o0 o1 o2 o3 : Option pm_V) (u0 : Int32) (al : List Nat) (D : Nat → Bool) (I : Nat → Nat → Int32) (L : Nat → Nat → Int64) : Rn X d co_Ch_dense (86, [o0, o1, o2, o3], [vi u0], pm_mm al D I L) = some (some (vi u0), pm_mm al D I L) :=
  sg_Ch_dense_0_86 ..
theorem sgb_Ch_dense_91 (X : Nat × (Nat → Int32)) (d : Nat) (o0 o1 o2 o3 : Option pm_V) (u0 : Int32) (al : List Nat) (D : Nat → Bool) (I : Nat → Nat → Int32) (L : Nat → Nat → Int64) : Rn X d co_Ch_dense (91, [o0, o1, o2, o3], [vi u0], pm_mm al D I L) = some (some (vi u0), pm_mm al D I L) :=
  sg_Ch_dense_0_91 ..
theorem sgb_Ch_like_0 {b : Nat} {s : Nat} (hb : b < 2) (hs : s < 2) (X : Nat × (Nat → Int32)) (d : Nat) (o3 o4 : Option pm_V) (al : List Nat) (D : Nat → Bool) (I : Nat → Nat → Int32) (L : Nat → Nat → Int64) : Rn X d co_Ch_like (0, [some (vr 1), some (vi (Int32.ofNat b)), some (vi (Int32.ofNat s)), o3, o4], [], pm_mm al D I L) = ((Cl X d 93 [vr 2, vi 1, vi (Int32.ofNat b)] (pm_mm al D I L)).bind pm_ai).bind (fun r => Rn X d co_Ch_like (9, [some (vr 1), some (vi (Int32.ofNat b)), some (vi (Int32.ofNat s)), o3, o4], [vi r.1], r.2)) := by
  rcases two hb with rfl | rfl <;> rcases two hs with rfl | rfl
  · exact sg_Ch_like_0_0_0 ..
  · exact sg_Ch_like_0_1_0 ..
  · exact sg_Ch_like_1_0_0 ..
  · exact sg_Ch_like_1_1_0 ..
theorem sgb_Ch_like_9 {b : Nat} {s : Nat} (hb : b < 2) (hs : s < 2) (X : Nat × (Nat → Int32)) (d : Nat) (o3 o4 : Option pm_V) (u0 : Int32) (al : List Nat) (D : Nat → Bool) (I : Nat → Nat → Int32) (L : Nat → Nat → Int64) : Rn X d co_Ch_like (9, [some (vr 1), some (vi (Int32.ofNat b)), some (vi (Int32.ofNat s)), o3, o4], [vi u0], pm_mm al D I L) = cond (decide (u0 = 0)) (Rn X d co_Ch_like (24, [some (vr 1), some (vi (Int32.ofNat b)), some (vi (Int32.ofNat s)), o3, o4], [], pm_mm al D I L)) (((Cl X d 93 [vr 2, vi 1, vi (Int32.ofNat s)] (pm_mm al D I L)).bind pm_ai).bind (fun r => Rn X d co_Ch_like (21, [some (vr 1), some (vi (Int32.ofNat b)), some (vi (Int32.ofNat s)), o3, o4], [vi r.1], r.2))) := by
  rcases two hb with rfl | rfl <;> rcases two hs with rfl | rfl
  · exact sg_Ch_like_0_0_9 ..
  · exact sg_Ch_like_0_1_9 ..
  · exact sg_Ch_like_1_0_9 ..
  · exact sg_Ch_like_1_1_9 ..
theorem sgb_Ch_like_21 {b : Nat} {s : Nat} (hb : b < 2) (hs : s < 2) (X : Nat × (Nat → Int32)) (d : Nat) (o3 o4 : Option pm_V) (u0 : Int32) (al : List Nat) (D : Nat → Bool) (I : Nat → Nat → Int32) (L : Nat → Nat → Int64) : Rn X d co_Ch_like (21, [some (vr 1), some (vi (Int32.ofNat b)), some (vi (Int32.ofNat s)), o3, o4], [vi u0], pm_mm al D I L) = cond (decide (u0 = 0)) (Rn X d co_Ch_like (24, [some (vr 1), some (vi (Int32.ofNat b)), some (vi (Int32.ofNat s)), o3, o4], [], pm_mm al D I L)) (Rn X d co_Ch_like (31, [some (vr 1), some (vi (Int32.ofNat b)), some (vi (Int32.ofNat s)), some (vi 0), some (vi 0)], [], pm_mm al D I L)) := by
  rcases two hb with rfl | rfl <;> rcases two hs with rfl | rfl
  · exact sg_Ch_like_0_0_21 ..
  · exact sg_Ch_like_0_1_21 ..
  · exact sg_Ch_like_1_0_21 ..
  · exact sg_Ch_like_1_1_21 ..
theorem sgb_Ch_like_24 (X : Nat × (Nat → Int32)) (d : Nat) (o0 o1 o2 o3 o4 : Option pm_V) (al : List Nat) (D : Nat → Bool) (I : Nat → Nat → Int32) (L : Nat → Nat → Int64) : Rn X d co_Ch_like (24, [o0, o1, o2, o3, o4], [], pm_mm al D I L) = some (some (vi (-1)), pm_mm al D I L) :=
  sg_Ch_like_0_0_24 ..
theorem sgb_Ch_like_31 {b : Nat} {s : Nat} (hb : b < 2) (hs : s < 2) (X : Nat × (Nat → Int32)) (d : Nat) (x3 x4 : Int32) (al : List Nat) (D : Nat → Bool) (I : Nat → Nat → Int32) (L : Nat → Nat → Int64) : Rn X d co_Ch_like (31, [some (vr 1), some (vi (Int32.ofNat b)), some (vi (Int32.ofNat s)), some (vi x3), some (vi x4)], [], pm_mm al D I L) = cond (decide (12 ≤ x4)) (some (some (vi x3), pm_mm al D I L)) (((Cl X d 81 [vr (19 + 4 * b), vi x4] (pm_mm al D I L)).bind pm_ai).bind (fun r => Rn X d co_Ch_like (53, [some (vr 1), some (vi (Int32.ofNat b)), some (vi (Int32.ofNat s)), some (vi x3), some (vi x4)], [vi r.1, vi x3], r.2))) := by
  rcases two hb with rfl | rfl <;> rcases two hs with rfl | rfl
  · exact sg_Ch_like_0_0_31 ..
  · exact sg_Ch_like_0_1_31 ..
  · exact sg_Ch_like_1_0_31 ..
  · exact sg_Ch_like_1_1_31 ..
theorem sgb_Ch_like_53 {b : Nat} {s : Nat} (hb : b < 2) (hs : s < 2) (X : Nat × (Nat → Int32)) (d : Nat) (o3 : Option pm_V) (x4 u0 u1 : Int32) (al : List Nat) (D : Nat → Bool) (I : Nat → Nat → Int32) (L : Nat → Nat → Int64) : Rn X d co_Ch_like (53, [some (vr 1), some (vi (Int32.ofNat b)), some (vi (Int32.ofNat s)), o3, some (vi x4)], [vi u1, vi u0], pm_mm al D I L) = ((Cl X d 81 [vr (19 + 4 * s), vi x4] (pm_mm al D I L)).bind pm_ai).bind (fun r => Rn X d co_Ch_like (67, [some (vr 1), some (vi (Int32.ofNat b)), some (vi (Int32.ofNat s)), o3, some (vi x4)], [vi r.1, vi u1, vi u0], r.2)) := by
  rcases two hb with rfl | rfl <;> rcases two hs with rfl | rfl
  · exact sg_Ch_like_0_0_53 ..
  · exact sg_Ch_like_0_1_53 ..
  · exact sg_Ch_like_1_0_53 ..
  · exact sg_Ch_like_1_1_53 ..
theorem sgb_Ch_like_67 {b : Nat} {s : Nat} (hb : b < 2) (hs : s < 2) (X : Nat × (Nat → Int32)) (d : Nat) (o3 : Option pm_V) (x4 u0 u1 u2 : Int32) (al : List Nat) (D : Nat → Bool) (I : Nat → Nat → Int32) (L : Nat → Nat → Int64) : Rn X d co_Ch_like (67, [some (vr 1), some (vi (Int32.ofNat b)), some (vi (Int32.ofNat s)), o3, some (vi x4)], [vi u2, vi u1, vi u0], pm_mm al D I L) = ((Cl X d 1 [vi (u1 &&& u2)] (pm_mm al D I L)).bind pm_ai).bind (fun r => Rn X d co_Ch_like (71, [some (vr 1), some (vi (Int32.ofNat b)), some (vi (Int32.ofNat s)), o3, some (vi x4)], [vi r.1, vi u0], r.2)) := by
  rcases two hb with rfl | rfl <;> rcases two hs with rfl | rfl
  · exact sg_Ch_like_0_0_67 ..
  · exact sg_Ch_like_0_1_67 ..
  · exact sg_Ch_like_1_0_67 ..
  · exact sg_Ch_like_1_1_67 ..
theorem sgb_Ch_like_71 {b : Nat} {s : Nat} (hb : b < 2) (hs : s < 2) (X : Nat × (Nat → Int32)) (d : Nat) (o3 : Option pm_V) (x4 u0 u1 : Int32) (al : List Nat) (D : Nat → Bool) (I : Nat → Nat → Int32) (L : Nat → Nat → Int64) : Rn X d co_Ch_like (71, [some (vr 1), some (vi (Int32.ofNat b)), some (vi (Int32.ofNat s)), o3, some (vi x4)], [vi u1, vi u0], pm_mm al D I L) = Rn X d co_Ch_like (31, [some (vr 1), some (vi (Int32.ofNat b)), some (vi (Int32.ofNat s)), some (vi (u0 + u1)), some (vi (x4 + 1))], [], pm_mm al D I L) := by
  rcases two hb with rfl | rfl <;> rcases two hs with rfl | rfl
  · exact sg_Ch_like_0_0_71 ..
  · exact sg_Ch_like_0_1_71 ..
  · exact sg_Ch_like_1_0_71 ..
  · exact sg_Ch_like_1_1_71 ..
theorem sgb_Ch_prepare_0 {b : Nat} {s : Nat} (hb : b < 2) (hs : s < 2) (X : Nat × (Nat → Int32)) (d : Nat) (al : List Nat) (D : Nat → Bool) (I : Nat → Nat → Int32) (L : Nat → Nat → Int64) : Rn X d co_Ch_prepare (0, [some (vr 1), some (vi (Int32.ofNat b)), some (vi (Int32.ofNat s))], [], pm_mm al D I L) = ((Cl X d 39 [vr 49, vr (9 + 5 * b)] (pm_mm al D I L)).bind pm_av).bind (fun r => Rn X d co_Ch_prepare (16, [some (vr 1), some (vi (Int32.ofNat b)), some (vi (Int32.ofNat s))], [], r)) := by
  rcases two hb with rfl | rfl <;> rcases two hs with rfl | rfl
  · exact sg_Ch_prepare_0_0_0 ..
  · exact sg_Ch_prepare_0_1_0 ..
  · exact sg_Ch_prepare_1_0_0 ..
  · exact sg_Ch_prepare_1_1_0 ..
theorem sgb_Ch_prepare_16 {b : Nat} {s : Nat} (hb : b < 2) (hs : s < 2) (X : Nat × (Nat → Int32)) (d : Nat) (o1 : Option pm_V) (al : List Nat) (D : Nat → Bool) (I : Nat → Nat → Int32) (L : Nat → Nat → Int64) : Rn X d co_Ch_prepare (16, [some (vr 1), o1, some (vi (Int32.ofNat s))], [], pm_mm al D I L) = ((Cl X d 40 [vr 49, vr (19 + 4 * s)] (pm_mm al D I L)).bind pm_av).bind (fun r => Rn X d co_Ch_prepare (32, [some (vr 1), o1, some (vi (Int32.ofNat s))], [], r)) := by
  rcases two hb with rfl | rfl <;> rcases two hs with rfl | rfl
  · exact sg_Ch_prepare_0_0_16 ..
  · exact sg_Ch_prepare_0_1_16 ..
  · exact sg_Ch_prepare_1_0_16 ..
  · exact sg_Ch_prepare_1_1_16 ..
theorem sgb_Ch_prepare_32 (X : Nat × (Nat → Int32)) (d : Nat) (o0 o1 o2 : Option pm_V) (al : List Nat) (D : Nat → Bool) (I : Nat → Nat → Int32) (L : Nat → Nat → Int64) : Rn X d co_Ch_prepare (32, [o0, o1, o2], [], pm_mm al D I L) = some (none, pm_mm al D I L) :=
  sg_Ch_prepare_0_0_32 ..
theorem sgb_Ch_played_0 {b : Nat} {s : Nat} (hb : b < 2) (hs : s < 2) (X : Nat × (Nat → Int32)) (d : Nat) (x3 x4 x5 : Int32) (al : List Nat) (D : Nat → Bool) (I : Nat → Nat → Int32) (L : Nat → Nat → Int64) : Rn X d co_Ch_played (0, [some (vr 1), some (vi (Int32.ofNat b)), some (vi (Int32.ofNat s)), some (vi x3), some (vi x4), some (vi x5)], [], pm_mm al D I L) = ((Cl X d 121 [vr 1, vi (Int32.ofNat b), vi (Int32.ofNat s), vi x3] (pm_mm al D I L)).bind pm_ai).bind (fun r => Rn X d co_Ch_played (7, [some (vr 1), some (vi (Int32.ofNat b)), some (vi (Int32.ofNat s)), some (vi x3), some (vi x4), some (vi x5)], [vi r.1], r.2)) := by
  rcases two hb with rfl | rfl <;> rcases two hs with rfl | rfl
  · exact sg_Ch_played_0_0_0 ..
  · exact sg_Ch_played_0_1_0 ..
  · exact sg_Ch_played_1_0_0 ..
  · exact sg_Ch_played_1_1_0 ..
theorem sgb_Ch_played_7 {b : Nat} {s : Nat} (hb : b < 2) (hs : s < 2) (X : Nat × (Nat → Int32)) (d : Nat) (x3 x4 x5 u0 : Int32) (al : List Nat) (D : Nat → Bool) (I : Nat → Nat → Int32) (L : Nat → Nat → Int64) : Rn X d co_Ch_played (7, [some (vr 1), some (vi (Int32.ofNat b)), some (vi (Int32.ofNat s)), some (vi x3), some (vi x4), some (vi x5)], [vi u0], pm_mm al D I L) = cond (decide (u0 = 0)) (Rn X d co_Ch_played (22, [some (vr 1), some (vi (Int32.ofNat b)), some (vi (Int32.ofNat s)), some (vi x3), some (vi x4), some (vi x5)], [], pm_mm al D I L)) (cond (decide (x4 < 0)) (Rn X d co_Ch_played (22, [some (vr 1), some (vi (Int32.ofNat b)), some (vi (Int32.ofNat s)), some (vi x3), some (vi x4), some (vi x5)], [], pm_mm al D I L)) (cond (decide (x4 < 12)) (((Cl X d 122 [vr 1, vi (Int32.ofNat b), vi (Int32.ofNat s)] (pm_mm al D I L)).bind pm_av).bind (fun r => Rn X d co_Ch_played (30, [some (vr 1), some (vi (Int32.ofNat b)), some (vi (Int32.ofNat s)), some (vi x3), some (vi x4), some (vi x5)], [], r))) (Rn X d co_Ch_played (22, [some (vr 1), some (vi (Int32.ofNat b)), some (vi (Int32.ofNat s)), some (vi x3), some (vi x4), some (vi x5)], [], pm_mm al D I L)))) := by
  rcases two hb with rfl | rfl <;> rcases two hs with rfl | rfl
  · exact sg_Ch_played_0_0_7 ..
  · exact sg_Ch_played_0_1_7 ..
  · exact sg_Ch_played_1_0_7 ..
  · exact sg_Ch_played_1_1_7 ..
theorem sgb_Ch_played_22 (X : Nat × (Nat → Int32)) (d : Nat) (o0 o1 o2 o3 o4 o5 : Option pm_V) (al : List Nat) (D : Nat → Bool) (I : Nat → Nat → Int32) (L : Nat → Nat → Int64) : Rn X d co_Ch_played (22, [o0, o1, o2, o3, o4, o5], [], pm_mm al D I L) = some (some (vi (-1)), pm_mm al D I L) :=
  sg_Ch_played_0_0_22 ..
theorem sgb_Ch_played_30 (X : Nat × (Nat → Int32)) (d : Nat) (o1 o2 : Option pm_V) (x3 x4 x5 : Int32) (al : List Nat) (D : Nat → Bool) (I : Nat → Nat → Int32) (L : Nat → Nat → Int64) : Rn X d co_Ch_played (30, [some (vr 1), o1, o2, some (vi x3), some (vi x4), some (vi x5)], [], pm_mm al D I L) = cond (pm_in x3 2) (((Cl X d 48 [vr 49, vi (I 7 x3.toNatClampNeg)] (pm_mm al D I L)).bind pm_av).bind (fun r => Rn X d co_Ch_played (46, [some (vr 1), o1, o2, some (vi x3), some (vi x4), some (vi x5)], [], r))) none :=
  sg_Ch_played_0_0_30 ..
theorem sgb_Ch_played_46 (X : Nat × (Nat → Int32)) (d : Nat) (o1 o2 o3 : Option pm_V) (x4 x5 : Int32) (al : List Nat) (D : Nat → Bool) (I : Nat → Nat → Int32) (L : Nat → Nat → Int64) : Rn X d co_Ch_played (46, [some (vr 1), o1, o2, o3, some (vi x4), some (vi x5)], [], pm_mm al D I L) = ((Cl X d 51 [vr 49, vi x4, vi x5] (pm_mm al D I L)).bind pm_ai).bind (fun r => Rn X d co_Ch_played (57, [some (vr 1), o1, o2, o3, some (vi x4), some (vi x5)], [vi r.1], r.2)) :=
  sg_Ch_played_0_0_46 ..
theorem sgb_Ch_played_57 (X : Nat × (Nat → Int32)) (d : Nat) (o0 o1 o2 o3 o4 o5 : Option pm_V) (u0 : Int32) (al : List Nat) (D : Nat → Bool) (I : Nat → Nat → Int32) (L : Nat → Nat → Int64) : Rn X d co_Ch_played (57, [o0, o1, o2, o3, o4, o5], [vi u0], pm_mm al D I L) = some (some (vi u0), pm_mm al D I L) :=
  sg_Ch_played_0_0_57 ..
theorem sgb_Ch_drawn_0 {b : Nat} {s : Nat} (hb : b < 2) (hs : s < 2) (X : Nat × (Nat → Int32)) (d : Nat) (x3 x4 : Int32) (o5 o6 o7 : Option pm_V) (al : List Nat) (D : Nat → Bool) (I : Nat → Nat → Int32) (L : Nat → Nat → Int64) : Rn X d co_Ch_drawn (0, [some (vr 1), some (vi (Int32.ofNat b)), some (vi (Int32.ofNat s)), some (vi x3), some (vi x4), o5, o6, o7], [], pm_mm al D I L) = ((Cl X d 120 [vr 1, vi (Int32.ofNat b), vi (Int32.ofNat s)] (pm_mm al D I L)).bind pm_ai).bind (fun r => Rn X d co_Ch_drawn (6, [some (vr 1), some (vi (Int32.ofNat b)), some (vi (Int32.ofNat s)), some (vi x3), some (vi x4), o5, o6, o7], [vi r.1], r.2)) := by
  rcases two hb with rfl | rfl <;> rcases two hs with rfl | rfl
  · exact sg_Ch_drawn_0_0_0 ..
  · exact sg_Ch_drawn_0_1_0 ..
  · exact sg_Ch_drawn_1_0_0 ..
  · exact sg_Ch_drawn_1_1_0 ..
theorem sgb_Ch_drawn_6 {b : Nat} {s : Nat} (hb : b < 2) (hs : s < 2) (X : Nat × (Nat → Int32)) (d : Nat) (x3 x4 : Int32) (o5 o6 o7 : Option pm_V) (u0 : Int32) (al : List Nat) (D : Nat → Bool) (I : Nat → Nat → Int32) (L : Nat → Nat → Int64) : Rn X d co_Ch_drawn (6, [some (vr 1), some (vi (Int32.ofNat b)), some (vi (Int32.ofNat s)), some (vi x3), some (vi x4), o5, o6, o7], [vi u0], pm_mm al D I L) = cond (decide (u0 = 0)) (some (some (vi (-1)), pm_mm al D I L)) (Rn X d co_Ch_drawn (20, [some (vr 1), some (vi (Int32.ofNat b)), some (vi (Int32.ofNat s)), some (vi x3), some (vi x4), some (vi x3), some (vi 0), some (vi 0)], [], pm_mm al D I L)) := by
  rcases two hb with rfl | rfl <;> rcases two hs with rfl | rfl
  · exact sg_Ch_drawn_0_0_6 ..
  · exact sg_Ch_drawn_0_1_6 ..
  · exact sg_Ch_drawn_1_0_6 ..
  · exact sg_Ch_drawn_1_1_6 ..
theorem sgb_Ch_drawn_20 {b : Nat} {s : Nat} (hb : b < 2) (hs : s < 2) (X : Nat × (Nat → Int32)) (d : Nat) (o3 : Option pm_V) (x4 x5 x6 x7 : Int32) (al : List Nat) (D : Nat → Bool) (I : Nat → Nat → Int32) (L : Nat → Nat → Int64) : Rn X d co_Ch_drawn (20, [some (vr 1), some (vi (Int32.ofNat b)), some (vi (Int32.ofNat s)), o3, some (vi x4), some (vi x5), some (vi x6), some (vi x7)], [], pm_mm al D I L) = cond (decide (12 ≤ x7)) (cond (decide (x4 = 6)) (some (some (vi x6), pm_mm al D I L)) (((Cl X d 122 [vr 1, vi (Int32.ofNat b), vi (Int32.ofNat s)] (pm_mm al D I L)).bind pm_av).bind (fun r => Rn X d co_Ch_drawn (75, [some (vr 1), some (vi (Int32.ofNat b)), some (vi (Int32.ofNat s)), o3, some (vi x4), some (vi x5), some (vi x6), some (vi x7)], [], r)))) (Rn X d co_Ch_drawn (20, [some (vr 1), some (vi (Int32.ofNat b)), some (vi (Int32.ofNat s)), o3, some (vi x4), some (vi ((x5 * 1103515245) + 12345)), some (vi (x6 ||| (((pm_ush ((x5 * 1103515245) + 12345) 16) - (pm_ush ((x5 * 1103515245) + 12345) 16) / 2 * 2) <<< (x7 &&& 31)))), some (vi (x7 + 1))], [], pm_mm al D I L)) := by
  rcases two hb with rfl | rfl <;> rcases two hs with rfl | rfl
  · exact sg_Ch_drawn_0_0_20 ..
  · exact sg_Ch_drawn_0_1_20 ..
  · exact sg_Ch_drawn_1_0_20 ..
  · exact sg_Ch_drawn_1_1_20 ..
theorem sgb_Ch_drawn_75 (X : Nat × (Nat → Int32)) (d : Nat) (o1 o2 o3 : Option pm_V) (x4 : Int32) (o5 : Option pm_V) (x6 : Int32) (o7 : Option pm_V) (al : List Nat) (D : Nat → Bool) (I : Nat → Nat → Int32) (L : Nat → Nat → Int64) : Rn X d co_Ch_drawn (75, [some (vr 1), o1, o2, o3, some (vi x4), o5, some (vi x6), o7], [], pm_mm al D I L) = ((Cl X d 48 [vr 49, vi x6] (pm_mm al D I L)).bind pm_av).bind (fun r => Rn X d co_Ch_drawn (84, [some (vr 1), o1, o2, o3, some (vi x4), o5, some (vi x6), o7], [], r)) :=
  sg_Ch_drawn_0_0_75 ..
theorem sgb_Ch_drawn_84 (X : Nat × (Nat → Int32)) (d : Nat) (o1 o2 o3 : Option pm_V) (x4 : Int32) (o5 o6 o7 : Option pm_V) (al : List Nat) (D : Nat → Bool) (I : Nat → Nat → Int32) (L : Nat → Nat → Int64) : Rn X d co_Ch_drawn (84, [some (vr 1), o1, o2, o3, some (vi x4), o5, o6, o7], [], pm_mm al D I L) = ((Cl X d 51 [vr 49, vi 11, vi x4] (pm_mm al D I L)).bind pm_ai).bind (fun r => Rn X d co_Ch_drawn (95, [some (vr 1), o1, o2, o3, some (vi x4), o5, o6, o7], [vi r.1], r.2)) :=
  sg_Ch_drawn_0_0_84 ..
theorem sgb_Ch_drawn_95 (X : Nat × (Nat → Int32)) (d : Nat) (o0 o1 o2 o3 o4 o5 o6 o7 : Option pm_V) (u0 : Int32) (al : List Nat) (D : Nat → Bool) (I : Nat → Nat → Int32) (L : Nat → Nat → Int64) : Rn X d co_Ch_drawn (95, [o0, o1, o2, o3, o4, o5, o6, o7], [vi u0], pm_mm al D I L) = some (some (vi u0), pm_mm al D I L) :=
  sg_Ch_drawn_0_0_95 ..
theorem sgb_Ch_after_0 {b : Nat} {s : Nat} (hb : b < 2) (hs : s < 2) (X : Nat × (Nat → Int32)) (d : Nat) (x3 x4 : Int32) (al : List Nat) (D : Nat → Bool) (I : Nat → Nat → Int32) (L : Nat → Nat → Int64) : Rn X d co_Ch_after (0, [some (vr 1), some (vi (Int32.ofNat b)), some (vi (Int32.ofNat s)), some (vi x3), some (vi x4)], [], pm_mm al D I L) = ((Cl X d 121 [vr 1, vi (Int32.ofNat b), vi (Int32.ofNat s), vi x3] (pm_mm al D I L)).bind pm_ai).bind (fun r => Rn X d co_Ch_after (7, [some (vr 1), some (vi (Int32.ofNat b)), some (vi (Int32.ofNat s)), some (vi x3), some (vi x4)], [vi r.1], r.2)) := by
  rcases two hb with rfl | rfl <;> rcases two hs with rfl | rfl
  · exact sg_Ch_after_0_0_0 ..
  · exact sg_Ch_after_0_1_0 ..
  · exact sg_Ch_after_1_0_0 ..
  · exact sg_Ch_after_1_1_0 ..
theorem sgb_Ch_after_7 {b : Nat} {s : Nat} (hb : b < 2) (hs : s < 2) (X : Nat × (Nat → Int32)) (d : Nat) (x3 x4 u0 : Int32) (al : List Nat) (D : Nat → Bool) (I : Nat → Nat → Int32) (L : Nat → Nat → Int64) : Rn X d co_Ch_after (7, [some (vr 1), some (vi (Int32.ofNat b)), some (vi (Int32.ofNat s)), some (vi x3), some (vi x4)], [vi u0], pm_mm al D I L) = cond (decide (u0 = 0)) (some (some (vi (-2)), pm_mm al D I L)) (((Cl X d 122 [vr 1, vi (Int32.ofNat b), vi (Int32.ofNat s)] (pm_mm al D I L)).bind pm_av).bind (fun r => Rn X d co_Ch_after (19, [some (vr 1), some (vi (Int32.ofNat b)), some (vi (Int32.ofNat s)), some (vi x3), some (vi x4)], [], r))) := by
  rcases two hb with rfl | rfl <;> rcases two hs with rfl | rfl
  · exact sg_Ch_after_0_0_7 ..
  · exact sg_Ch_after_0_1_7 ..
  · exact sg_Ch_after_1_0_7 ..
  · exact sg_Ch_after_1_1_7 ..
theorem sgb_Ch_after_19 {b : Nat} {s : Nat} (hb : b < 2) (hs : s < 2) (X : Nat × (Nat → Int32)) (d : Nat) (o2 : Option pm_V) (x3 x4 : Int32) (al : List Nat) (D : Nat → Bool) (I : Nat → Nat → Int32) (L : Nat → Nat → Int64) : Rn X d co_Ch_after (19, [some (vr 1), some (vi (Int32.ofNat b)), o2, some (vi x3), some (vi x4)], [], pm_mm al D I L) = cond (pm_in x3 2) (((Cl X d 48 [vr 49, vi (I 7 x3.toNatClampNeg)] (pm_mm al D I L)).bind pm_av).bind (fun r => Rn X d co_Ch_after (35, [some (vr 1), some (vi (Int32.ofNat b)), o2, some (vi x3), some (vi x4)], [], r))) none := by
  rcases two hb with rfl | rfl <;> rcases two hs with rfl | rfl
  · exact sg_Ch_after_0_0_19 ..
  · exact sg_Ch_after_0_1_19 ..
  · exact sg_Ch_after_1_0_19 ..
  · exact sg_Ch_after_1_1_19 ..
theorem sgb_Ch_after_35 {b : Nat} {s : Nat} (hb : b < 2) (hs : s < 2) (X : Nat × (Nat → Int32)) (d : Nat) (o2 o3 : Option pm_V) (x4 : Int32) (al : List Nat) (D : Nat → Bool) (I : Nat → Nat → Int32) (L : Nat → Nat → Int64) : Rn X d co_Ch_after (35, [some (vr 1), some (vi (Int32.ofNat b)), o2, o3, some (vi x4)], [], pm_mm al D I L) = cond (decide (x4 = 0)) (((Cl X d 52 [vr 49] (pm_mm al D I L)).bind pm_ai).bind (fun r => Rn X d co_Ch_after (99, [some (vr 1), some (vi (Int32.ofNat b)), o2, o3, some (vi x4)], [vi r.1], r.2))) (cond (decide (x4 = 1)) (((Cl X d 53 [vr 49] (pm_mm al D I L)).bind pm_ai).bind (fun r => Rn X d co_Ch_after (107, [some (vr 1), some (vi (Int32.ofNat b)), o2, o3, some (vi x4)], [vi r.1], r.2))) (cond (decide (x4 = 2)) (((Cl X d 54 [vr 49] (pm_mm al D I L)).bind pm_ai).bind (fun r => Rn X d co_Ch_after (115, [some (vr 1), some (vi (Int32.ofNat b)), o2, o3, some (vi x4)], [vi r.1], r.2))) (cond (decide (x4 = 3)) (((Cl X d 126 [vr 57] (pm_mm al D I L)).bind pm_ai).bind (fun r => Rn X d co_Ch_after (126, [some (vr 1), some (vi (Int32.ofNat b)), o2, o3, some (vi x4)], [vi r.1], r.2))) (cond (decide (x4 = 4)) (((Cl X d 126 [vr 59] (pm_mm al D I L)).bind pm_ai).bind (fun r => Rn X d co_Ch_after (137, [some (vr 1), some (vi (Int32.ofNat b)), o2, o3, some (vi x4)], [vi r.1], r.2))) (cond (decide (x4 = 5)) (((Cl X d 55 [vr 49] (pm_mm al D I L)).bind pm_ai).bind (fun r => Rn X d co_Ch_after (145, [some (vr 1), some (vi (Int32.ofNat b)), o2, o3, some (vi x4)], [vi r.1], r.2))) (cond (decide (x4 = 6)) (((Cl X d 56 [vr 49, vr (11 + 5 * b)] (pm_mm al D I L)).bind pm_ai).bind (fun r => Rn X d co_Ch_after (165, [some (vr 1), some (vi (Int32.ofNat b)), o2, o3, some (vi x4)], [vi r.1], r.2))) (cond (decide (x4 = 7)) (some (some (vi (I 49 15)), pm_mm al D I L)) (cond (decide (x4 = 8)) (((Cl X d 58 [vr 49] (pm_mm al D I L)).bind pm_ai).bind (fun r => Rn X d co_Ch_after (181, [some (vr 1), some (vi (Int32.ofNat b)), o2, o3, some (vi x4)], [vi r.1], r.2))) (cond (decide (x4 = 9)) (((Cl X d 59 [vr 49] (pm_mm al D I L)).bind pm_ai).bind (fun r => Rn X d co_Ch_after (189, [some (vr 1), some (vi (Int32.ofNat b)), o2, o3, some (vi x4)], [vi r.1], r.2))) (some (some (vi (-2)), pm_mm al D I L))))))))))) := by
  rcases two hb with rfl | rfl <;> rcases two hs with rfl | rfl
  · exact sg_Ch_after_0_0_35 ..
  · exact sg_Ch_after_0_1_35 ..
  · exact sg_Ch_after_1_0_35 ..
  · exact sg_Ch_after_1_1_35 ..
theorem sgb_Ch_after_99 (X : Nat × (Nat → Int32)) (d : Nat) (o0 o1 o2 o3 o4 : Option pm_V) (u0 : Int32) (al : List Nat) (D : Nat → Bool) (I : Nat → Nat → Int32) (L : Nat → Nat → Int64) : Rn X d co_Ch_after (99, [o0, o1, o2, o3, o4], [vi u0], pm_mm al D I L) = some (some (vi u0), pm_mm al D I L) :=
  sg_Ch_after_0_0_99 ..
theorem sgb_Ch_after_107 (X : Nat × (Nat → Int32)) (d : Nat) (o0 o1 o2 o3 o4 : Option pm_V) (u0 : Int32) (al : List Nat) (D : Nat → Bool) (I : Nat → Nat → Int32) (L : Nat → Nat → Int64) : Rn X d co_Ch_after (107, [o0, o1, o2, o3, o4], [vi u0], pm_mm al D I L) = some (some (vi u0), pm_mm al D I L) :=
  sg_Ch_after_0_0_107 ..
theorem sgb_Ch_after_115 (X : Nat × (Nat → Int32)) (d : Nat) (o0 o1 o2 o3 o4 : Option pm_V) (u0 : Int32) (al : List Nat) (D : Nat → Bool) (I : Nat → Nat → Int32) (L : Nat → Nat → Int64) : Rn X d co_Ch_after (115, [o0, o1, o2, o3, o4], [vi u0], pm_mm al D I L) = some (some (vi u0), pm_mm al D I L) :=
  sg_Ch_after_0_0_115 ..
theorem sgb_Ch_after_126 (X : Nat × (Nat → Int32)) (d : Nat) (o0 o1 o2 o3 o4 : Option pm_V) (u0 : Int32) (al : List Nat) (D : Nat → Bool) (I : Nat → Nat → Int32) (L : Nat → Nat → Int64) : Rn X d co_Ch_after (126, [o0, o1, o2, o3, o4], [vi u0], pm_mm al D I L) = some (some (vi u0), pm_mm al D I L) :=
  sg_Ch_after_0_0_126 ..
theorem sgb_Ch_after_137 (X : Nat × (Nat → Int32)) (d : Nat) (o0 o1 o2 o3 o4 : Option pm_V) (u0 : Int32) (al : List Nat) (D : Nat → Bool) (I : Nat → Nat → Int32) (L : Nat → Nat → Int64) : Rn X d co_Ch_after (137, [o0, o1, o2, o3, o4], [vi u0], pm_mm al D I L) = some (some (vi u0), pm_mm al D I L) :=
  sg_Ch_after_0_0_137 ..
theorem sgb_Ch_after_145 (X : Nat × (Nat → Int32)) (d : Nat) (o0 o1 o2 o3 o4 : Option pm_V) (u0 : Int32) (al : List Nat) (D : Nat → Bool) (I : Nat → Nat → Int32) (L : Nat → Nat → Int64) : Rn X d co_Ch_after (145, [o0, o1, o2, o3, o4], [vi u0], pm_mm al D I L) = some (some (vi u0), pm_mm al D I L) :=
  sg_Ch_after_0_0_145 ..
theorem sgb_Ch_after_165 (X : Nat × (Nat → Int32)) (d : Nat) (o0 o1 o2 o3 o4 : Option pm_V) (u0 : Int32) (al : List Nat) (D : Nat → Bool) (I : Nat → Nat → Int32) (L : Nat → Nat → Int64) : Rn X d co_Ch_after (165, [o0, o1, o2, o3, o4], [vi u0], pm_mm al D I L) = some (some (vi u0), pm_mm al D I L) :=
  sg_Ch_after_0_0_165 ..
theorem sgb_Ch_after_181 (X : Nat × (Nat → Int32)) (d : Nat) (o0 o1 o2 o3 o4 : Option pm_V) (u0 : Int32) (al : List Nat) (D : Nat → Bool) (I : Nat → Nat → Int32) (L : Nat → Nat → Int64) : Rn X d co_Ch_after (181, [o0, o1, o2, o3, o4], [vi u0], pm_mm al D I L) = some (some (vi u0), pm_mm al D I L) :=
  sg_Ch_after_0_0_181 ..
theorem sgb_Ch_after_189 (X : Nat × (Nat → Int32)) (d : Nat) (o0 o1 o2 o3 o4 : Option pm_V) (u0 : Int32) (al : List Nat) (D : Nat → Bool) (I : Nat → Nat → Int32) (L : Nat → Nat → Int64) : Rn X d co_Ch_after (189, [o0, o1, o2, o3, o4], [vi u0], pm_mm al D I L) = some (some (vi u0), pm_mm al D I L) :=
  sg_Ch_after_0_0_189 ..
theorem sgb_Ch_inAll_0 {b : Nat} (hb : b < 3) (X : Nat × (Nat → Int32)) (d : Nat) (o1 o2 : Option pm_V) (al : List Nat) (D : Nat → Bool) (I : Nat → Nat → Int32) (L : Nat → Nat → Int64) : Rn X d co_Ch_inAll (0, [some (vr (57 + b)), o1, o2], [], pm_mm al D I L) = Rn X d co_Ch_inAll (4, [some (vr (57 + b)), some (vi 0), some (vi 0)], [], pm_mm al D I L) := by
  rcases three hb with rfl | rfl | rfl
  · exact sg_Ch_inAll_57_0 ..
  · exact sg_Ch_inAll_58_0 ..
  · exact sg_Ch_inAll_59_0 ..
theorem sgb_Ch_inAll_4 {b : Nat} (hb : b < 3) (X : Nat × (Nat → Int32)) (d : Nat) (x1 x2 : Int32) (al : List Nat) (D : Nat → Bool) (I : Nat → Nat → Int32) (L : Nat → Nat → Int64) : Rn X d co_Ch_inAll (4, [some (vr (57 + b)), some (vi x1), some (vi x2)], [], pm_mm al D I L) = cond (decide (13 ≤ x2)) (some (some (vi x1), pm_mm al D I L)) (cond (pm_in x2 13) (((Cl X d 1 [vi (I (57 + b) x2.toNatClampNeg)] (pm_mm al D I L)).bind pm_ai).bind (fun r => Rn X d co_Ch_inAll (17, [some (vr (57 + b)), some (vi x1), some (vi x2)], [vi r.1, vi x1], r.2))) none) := by
  rcases three hb with rfl | rfl | rfl
  · exact sg_Ch_inAll_57_4 ..
  · exact sg_Ch_inAll_58_4 ..
  · exact sg_Ch_inAll_59_4 ..
theorem sgb_Ch_inAll_17 {b : Nat} (hb : b < 3) (X : Nat × (Nat → Int32)) (d : Nat) (o1 : Option pm_V) (x2 u0 u1 : Int32) (al : List Nat) (D : Nat → Bool) (I : Nat → Nat → Int32) (L : Nat → Nat → Int64) : Rn X d co_Ch_inAll (17, [some (vr (57 + b)), o1, some (vi x2)], [vi u1, vi u0], pm_mm al D I L) = Rn X d co_Ch_inAll (4, [some (vr (57 + b)), some (vi (u0 + u1)), some (vi (x2 + 1))], [], pm_mm al D I L) := by
  rcases three hb with rfl | rfl | rfl
  · exact sg_Ch_inAll_57_17 ..
  · exact sg_Ch_inAll_58_17 ..
  · exact sg_Ch_inAll_59_17 ..
theorem sgb_Ch_need_0 {b : Nat} {s : Nat} (hb : b < 2) (hs : s < 2) (X : Nat × (Nat → Int32)) (d : Nat) (x3 x4 : Int32) (al : List Nat) (D : Nat → Bool) (I : Nat → Nat → Int32) (L : Nat → Nat → Int64) : Rn X d co_Ch_need (0, [some (vr 1), some (vi (Int32.ofNat b)), some (vi (Int32.ofNat s)), some (vi x3), some (vi x4)], [], pm_mm al D I L) = ((Cl X d 121 [vr 1, vi (Int32.ofNat b), vi (Int32.ofNat s), vi x3] (pm_mm al D I L)).bind pm_ai).bind (fun r => Rn X d co_Ch_need (7, [some (vr 1), some (vi (Int32.ofNat b)), some (vi (Int32.ofNat s)), some (vi x3), some (vi x4)], [vi r.1], r.2)) := by
  rcases two hb with rfl | rfl <;> rcases two hs with rfl | rfl
  · exact sg_Ch_need_0_0_0 ..
  · exact sg_Ch_need_0_1_0 ..
  · exact sg_Ch_need_1_0_0 ..
  · exact sg_Ch_need_1_1_0 ..
theorem sgb_Ch_need_7 {b : Nat} {s : Nat} (hb : b < 2) (hs : s < 2) (X : Nat × (Nat → Int32)) (d : Nat) (x3 x4 u0 : Int32) (al : List Nat) (D : Nat → Bool) (I : Nat → Nat → Int32) (L : Nat → Nat → Int64) : Rn X d co_Ch_need (7, [some (vr 1), some (vi (Int32.ofNat b)), some (vi (Int32.ofNat s)), some (vi x3), some (vi x4)], [vi u0], pm_mm al D I L) = cond (decide (u0 = 0)) (some (some (vi (-1)), pm_mm al D I L)) (((Cl X d 122 [vr 1, vi (Int32.ofNat b), vi (Int32.ofNat s)] (pm_mm al D I L)).bind pm_av).bind (fun r => Rn X d co_Ch_need (18, [some (vr 1), some (vi (Int32.ofNat b)), some (vi (Int32.ofNat s)), some (vi x3), some (vi x4)], [], r))) := by
  rcases two hb with rfl | rfl <;> rcases two hs with rfl | rfl
  · exact sg_Ch_need_0_0_7 ..
  · exact sg_Ch_need_0_1_7 ..
  · exact sg_Ch_need_1_0_7 ..
  · exact sg_Ch_need_1_1_7 ..
theorem sgb_Ch_need_18 (X : Nat × (Nat → Int32)) (d : Nat) (o1 o2 : Option pm_V) (x3 x4 : Int32) (al : List Nat) (D : Nat → Bool) (I : Nat → Nat → Int32) (L : Nat → Nat → Int64) : Rn X d co_Ch_need (18, [some (vr 1), o1, o2, some (vi x3), some (vi x4)], [], pm_mm al D I L) = cond (decide (x4 = 0)) (cond (pm_in x3 2) (((Cl X d 128 [vr 1, vi (I 7 x3.toNatClampNeg)] (pm_mm al D I L)).bind pm_ai).bind (fun r => Rn X d co_Ch_need (65, [some (vr 1), o1, o2, some (vi x3), some (vi x4)], [vi r.1], r.2))) none) (cond (decide (x4 = 1)) (cond (pm_in x3 2) (((Cl X d 129 [vr 1, vi (I 7 x3.toNatClampNeg)] (pm_mm al D I L)).bind pm_ai).bind (fun r => Rn X d co_Ch_need (79, [some (vr 1), o1, o2, some (vi x3), some (vi x4)], [vi r.1], r.2))) none) (cond (decide (x4 = 2)) (cond (pm_in x3 2) (((Cl X d 130 [vr 1, vi (I 7 x3.toNatClampNeg)] (pm_mm al D I L)).bind pm_ai).bind (fun r => Rn X d co_Ch_need (93, [some (vr 1), o1, o2, some (vi x3), some (vi x4)], [vi r.1], r.2))) none) (cond (decide (x4 = 3)) (((Cl X d 131 [vr 1] (pm_mm al D I L)).bind pm_ai).bind (fun r => Rn X d co_Ch_need (98, [some (vr 1), o1, o2, some (vi x3), some (vi x4)], [vi r.1], r.2))) (some (some (vi (-1)), pm_mm al D I L))))) :=
  sg_Ch_need_0_0_18 ..
theorem sgb_Ch_need_65 (X : Nat × (Nat → Int32)) (d : Nat) (o0 o1 o2 o3 o4 : Option pm_V) (u0 : Int32) (al : List Nat) (D : Nat → Bool) (I : Nat → Nat → Int32) (L : Nat → Nat → Int64) : Rn X d co_Ch_need (65, [o0, o1, o2, o3, o4], [vi u0], pm_mm al D I L) = some (some (vi u0), pm_mm al D I L) :=
  sg_Ch_need_0_0_65 ..
theorem sgb_Ch_need_79 (X : Nat × (Nat → Int32)) (d : Nat) (o0 o1 o2 o3 o4 : Option pm_V) (u0 : Int32) (al : List Nat) (D : Nat → Bool) (I : Nat → Nat → Int32) (L : Nat → Nat → Int64) : Rn X d co_Ch_need (79, [o0, o1, o2, o3, o4], [vi u0], pm_mm al D I L) = some (some (vi u0), pm_mm al D I L) :=
  sg_Ch_need_0_0_79 ..
theorem sgb_Ch_need_93 (X : Nat × (Nat → Int32)) (d : Nat) (o0 o1 o2 o3 o4 : Option pm_V) (u0 : Int32) (al : List Nat) (D : Nat → Bool) (I : Nat → Nat → Int32) (L : Nat → Nat → Int64) : Rn X d co_Ch_need (93, [o0, o1, o2, o3, o4], [vi u0], pm_mm al D I L) = some (some (vi u0), pm_mm al D I L) :=
  sg_Ch_need_0_0_93 ..
theorem sgb_Ch_need_98 (X : Nat × (Nat → Int32)) (d : Nat) (o0 o1 o2 o3 o4 : Option pm_V) (u0 : Int32) (al : List Nat) (D : Nat → Bool) (I : Nat → Nat → Int32) (L : Nat → Nat → Int64) : Rn X d co_Ch_need (98, [o0, o1, o2, o3, o4], [vi u0], pm_mm al D I L) = some (some (vi u0), pm_mm al D I L) :=
  sg_Ch_need_0_0_98 ..
theorem sgb_Ch_canon_0 {b : Nat} {s : Nat} (hb : b < 2) (hs : s < 2) (X : Nat × (Nat → Int32)) (d : Nat) (x3 x4 : Int32) (al : List Nat) (D : Nat → Bool) (I : Nat → Nat → Int32) (L : Nat → Nat → Int64) : Rn X d co_Ch_canon (0, [some (vr 1), some (vi (Int32.ofNat b)), some (vi (Int32.ofNat s)), some (vi x3), some (vi x4)], [], pm_mm al D I L) = ((Cl X d 121 [vr 1, vi (Int32.ofNat b), vi (Int32.ofNat s), vi x3] (pm_mm al D I L)).bind pm_ai).bind (fun r => Rn X d co_Ch_canon (7, [some (vr 1), some (vi (Int32.ofNat b)), some (vi (Int32.ofNat s)), some (vi x3), some (vi x4)], [vi r.1], r.2)) := by
  rcases two hb with rfl | rfl <;> rcases two hs with rfl | rfl
  · exact sg_Ch_canon_0_0_0 ..
  · exact sg_Ch_canon_0_1_0 ..
  · exact sg_Ch_canon_1_0_0 ..
  · exact sg_Ch_canon_1_1_0 ..
theorem sgb_Ch_canon_7 {b : Nat} {s : Nat} (hb : b < 2) (hs : s < 2) (X : Nat × (Nat → Int32)) (d : Nat) (x3 x4 u0 : Int32) (al : List Nat) (D : Nat → Bool) (I : Nat → Nat → Int32) (L : Nat → Nat → Int64) : Rn X d co_Ch_canon (7, [some (vr 1), some (vi (Int32.ofNat b)), some (vi (Int32.ofNat s)), some (vi x3), some (vi x4)], [vi u0], pm_mm al D I L) = cond (decide (u0 = 0)) (Rn X d co_Ch_canon (23, [some (vr 1), some (vi (Int32.ofNat b)), some (vi (Int32.ofNat s)), some (vi x3), some (vi x4)], [], pm_mm al D I L)) (cond (decide (x4 < 1)) (Rn X d co_Ch_canon (23, [some (vr 1), some (vi (Int32.ofNat b)), some (vi (Int32.ofNat s)), some (vi x3), some (vi x4)], [], pm_mm al D I L)) (cond (decide (x4 ≤ 6)) (((Cl X d 122 [vr 1, vi (Int32.ofNat b), vi (Int32.ofNat s)] (pm_mm al D I L)).bind pm_av).bind (fun r => Rn X d co_Ch_canon (31, [some (vr 1), some (vi (Int32.ofNat b)), some (vi (Int32.ofNat s)), some (vi x3), some (vi x4)], [], r))) (Rn X d co_Ch_canon (23, [some (vr 1), some (vi (Int32.ofNat b)), some (vi (Int32.ofNat s)), some (vi x3), some (vi x4)], [], pm_mm al D I L)))) := by
  rcases two hb with rfl | rfl <;> rcases two hs with rfl | rfl
  · exact sg_Ch_canon_0_0_7 ..
  · exact sg_Ch_canon_0_1_7 ..
  · exact sg_Ch_canon_1_0_7 ..
  · exact sg_Ch_canon_1_1_7 ..
theorem sgb_Ch_canon_23 (X : Nat × (Nat → Int32)) (d : Nat) (o0 o1 o2 o3 o4 : Option pm_V) (al : List Nat) (D : Nat → Bool) (I : Nat → Nat → Int32) (L : Nat → Nat → Int64) : Rn X d co_Ch_canon (23, [o0, o1, o2, o3, o4], [], pm_mm al D I L) = some (some (vi (-1)), pm_mm al D I L) :=
  sg_Ch_canon_0_0_23 ..
theorem sgb_Ch_canon_31 (X : Nat × (Nat → Int32)) (d : Nat) (o1 o2 : Option pm_V) (x3 x4 : Int32) (al : List Nat) (D : Nat → Bool) (I : Nat → Nat → Int32) (L : Nat → Nat → Int64) : Rn X d co_Ch_canon (31, [some (vr 1), o1, o2, some (vi x3), some (vi x4)], [], pm_mm al D I L) = ((Cl X d 44 [vr 49, vi x4] (pm_mm al D I L)).bind pm_av).bind (fun r => Rn X d co_Ch_canon (40, [some (vr 1), o1, o2, some (vi x3), some (vi x4)], [], r)) :=
  sg_Ch_canon_0_0_31 ..
theorem sgb_Ch_canon_40 (X : Nat × (Nat → Int32)) (d : Nat) (o1 o2 : Option pm_V) (x3 : Int32) (o4 : Option pm_V) (al : List Nat) (D : Nat → Bool) (I : Nat → Nat → Int32) (L : Nat → Nat → Int64) : Rn X d co_Ch_canon (40, [some (vr 1), o1, o2, some (vi x3), o4], [], pm_mm al D I L) = cond (pm_in x3 2) (((Cl X d 48 [vr 49, vi (I 7 x3.toNatClampNeg)] (pm_mm al D I L)).bind pm_av).bind (fun r => Rn X d co_Ch_canon (56, [some (vr 1), o1, o2, some (vi x3), o4], [], r))) none :=
  sg_Ch_canon_0_0_40 ..
theorem sgb_Ch_canon_56 (X : Nat × (Nat → Int32)) (d : Nat) (o1 o2 o3 o4 : Option pm_V) (al : List Nat) (D : Nat → Bool) (I : Nat → Nat → Int32) (L : Nat → Nat → Int64) : Rn X d co_Ch_canon (56, [some (vr 1), o1, o2, o3, o4], [], pm_mm al D I L) = ((Cl X d 126 [vr 58] (pm_mm al D I L)).bind pm_ai).bind (fun r => Rn X d co_Ch_canon (66, [some (vr 1), o1, o2, o3, o4], [vi r.1], r.2)) :=
  sg_Ch_canon_0_0_56 ..
theorem sgb_Ch_canon_66 (X : Nat × (Nat → Int32)) (d : Nat) (o0 o1 o2 o3 o4 : Option pm_V) (u0 : Int32) (al : List Nat) (D : Nat → Bool) (I : Nat → Nat → Int32) (L : Nat → Nat → Int64) : Rn X d co_Ch_canon (66, [o0, o1, o2, o3, o4], [vi u0], pm_mm al D I L) = some (some (vi u0), pm_mm al D I L) :=
  sg_Ch_canon_0_0_66 ..
theorem sgb_Ch_rank_0 {b : Nat} {s : Nat} (hb : b < 2) (hs : s < 2) (X : Nat × (Nat → Int32)) (d : Nat) (x3 x4 : Int32) (o5 : Option pm_V) (al : List Nat) (D : Nat → Bool) (I : Nat → Nat → Int32) (L : Nat → Nat → Int64) : Rn X d co_Ch_rank (0, [some (vr 1), some (vi (Int32.ofNat b)), some (vi (Int32.ofNat s)), some (vi x3), some (vi x4), o5], [], pm_mm al D I L) = ((Cl X d 121 [vr 1, vi (Int32.ofNat b), vi (Int32.ofNat s), vi x3] (pm_mm al D I L)).bind pm_ai).bind (fun r => Rn X d co_Ch_rank (7, [some (vr 1), some (vi (Int32.ofNat b)), some (vi (Int32.ofNat s)), some (vi x3), some (vi x4), o5], [vi r.1], r.2)) := by
  rcases two hb with rfl | rfl <;> rcases two hs with rfl | rfl
  · exact sg_Ch_rank_0_0_0 ..
  · exact sg_Ch_rank_0_1_0 ..
  · exact sg_Ch_rank_1_0_0 ..
  · exact sg_Ch_rank_1_1_0 ..
theorem sgb_Ch_rank_7 {b : Nat} {s : Nat} (hb : b < 2) (hs : s < 2) (X : Nat × (Nat → Int32)) (d : Nat) (x3 x4 : Int32) (o5 : Option pm_V) (u0 : Int32) (al : List Nat) (D : Nat → Bool) (I : Nat → Nat → Int32) (L : Nat → Nat → Int64) : Rn X d co_Ch_rank (7, [some (vr 1), some (vi (Int32.ofNat b)), some (vi (Int32.ofNat s)), some (vi x3), some (vi x4), o5], [vi u0], pm_mm al D I L) = cond (decide (u0 = 0)) (Rn X d co_Ch_rank (33, [some (vr 1), some (vi (Int32.ofNat b)), some (vi (Int32.ofNat s)), some (vi x3), some (vi x4), o5], [], pm_mm al D I L)) (cond (decide (x4 < (-1))) (Rn X d co_Ch_rank (33, [some (vr 1), some (vi (Int32.ofNat b)), some (vi (Int32.ofNat s)), some (vi x3), some (vi x4), o5], [], pm_mm al D I L)) (cond (decide (x4 < (I (9 + 5 * b) 4))) (((Cl X d 122 [vr 1, vi (Int32.ofNat b), vi (Int32.ofNat s)] (pm_mm al D I L)).bind pm_av).bind (fun r => Rn X d co_Ch_rank (41, [some (vr 1), some (vi (Int32.ofNat b)), some (vi (Int32.ofNat s)), some (vi x3), some (vi x4), o5], [], r))) (Rn X d co_Ch_rank (33, [some (vr 1), some (vi (Int32.ofNat b)), some (vi (Int32.ofNat s)), some (vi x3), some (vi x4), o5], [], pm_mm al D I L)))) := by
  rcases two hb with rfl | rfl <;> rcases two hs with rfl | rfl
  · exact sg_Ch_rank_0_0_7 ..
  · exact sg_Ch_rank_0_1_7 ..
  · exact sg_Ch_rank_1_0_7 ..
  · exact sg_Ch_rank_1_1_7 ..
theorem sgb_Ch_rank_33 (X : Nat × (Nat → Int32)) (d : Nat) (o0 o1 o2 o3 o4 o5 : Option pm_V) (al : List Nat) (D : Nat → Bool) (I : Nat → Nat → Int32) (L : Nat → Nat → Int64) : Rn X d co_Ch_rank (33, [o0, o1, o2, o3, o4, o5], [], pm_mm al D I L) = some (some (vi (-1)), pm_mm al D I L) :=
  sg_Ch_rank_0_0_33 ..
theorem sgb_Ch_rank_41 (X : Nat × (Nat → Int32)) (d : Nat) (o1 o2 : Option pm_V) (x3 x4 : Int32) (o5 : Option pm_V) (al : List Nat) (D : Nat → Bool) (I : Nat → Nat → Int32) (L : Nat → Nat → Int64) : Rn X d co_Ch_rank (41, [some (vr 1), o1, o2, some (vi x3), some (vi x4), o5], [], pm_mm al D I L) = cond (pm_in x3 2) (((Cl X d 134 [vr 1, vi (I 7 x3.toNatClampNeg)] (pm_mm al D I L)).bind pm_ai).bind (fun r => Rn X d co_Ch_rank (54, [some (vr 1), o1, o2, some (vi x3), some (vi x4), o5], [vi r.1], r.2))) none :=
  sg_Ch_rank_0_0_41 ..
theorem sgb_Ch_rank_54 (X : Nat × (Nat → Int32)) (d : Nat) (o1 o2 o3 : Option pm_V) (x4 : Int32) (o5 : Option pm_V) (u0 : Int32) (al : List Nat) (D : Nat → Bool) (I : Nat → Nat → Int32) (L : Nat → Nat → Int64) : Rn X d co_Ch_rank (54, [some (vr 1), o1, o2, o3, some (vi x4), o5], [vi u0], pm_mm al D I L) = cond (decide (x4 = (-1))) (Rn X d co_Ch_rank (74, [some (vr 1), o1, o2, o3, some (vi x4), some (vi u0)], [vi u0], pm_mm al D I L)) (cond (pm_in x4 6) (Rn X d co_Ch_rank (74, [some (vr 1), o1, o2, o3, some (vi x4), some (vi u0)], [vi (I 80 x4.toNatClampNeg)], pm_mm al D I L)) none) :=
  sg_Ch_rank_0_0_54 ..
theorem sgb_Ch_rank_74 (X : Nat × (Nat → Int32)) (d : Nat) (o0 o1 o2 o3 o4 o5 : Option pm_V) (u0 : Int32) (al : List Nat) (D : Nat → Bool) (I : Nat → Nat → Int32) (L : Nat → Nat → Int64) : Rn X d co_Ch_rank (74, [o0, o1, o2, o3, o4, o5], [vi u0], pm_mm al D I L) = some (some (vi u0), pm_mm al D I L) :=
  sg_Ch_rank_0_0_74 ..
theorem sgb_Ch_shift_0 {b : Nat} {s : Nat} (hb : b < 2) (hs : s < 2) (X : Nat × (Nat → Int32)) (d : Nat) (x3 x4 x5 : Int32) (o6 o7 : Option pm_V) (al : List Nat) (D : Nat → Bool) (I : Nat → Nat → Int32) (L : Nat → Nat → Int64) : Rn X d co_Ch_shift (0, [some (vr 1), some (vi (Int32.ofNat b)), some (vi (Int32.ofNat s)), some (vi x3), some (vi x4), some (vi x5), o6, o7], [], pm_mm al D I L) = ((Cl X d 121 [vr 1, vi (Int32.ofNat b), vi (Int32.ofNat s), vi x3] (pm_mm al D I L)).bind pm_ai).bind (fun r => Rn X d co_Ch_shift (7, [some (vr 1), some (vi (Int32.ofNat b)), some (vi (Int32.ofNat s)), some (vi x3), some (vi x4), some (vi x5), o6, o7], [vi r.1], r.2)) := by
  rcases two hb with rfl | rfl <;> rcases two hs with rfl | rfl
  · exact sg_Ch_shift_0_0_0 ..
  · exact sg_Ch_shift_0_1_0 ..
  · exact sg_Ch_shift_1_0_0 ..
  · exact sg_Ch_shift_1_1_0 ..
theorem sgb_Ch_shift_7 {b : Nat} {s : Nat} (hb : b < 2) (hs : s < 2) (X : Nat × (Nat → Int32)) (d : Nat) (x3 x4 x5 : Int32) (o6 o7 : Option pm_V) (u0 : Int32) (al : List Nat) (D : Nat → Bool) (I : Nat → Nat → Int32) (L : Nat → Nat → Int64) : Rn X d co_Ch_shift (7, [some (vr 1), some (vi (Int32.ofNat b)), some (vi (Int32.ofNat s)), some (vi x3), some (vi x4), some (vi x5), o6, o7], [vi u0], pm_mm al D I L) = cond (decide (u0 = 0)) (Rn X d co_Ch_shift (21, [some (vr 1), some (vi (Int32.ofNat b)), some (vi (Int32.ofNat s)), some (vi x3), some (vi x4), some (vi x5), o6, o7], [], pm_mm al D I L)) (cond (decide (x4 < 0)) (Rn X d co_Ch_shift (21, [some (vr 1), some (vi (Int32.ofNat b)), some (vi (Int32.ofNat s)), some (vi x3), some (vi x4), some (vi x5), o6, o7], [], pm_mm al D I L)) (cond (decide (x4 ≤ 2)) (cond (decide (x5 < (-1))) (Rn X d co_Ch_shift (50, [some (vr 1), some (vi (Int32.ofNat b)), some (vi (Int32.ofNat s)), some (vi x3), some (vi x4), some (vi x5), some (vr (19 + 4 * s)), o7], [], pm_mm al D I L)) (cond (decide (x5 < (I (19 + 4 * s) 0))) (((Cl X d 39 [vr 49, vr (9 + 5 * b)] (pm_mm al D I L)).bind pm_av).bind (fun r => Rn X d co_Ch_shift (68, [some (vr 1), some (vi (Int32.ofNat b)), some (vi (Int32.ofNat s)), some (vi x3), some (vi x4), some (vi x5), some (vr (19 + 4 * s)), o7], [], r))) (Rn X d co_Ch_shift (50, [some (vr 1), some (vi (Int32.ofNat b)), some (vi (Int32.ofNat s)), some (vi x3), some (vi x4), some (vi x5), some (vr (19 + 4 * s)), o7], [], pm_mm al D I L)))) (Rn X d co_Ch_shift (21, [some (vr 1), some (vi (Int32.ofNat b)), some (vi (Int32.ofNat s)), some (vi x3), some (vi x4), some (vi x5), o6, o7], [], pm_mm al D I L)))) := by
  rcases two hb with rfl | rfl <;> rcases two hs with rfl | rfl
  · exact sg_Ch_shift_0_0_7 ..
  · exact sg_Ch_shift_0_1_7 ..
  · exact sg_Ch_shift_1_0_7 ..
  · exact sg_Ch_shift_1_1_7 ..
theorem sgb_Ch_shift_21 (X : Nat × (Nat → Int32)) (d : Nat) (o0 o1 o2 o3 o4 o5 o6 o7 : Option pm_V) (al : List Nat) (D : Nat → Bool) (I : Nat → Nat → Int32) (L : Nat → Nat → Int64) : Rn X d co_Ch_shift (21, [o0, o1, o2, o3, o4, o5, o6, o7], [], pm_mm al D I L) = some (some (vi (-1)), pm_mm al D I L) :=
  sg_Ch_shift_0_0_21 ..
theorem sgb_Ch_shift_50 (X : Nat × (Nat → Int32)) (d : Nat) (o0 o1 o2 o3 o4 o5 o6 o7 : Option pm_V) (al : List Nat) (D : Nat → Bool) (I : Nat → Nat → Int32) (L : Nat → Nat → Int64) : Rn X d co_Ch_shift (50, [o0, o1, o2, o3, o4, o5, o6, o7], [], pm_mm al D I L) = some (some (vi (-1)), pm_mm al D I L) :=
  sg_Ch_shift_0_0_50 ..
theorem sgb_Ch_shift_68 {b : Nat} {s : Nat} (hb : b < 2) (hs : s < 2) (X : Nat × (Nat → Int32)) (d : Nat) (o1 o2 : Option pm_V) (x3 x4 x5 : Int32) (o7 : Option pm_V) (al : List Nat) (D : Nat → Bool) (I : Nat → Nat → Int32) (L : Nat → Nat → Int64) : Rn X d co_Ch_shift (68, [some (vr 1), o1, o2, some (vi x3), some (vi x4), some (vi x5), some (vr (19 + 4 * s)), o7], [], pm_mm al D I L) = cond (pm_in x3 2) (((Cl X d 87 [vr 60, vr 49, vr (19 + 4 * s), vi (I 7 x3.toNatClampNeg), vi x4] (pm_mm al D I L)).bind pm_ai).bind (fun r => Rn X d co_Ch_shift (92, [some (vr 1), o1, o2, some (vi x3), some (vi x4), some (vi x5), some (vr (19 + 4 * s)), o7], [vi r.1], r.2))) none := by
  rcases two hb with rfl | rfl <;> rcases two hs with rfl | rfl
  · exact sg_Ch_shift_0_0_68 ..
  · exact sg_Ch_shift_0_1_68 ..
  · exact sg_Ch_shift_1_0_68 ..
  · exact sg_Ch_shift_1_1_68 ..
theorem sgb_Ch_shift_92 (X : Nat × (Nat → Int32)) (d : Nat) (o1 o2 o3 o4 : Option pm_V) (x5 : Int32) (o6 o7 : Option pm_V) (u0 : Int32) (al : List Nat) (D : Nat → Bool) (I : Nat → Nat → Int32) (L : Nat → Nat → Int64) : Rn X d co_Ch_shift (92, [some (vr 1), o1, o2, o3, o4, some (vi x5), o6, o7], [vi u0], pm_mm al D I L) = cond (decide (u0 = 0)) (some (some (vi (-1)), pm_mm al D I L)) (cond (decide (x5 = (-1))) (Rn X d co_Ch_shift (127, [some (vr 1), o1, o2, o3, o4, some (vi x5), (pm_nl o6), some (vi u0)], [vi (I 60 0)], pm_mm al D I L)) (cond (pm_in x5 8) (Rn X d co_Ch_shift (127, [some (vr 1), o1, o2, o3, o4, some (vi x5), (pm_nl o6), some (vi u0)], [vi (I 61 x5.toNatClampNeg)], pm_mm al D I L)) none)) :=
  sg_Ch_shift_0_0_92 ..
theorem sgb_Ch_shift_127 (X : Nat × (Nat → Int32)) (d : Nat) (o0 o1 o2 o3 o4 o5 o6 o7 : Option pm_V) (u0 : Int32) (al : List Nat) (D : Nat → Bool) (I : Nat → Nat → Int32) (L : Nat → Nat → Int64) : Rn X d co_Ch_shift (127, [o0, o1, o2, o3, o4, o5, o6, o7], [vi u0], pm_mm al D I L) = some (some (vi u0), pm_mm al D I L) :=
  sg_Ch_shift_0_0_127 ..
theorem sgb_Ch_cut_0 {b : Nat} {s : Nat} (hb : b < 2) (hs : s < 2) (X : Nat × (Nat → Int32)) (d : Nat) (x3 x4 : Int32) (o5 o6 o7 o8 o9 o10 : Option pm_V) (al : List Nat) (D : Nat → Bool) (I : Nat → Nat → Int32) (L : Nat → Nat → Int64) : Rn X d co_Ch_cut (0, [some (vr 1), some (vi (Int32.ofNat b)), some (vi (Int32.ofNat s)), some (vi x3), some (vi x4), o5, o6, o7, o8, o9, o10], [], pm_mm al D I L) = ((Cl X d 121 [vr 1, vi (Int32.ofNat b), vi (Int32.ofNat s), vi x3] (pm_mm al D I L)).bind pm_ai).bind (fun r => Rn X d co_Ch_cut (7, [some (vr 1), some (vi (Int32.ofNat b)), some (vi (Int32.ofNat s)), some (vi x3), some (vi x4), o5, o6, o7, o8, o9, o10], [vi r.1], r.2)) := by
  rcases two hb with rfl | rfl <;> rcases two hs with rfl | rfl
  · exact sg_Ch_cut_0_0_0 ..
  · exact sg_Ch_cut_0_1_0 ..
  · exact sg_Ch_cut_1_0_0 ..
  · exact sg_Ch_cut_1_1_0 ..
theorem sgb_Ch_cut_7 {b : Nat} {s : Nat} (hb : b < 2) (hs : s < 2) (X : Nat × (Nat → Int32)) (d : Nat) (x3 x4 : Int32) (o5 o6 o7 o8 o9 o10 : Option pm_V) (u0 : Int32) (al : List Nat) (D : Nat → Bool) (I : Nat → Nat → Int32) (L : Nat → Nat → Int64) : Rn X d co_Ch_cut (7, [some (vr 1), some (vi (Int32.ofNat b)), some (vi (Int32.ofNat s)), some (vi x3), some (vi x4), o5, o6, o7, o8, o9, o10], [vi u0], pm_mm al D I L) = cond (decide (u0 = 0)) (some (some (vi (-1)), pm_mm al D I L)) (((Cl X d 39 [vr 49, vr (9 + 5 * b)] (pm_mm al D I L)).bind pm_av).bind (fun r => Rn X d co_Ch_cut (43, [some (vr 1), some (vi (Int32.ofNat b)), some (vi (Int32.ofNat s)), some (vi x3), some (vi x4), some (vr (9 + 5 * b)), some (vr (19 + 4 * s)), o7, o8, o9, o10], [], r))) := by
  rcases two hb with rfl | rfl <;> rcases two hs with rfl | rfl
  · exact sg_Ch_cut_0_0_7 ..
  · exact sg_Ch_cut_0_1_7 ..
  · exact sg_Ch_cut_1_0_7 ..
  · exact sg_Ch_cut_1_1_7 ..
theorem sgb_Ch_cut_43 {b : Nat} {s : Nat} (hb : b < 2) (hs : s < 2) (X : Nat × (Nat → Int32)) (d : Nat) (o1 o2 : Option pm_V) (x3 x4 : Int32) (o7 o8 o9 o10 : Option pm_V) (al : List Nat) (D : Nat → Bool) (I : Nat → Nat → Int32) (L : Nat → Nat → Int64) : Rn X d co_Ch_cut (43, [some (vr 1), o1, o2, some (vi x3), some (vi x4), some (vr (9 + 5 * b)), some (vr (19 + 4 * s)), o7, o8, o9, o10], [], pm_mm al D I L) = Rn X d co_Ch_cut (52, [some (vr 1), o1, o2, some (vi x3), some (vi x4), some (vr (9 + 5 * b)), some (vr (19 + 4 * s)), some (vi (-1)), some (vi 0), some (vi 0), o10], [], pm_mm al D I L) := by
  rcases two hb with rfl | rfl <;> rcases two hs with rfl | rfl
  · exact sg_Ch_cut_0_0_43 ..
  · exact sg_Ch_cut_0_1_43 ..
  · exact sg_Ch_cut_1_0_43 ..
  · exact sg_Ch_cut_1_1_43 ..
theorem sgb_Ch_cut_52 {b : Nat} {s : Nat} (hb : b < 2) (hs : s < 2) (X : Nat × (Nat → Int32)) (d : Nat) (o1 o2 : Option pm_V) (x3 x4 x7 x8 x9 : Int32) (o10 : Option pm_V) (al : List Nat) (D : Nat → Bool) (I : Nat → Nat → Int32) (L : Nat → Nat → Int64) : Rn X d co_Ch_cut (52, [some (vr 1), o1, o2, some (vi x3), some (vi x4), some (vr (9 + 5 * b)), some (vr (19 + 4 * s)), some (vi x7), some (vi x8), some (vi x9), o10], [], pm_mm al D I L) = cond (decide ((1 <<< ((I (19 + 4 * s) 0) &&& 31)) ≤ x9)) (cond (decide (x4 = 0)) (Rn X d co_Ch_cut (139, [some (vr 1), o1, o2, some (vi x3), some (vi x4), some (vr (9 + 5 * b)), some (vr (19 + 4 * s)), some (vi x7), some (vi x8), some (vi x9), o10], [vi x7], pm_mm al D I L)) (Rn X d co_Ch_cut (139, [some (vr 1), o1, o2, some (vi x3), some (vi x4), some (vr (9 + 5 * b)), some (vr (19 + 4 * s)), some (vi x7), some (vi x8), some (vi x9), o10], [vi x8], pm_mm al D I L))) (((Cl X d 85 [vr (19 + 4 * s), vr (9 + 5 * b), vi x9] (pm_mm al D I L)).bind pm_ai).bind (fun r => Rn X d co_Ch_cut (73, [some (vr 1), o1, o2, some (vi x3), some (vi x4), some (vr (9 + 5 * b)), some (vr (19 + 4 * s)), some (vi x7), some (vi x8), some (vi x9), o10], [vi r.1], r.2))) := by
  rcases two hb with rfl | rfl <;> rcases two hs with rfl | rfl
  · exact sg_Ch_cut_0_0_52 ..
  · exact sg_Ch_cut_0_1_52 ..
  · exact sg_Ch_cut_1_0_52 ..
  · exact sg_Ch_cut_1_1_52 ..
theorem sgb_Ch_cut_73 {b : Nat} {s : Nat} (hb : b < 2) (hs : s < 2) (X : Nat × (Nat → Int32)) (d : Nat) (o1 o2 : Option pm_V) (x3 x4 x7 x8 x9 : Int32) (o10 : Option pm_V) (u0 : Int32) (al : List Nat) (D : Nat → Bool) (I : Nat → Nat → Int32) (L : Nat → Nat → Int64) : Rn X d co_Ch_cut (73, [some (vr 1), o1, o2, some (vi x3), some (vi x4), some (vr (9 + 5 * b)), some (vr (19 + 4 * s)), some (vi x7), some (vi x8), some (vi x9), o10], [vi u0], pm_mm al D I L) = cond (decide (u0 ≤ x7)) (Rn X d co_Ch_cut (121, [some (vr 1), o1, o2, some (vi x3), some (vi x4), some (vr (9 + 5 * b)), some (vr (19 + 4 * s)), some (vi x7), some (vi x8), some (vi x9), some (vi u0)], [], pm_mm al D I L)) (((Cl X d 41 [vr 49, vr (19 + 4 * s), vi x9] (pm_mm al D I L)).bind pm_av).bind (fun r => Rn X d co_Ch_cut (93, [some (vr 1), o1, o2, some (vi x3), some (vi x4), some (vr (9 + 5 * b)), some (vr (19 + 4 * s)), some (vi x7), some (vi x8), some (vi x9), some (vi u0)], [], r))) := by
  rcases two hb with rfl | rfl <;> rcases two hs with rfl | rfl
  · exact sg_Ch_cut_0_0_73 ..
  · exact sg_Ch_cut_0_1_73 ..
  · exact sg_Ch_cut_1_0_73 ..
  · exact sg_Ch_cut_1_1_73 ..
theorem sgb_Ch_cut_93 {b : Nat} {s : Nat} (hb : b < 2) (hs : s < 2) (X : Nat × (Nat → Int32)) (d : Nat) (o1 o2 : Option pm_V) (x3 x4 x7 x8 x9 x10 : Int32) (al : List Nat) (D : Nat → Bool) (I : Nat → Nat → Int32) (L : Nat → Nat → Int64) : Rn X d co_Ch_cut (93, [some (vr 1), o1, o2, some (vi x3), some (vi x4), some (vr (9 + 5 * b)), some (vr (19 + 4 * s)), some (vi x7), some (vi x8), some (vi x9), some (vi x10)], [], pm_mm al D I L) = cond (pm_in x3 2) (((Cl X d 49 [vr 49, vi (I 7 x3.toNatClampNeg), vi 0] (pm_mm al D I L)).bind pm_ai).bind (fun r => Rn X d co_Ch_cut (110, [some (vr 1), o1, o2, some (vi x3), some (vi x4), some (vr (9 + 5 * b)), some (vr (19 + 4 * s)), some (vi x7), some (vi x8), some (vi x9), some (vi x10)], [vi r.1], r.2))) none := by
  rcases two hb with rfl | rfl <;> rcases two hs with rfl | rfl
  · exact sg_Ch_cut_0_0_93 ..
  · exact sg_Ch_cut_0_1_93 ..
  · exact sg_Ch_cut_1_0_93 ..
  · exact sg_Ch_cut_1_1_93 ..
theorem sgb_Ch_cut_110 {b : Nat} {s : Nat} (hb : b < 2) (hs : s < 2) (X : Nat × (Nat → Int32)) (d : Nat) (o1 o2 : Option pm_V) (x3 x4 x7 x8 x9 x10 u0 : Int32) (al : List Nat) (D : Nat → Bool) (I : Nat → Nat → Int32) (L : Nat → Nat → Int64) : Rn X d co_Ch_cut (110, [some (vr 1), o1, o2, some (vi x3), some (vi x4), some (vr (9 + 5 * b)), some (vr (19 + 4 * s)), some (vi x7), some (vi x8), some (vi x9), some (vi x10)], [vi u0], pm_mm al D I L) = cond (decide (u0 = 0)) (Rn X d co_Ch_cut (121, [some (vr 1), o1, o2, some (vi x3), some (vi x4), some (vr (9 + 5 * b)), some (vr (19 + 4 * s)), some (vi x7), some (vi x8), some (vi x9), some (vi x10)], [], pm_mm al D I L)) (Rn X d co_Ch_cut (121, [some (vr 1), o1, o2, some (vi x3), some (vi x4), some (vr (9 + 5 * b)), some (vr (19 + 4 * s)), some (vi x10), some (vi x9), some (vi x9), some (vi x10)], [], pm_mm al D I L)) := by
  rcases two hb with rfl | rfl <;> rcases two hs with rfl | rfl
  · exact sg_Ch_cut_0_0_110 ..
  · exact sg_Ch_cut_0_1_110 ..
  · exact sg_Ch_cut_1_0_110 ..
  · exact sg_Ch_cut_1_1_110 ..
theorem sgb_Ch_cut_121 {b : Nat} {s : Nat} (hb : b < 2) (hs : s < 2) (X : Nat × (Nat → Int32)) (d : Nat) (o1 o2 : Option pm_V) (x3 x4 x7 x8 x9 : Int32) (o10 : Option pm_V) (al : List Nat) (D : Nat → Bool) (I : Nat → Nat → Int32) (L : Nat → Nat → Int64) : Rn X d co_Ch_cut (121, [some (vr 1), o1, o2, some (vi x3), some (vi x4), some (vr (9 + 5 * b)), some (vr (19 + 4 * s)), some (vi x7), some (vi x8), some (vi x9), o10], [], pm_mm al D I L) = Rn X d co_Ch_cut (52, [some (vr 1), o1, o2, some (vi x3), some (vi x4), some (vr (9 + 5 * b)), some (vr (19 + 4 * s)), some (vi x7), some (vi x8), some (vi (x9 + 1)), o10], [], pm_mm al D I L) := by
  rcases two hb with rfl | rfl <;> rcases two hs with rfl | rfl
  · exact sg_Ch_cut_0_0_121 ..
  · exact sg_Ch_cut_0_1_121 ..
  · exact sg_Ch_cut_1_0_121 ..
  · exact sg_Ch_cut_1_1_121 ..
theorem sgb_Ch_cut_139 (X : Nat × (Nat → Int32)) (d : Nat) (o0 o1 o2 o3 o4 o5 o6 o7 o8 o9 o10 : Option pm_V) (u0 : Int32) (al : List Nat) (D : Nat → Bool) (I : Nat → Nat → Int32) (L : Nat → Nat → Int64) : Rn X d co_Ch_cut (139, [o0, o1, o2, o3, o4, o5, o6, o7, o8, o9, o10], [vi u0], pm_mm al D I L) = some (some (vi u0), pm_mm al D I L) :=
  sg_Ch_cut_0_0_139 ..
theorem sgb_Ch_waysOf_0 {b : Nat} {s : Nat} (hb : b < 2) (hs : s < 2) (X : Nat × (Nat → Int32)) (d : Nat) (o3 : Option pm_V) (al : List Nat) (D : Nat → Bool) (I : Nat → Nat → Int32) (L : Nat → Nat → Int64) : Rn X d co_Ch_waysOf (0, [some (vr 1), some (vi (Int32.ofNat b)), some (vi (Int32.ofNat s)), o3], [], pm_mm al (pm_tb (3 + 2 * b + s) D) I L) = Rn X d co_Ch_waysOf (28, [some (vr 1), some (vi (Int32.ofNat b)), some (vi (Int32.ofNat s)), some (vi (Int32.ofNat (2 * b + s)))], [], pm_mm al (pm_tb (3 + 2 * b + s) D) I L) := by
  rcases two hb with rfl | rfl <;> rcases two hs with rfl | rfl
  · exact sg_Ch_waysOf_0_0_t_0 ..
  · exact sg_Ch_waysOf_0_1_t_0 ..
  · exact sg_Ch_waysOf_1_0_t_0 ..
  · exact sg_Ch_waysOf_1_1_t_0 ..
theorem sgb_Ch_waysOf_28 {b : Nat} {s : Nat} (hb : b < 2) (hs : s < 2) (X : Nat × (Nat → Int32)) (d : Nat) (al : List Nat) (D : Nat → Bool) (I : Nat → Nat → Int32) (L : Nat → Nat → Int64) : Rn X d co_Ch_waysOf (28, [some (vr 1), some (vi (Int32.ofNat b)), some (vi (Int32.ofNat s)), some (vi (Int32.ofNat (2 * b + s)))], [], pm_mm al (pm_tb (3 + 2 * b + s) D) I L) = cond (decide ((I (220 + 6 * b + 3 * s) 3) = 0)) (((Cl X d 122 [vr 1, vi (Int32.ofNat b), vi (Int32.ofNat s)] (pm_mm al (pm_tb (3 + 2 * b + s) D) I L)).bind pm_av).bind (fun r => Rn X d co_Ch_waysOf (46, [some (vr 1), some (vi (Int32.ofNat b)), some (vi (Int32.ofNat s)), some (vi (Int32.ofNat (2 * b + s)))], [], r))) (Rn X d co_Ch_waysOf (59, [some (vr 1), some (vi (Int32.ofNat b)), some (vi (Int32.ofNat s)), some (vi (Int32.ofNat (2 * b + s)))], [], pm_mm al (pm_tb (3 + 2 * b + s) D) I L)) := by
  rcases two hb with rfl | rfl <;> rcases two hs with rfl | rfl
  · exact sg_Ch_waysOf_0_0_t_28 ..
  · exact sg_Ch_waysOf_0_1_t_28 ..
  · exact sg_Ch_waysOf_1_0_t_28 ..
  · exact sg_Ch_waysOf_1_1_t_28 ..
theorem sgb_Ch_waysOf_46 {b : Nat} {s : Nat} (hb : b < 2) (hs : s < 2) (X : Nat × (Nat → Int32)) (d : Nat) (o1 o2 : Option pm_V) (al : List Nat) (D : Nat → Bool) (I : Nat → Nat → Int32) (L : Nat → Nat → Int64) : Rn X d co_Ch_waysOf (46, [some (vr 1), o1, o2, some (vi (Int32.ofNat (2 * b + s)))], [], pm_mm al (pm_tb (3 + 2 * b + s) D) I L) = ((Cl X d 98 [vr (220 + 6 * b + 3 * s), vr 49] (pm_mm al (pm_tb (3 + 2 * b + s) D) I L)).bind pm_av).bind (fun r => Rn X d co_Ch_waysOf (59, [some (vr 1), o1, o2, some (vi (Int32.ofNat (2 * b + s)))], [], r)) := by
  rcases two hb with rfl | rfl <;> rcases two hs with rfl | rfl
  · exact sg_Ch_waysOf_0_0_t_46 ..
  · exact sg_Ch_waysOf_0_1_t_46 ..
  · exact sg_Ch_waysOf_1_0_t_46 ..
  · exact sg_Ch_waysOf_1_1_t_46 ..
theorem sgb_Ch_waysOf_59 {b : Nat} {s : Nat} (hb : b < 2) (hs : s < 2) (X : Nat × (Nat → Int32)) (d : Nat) (o1 o2 : Option pm_V) (al : List Nat) (D : Nat → Bool) (I : Nat → Nat → Int32) (L : Nat → Nat → Int64) : Rn X d co_Ch_waysOf (59, [some (vr 1), o1, o2, some (vi (Int32.ofNat (2 * b + s)))], [], pm_mm al (pm_tb (3 + 2 * b + s) D) I L) = some (some (vr (220 + 6 * b + 3 * s)), pm_mm al (pm_tb (3 + 2 * b + s) D) I L) := by
  rcases two hb with rfl | rfl <;> rcases two hs with rfl | rfl
  · exact sg_Ch_waysOf_0_0_t_59 ..
  · exact sg_Ch_waysOf_0_1_t_59 ..
  · exact sg_Ch_waysOf_1_0_t_59 ..
  · exact sg_Ch_waysOf_1_1_t_59 ..
theorem sgb_Ch_work_0 {b : Nat} {s : Nat} (hb : b < 2) (hs : s < 2) (X : Nat × (Nat → Int32)) (d : Nat) (x3 : Int32) (o4 o5 o6 o7 : Option pm_V) (al : List Nat) (D : Nat → Bool) (I : Nat → Nat → Int32) (L : Nat → Nat → Int64) : Rn X d co_Ch_work (0, [some (vr 1), some (vi (Int32.ofNat b)), some (vi (Int32.ofNat s)), some (vi x3), o4, o5, o6, o7], [], pm_mm al D I L) = ((Cl X d 120 [vr 1, vi (Int32.ofNat b), vi (Int32.ofNat s)] (pm_mm al D I L)).bind pm_ai).bind (fun r => Rn X d co_Ch_work (6, [some (vr 1), some (vi (Int32.ofNat b)), some (vi (Int32.ofNat s)), some (vi x3), o4, o5, o6, o7], [vi r.1], r.2)) := by
  rcases two hb with rfl | rfl <;> rcases two hs with rfl | rfl
  · exact sg_Ch_work_0_0_0 ..
  · exact sg_Ch_work_0_1_0 ..
  · exact sg_Ch_work_1_0_0 ..
  · exact sg_Ch_work_1_1_0 ..
theorem sgb_Ch_work_6 {b : Nat} {s : Nat} (hb : b < 2) (hs : s < 2) (X : Nat × (Nat → Int32)) (d : Nat) (x3 : Int32) (o4 o5 o6 o7 : Option pm_V) (u0 : Int32) (al : List Nat) (D : Nat → Bool) (I : Nat → Nat → Int32) (L : Nat → Nat → Int64) : Rn X d co_Ch_work (6, [some (vr 1), some (vi (Int32.ofNat b)), some (vi (Int32.ofNat s)), some (vi x3), o4, o5, o6, o7], [vi u0], pm_mm al D I L) = cond (decide (u0 = 0)) (some (some (vi (-1)), pm_mm al D I L)) (((Cl X d 137 [vr 1, vi (Int32.ofNat b), vi (Int32.ofNat s)] (pm_mm al D I L)).bind pm_ar).bind (fun r => Rn X d co_Ch_work (17, [some (vr 1), some (vi (Int32.ofNat b)), some (vi (Int32.ofNat s)), some (vi x3), o4, o5, o6, o7], [vr r.1], r.2))) := by
  rcases two hb with rfl | rfl <;> rcases two hs with rfl | rfl
  · exact sg_Ch_work_0_0_6 ..
  · exact sg_Ch_work_0_1_6 ..
  · exact sg_Ch_work_1_0_6 ..
  · exact sg_Ch_work_1_1_6 ..
theorem sgb_Ch_work_17 {b : Nat} {s : Nat} (hb : b < 2) (hs : s < 2) (X : Nat × (Nat → Int32)) (d : Nat) (o0 o1 o2 : Option pm_V) (x3 : Int32) (o4 o5 o6 o7 : Option pm_V) (al : List Nat) (D : Nat → Bool) (I : Nat → Nat → Int32) (L : Nat → Nat → Int64) : Rn X d co_Ch_work (17, [o0, o1, o2, some (vi x3), o4, o5, o6, o7], [vr (220 + 6 * b + 3 * s)], pm_mm al (pm_tb (3 + 2 * b + s) D) I L) = Rn X d co_Ch_work (32, [o0, o1, o2, some (vi x3), some (vr (221 + 6 * b + 3 * s)), some (vi 13), some (vi (-1)), some (vi 0)], [], pm_mm al (pm_tb (3 + 2 * b + s) D) I L) := by
  rcases two hb with rfl | rfl <;> rcases two hs with rfl | rfl
  · exact sg_Ch_work_0_0_17 ..
  · exact sg_Ch_work_0_1_17 ..
  · exact sg_Ch_work_1_0_17 ..
  · exact sg_Ch_work_1_1_17 ..
theorem sgb_Ch_work_32 {b : Nat} {s : Nat} (hb : b < 2) (hs : s < 2) (X : Nat × (Nat → Int32)) (d : Nat) (o0 o1 o2 : Option pm_V) (x3 x5 x6 x7 : Int32) (al : List Nat) (D : Nat → Bool) (I : Nat → Nat → Int32) (L : Nat → Nat → Int64) : Rn X d co_Ch_work (32, [o0, o1, o2, some (vi x3), some (vr (221 + 6 * b + 3 * s)), some (vi x5), some (vi x6), some (vi x7)], [], pm_mm al (pm_tb (3 + 2 * b + s) D) I L) = cond (decide (4096 ≤ x7)) (cond (decide (x6 = (-1))) (some (some (vi (-1)), pm_mm al (pm_tb (3 + 2 * b + s) D) I L)) (cond (decide (x3 = 0)) (Rn X d co_Ch_work (97, [o0, o1, o2, some (vi x3), some (vr (221 + 6 * b + 3 * s)), some (vi x5), some (vi x6), some (vi x7)], [vi x5], pm_mm al (pm_tb (3 + 2 * b + s) D) I L)) (Rn X d co_Ch_work (97, [o0, o1, o2, some (vi x3), some (vr (221 + 6 * b + 3 * s)), some (vi x5), some (vi x6), some (vi x7)], [vi x6], pm_mm al (pm_tb (3 + 2 * b + s) D) I L)))) (cond (pm_in x7 4096) (((Cl X d 102 [vl (L (221 + 6 * b + 3 * s) x7.toNatClampNeg)] (pm_mm al (pm_tb (3 + 2 * b + s) D) I L)).bind pm_ai).bind (fun r => Rn X d co_Ch_work (48, [o0, o1, o2, some (vi x3), some (vr (221 + 6 * b + 3 * s)), some (vi x5), some (vi x6), some (vi x7)], [vi r.1], r.2))) none) := by
  rcases two hb with rfl | rfl <;> rcases two hs with rfl | rfl
  · exact sg_Ch_work_0_0_32 ..
  · exact sg_Ch_work_0_1_32 ..
  · exact sg_Ch_work_1_0_32 ..
  · exact sg_Ch_work_1_1_32 ..
theorem sgb_Ch_work_48 {b : Nat} {s : Nat} (hb : b < 2) (hs : s < 2) (X : Nat × (Nat → Int32)) (d : Nat) (o0 o1 o2 : Option pm_V) (x3 x5 x6 x7 u0 : Int32) (al : List Nat) (D : Nat → Bool) (I : Nat → Nat → Int32) (L : Nat → Nat → Int64) : Rn X d co_Ch_work (48, [o0, o1, o2, some (vi x3), some (vr (221 + 6 * b + 3 * s)), some (vi x5), some (vi x6), some (vi x7)], [vi u0], pm_mm al (pm_tb (3 + 2 * b + s) D) I L) = cond (decide (u0 = 0)) (((Cl X d 1 [vi x7] (pm_mm al (pm_tb (3 + 2 * b + s) D) I L)).bind pm_ai).bind (fun r => Rn X d co_Ch_work (56, [o0, o1, o2, some (vi x3), some (vr (221 + 6 * b + 3 * s)), some (vi x5), some (vi x6), some (vi x7)], [vi r.1], r.2))) (Rn X d co_Ch_work (72, [o0, o1, o2, some (vi x3), some (vr (221 + 6 * b + 3 * s)), some (vi x5), some (vi x6), some (vi x7)], [], pm_mm al (pm_tb (3 + 2 * b + s) D) I L)) := by
  rcases two hb with rfl | rfl <;> rcases two hs with rfl | rfl
  · exact sg_Ch_work_0_0_48 ..
  · exact sg_Ch_work_0_1_48 ..
  · exact sg_Ch_work_1_0_48 ..
  · exact sg_Ch_work_1_1_48 ..
theorem sgb_Ch_work_56 {b : Nat} {s : Nat} (hb : b < 2) (hs : s < 2) (X : Nat × (Nat → Int32)) (d : Nat) (o0 o1 o2 : Option pm_V) (x3 x5 x6 x7 u0 : Int32) (al : List Nat) (D : Nat → Bool) (I : Nat → Nat → Int32) (L : Nat → Nat → Int64) : Rn X d co_Ch_work (56, [o0, o1, o2, some (vi x3), some (vr (221 + 6 * b + 3 * s)), some (vi x5), some (vi x6), some (vi x7)], [vi u0], pm_mm al (pm_tb (3 + 2 * b + s) D) I L) = cond (decide (x5 ≤ u0)) (Rn X d co_Ch_work (72, [o0, o1, o2, some (vi x3), some (vr (221 + 6 * b + 3 * s)), some (vi x5), some (vi x6), some (vi x7)], [], pm_mm al (pm_tb (3 + 2 * b + s) D) I L)) (((Cl X d 1 [vi x7] (pm_mm al (pm_tb (3 + 2 * b + s) D) I L)).bind pm_ai).bind (fun r => Rn X d co_Ch_work (66, [o0, o1, o2, some (vi x3), some (vr (221 + 6 * b + 3 * s)), some (vi x5), some (vi x6), some (vi x7)], [vi r.1], r.2))) := by
  rcases two hb with rfl | rfl <;> rcases two hs with rfl | rfl
  · exact sg_Ch_work_0_0_56 ..
  · exact sg_Ch_work_0_1_56 ..
  · exact sg_Ch_work_1_0_56 ..
  · exact sg_Ch_work_1_1_56 ..
theorem sgb_Ch_work_66 {b : Nat} {s : Nat} (hb : b < 2) (hs : s < 2) (X : Nat × (Nat → Int32)) (d : Nat) (o0 o1 o2 : Option pm_V) (x3 : Int32) (o5 o6 : Option pm_V) (x7 u0 : Int32) (al : List Nat) (D : Nat → Bool) (I : Nat → Nat → Int32) (L : Nat → Nat → Int64) : Rn X d co_Ch_work (66, [o0, o1, o2, some (vi x3), some (vr (221 + 6 * b + 3 * s)), o5, o6, some (vi x7)], [vi u0], pm_mm al (pm_tb (3 + 2 * b + s) D) I L) = Rn X d co_Ch_work (72, [o0, o1, o2, some (vi x3), some (vr (221 + 6 * b + 3 * s)), some (vi u0), some (vi x7), some (vi x7)], [], pm_mm al (pm_tb (3 + 2 * b + s) D) I L) := by
  rcases two hb with rfl | rfl <;> rcases two hs with rfl | rfl
  · exact sg_Ch_work_0_0_66 ..
  · exact sg_Ch_work_0_1_66 ..
  · exact sg_Ch_work_1_0_66 ..
  · exact sg_Ch_work_1_1_66 ..
theorem sgb_Ch_work_72 {b : Nat} {s : Nat} (hb : b < 2) (hs : s < 2) (X : Nat × (Nat → Int32)) (d : Nat) (o0 o1 o2 : Option pm_V) (x3 x5 x6 x7 : Int32) (al : List Nat) (D : Nat → Bool) (I : Nat → Nat → Int32) (L : Nat → Nat → Int64) : Rn X d co_Ch_work (72, [o0, o1, o2, some (vi x3), some (vr (221 + 6 * b + 3 * s)), some (vi x5), some (vi x6), some (vi x7)], [], pm_mm al (pm_tb (3 + 2 * b + s) D) I L) = Rn X d co_Ch_work (32, [o0, o1, o2, some (vi x3), some (vr (221 + 6 * b + 3 * s)), some (vi x5), some (vi x6), some (vi (x7 + 1))], [], pm_mm al (pm_tb (3 + 2 * b + s) D) I L) := by
  rcases two hb with rfl | rfl <;> rcases two hs with rfl | rfl
  · exact sg_Ch_work_0_0_72 ..
  · exact sg_Ch_work_0_1_72 ..
  · exact sg_Ch_work_1_0_72 ..
  · exact sg_Ch_work_1_1_72 ..
theorem sgb_Ch_work_97 (X : Nat × (Nat → Int32)) (d : Nat) (o0 o1 o2 o3 o4 o5 o6 o7 : Option pm_V) (u0 : Int32) (al : List Nat) (D : Nat → Bool) (I : Nat → Nat → Int32) (L : Nat → Nat → Int64) : Rn X d co_Ch_work (97, [o0, o1, o2, o3, o4, o5, o6, o7], [vi u0], pm_mm al D I L) = some (some (vi u0), pm_mm al D I L) :=
  sg_Ch_work_0_0_97 ..
theorem sgb_Ch_blind_0 {b : Nat} (hb : b < 2) (X : Nat × (Nat → Int32)) (d : Nat) (x2 : Int32) (o3 o4 o5 o6 o7 o8 : Option pm_V) (al : List Nat) (D : Nat → Bool) (I : Nat → Nat → Int32) (L : Nat → Nat → Int64) : Rn X d co_Ch_blind (0, [some (vr 1), some (vi (Int32.ofNat b)), some (vi x2), o3, o4, o5, o6, o7, o8], [], pm_mm al D I L) = ((Cl X d 93 [vr 2, vi 0, vi (Int32.ofNat b)] (pm_mm al D I L)).bind pm_ai).bind (fun r => Rn X d co_Ch_blind (9, [some (vr 1), some (vi (Int32.ofNat b)), some (vi x2), o3, o4, o5, o6, o7, o8], [vi r.1], r.2)) := by
  rcases two hb with rfl | rfl
  · exact sg_Ch_blind_0_0 ..
  · exact sg_Ch_blind_1_0 ..
theorem sgb_Ch_blind_9 {b : Nat} (hb : b < 2) (X : Nat × (Nat → Int32)) (d : Nat) (x2 : Int32) (o3 o4 o5 o6 o7 o8 : Option pm_V) (u0 : Int32) (al : List Nat) (D : Nat → Bool) (I : Nat → Nat → Int32) (L : Nat → Nat → Int64) : Rn X d co_Ch_blind (9, [some (vr 1), some (vi (Int32.ofNat b)), some (vi x2), o3, o4, o5, o6, o7, o8], [vi u0], pm_mm al D I L) = cond (decide (u0 = 0)) (Rn X d co_Ch_blind (24, [some (vr 1), some (vi (Int32.ofNat b)), some (vi x2), o3, o4, o5, o6, o7, o8], [], pm_mm al D I L)) (cond (decide ((I 4 1) = 0)) (Rn X d co_Ch_blind (24, [some (vr 1), some (vi (Int32.ofNat b)), some (vi x2), o3, o4, o5, o6, o7, o8], [], pm_mm al D I L)) (((Cl X d 137 [vr 1, vi (Int32.ofNat b), vi 0] (pm_mm al D I L)).bind pm_ar).bind (fun r => Rn X d co_Ch_blind (32, [some (vr 1), some (vi (Int32.ofNat b)), some (vi x2), o3, o4, o5, o6, o7, o8], [vr r.1], r.2)))) := by
  rcases two hb with rfl | rfl
  · exact sg_Ch_blind_0_9 ..
  · exact sg_Ch_blind_1_9 ..
theorem sgb_Ch_blind_24 (X : Nat × (Nat → Int32)) (d : Nat) (o0 o1 o2 o3 o4 o5 o6 o7 o8 : Option pm_V) (al : List Nat) (D : Nat → Bool) (I : Nat → Nat → Int32) (L : Nat → Nat → Int64) : Rn X d co_Ch_blind (24, [o0, o1, o2, o3, o4, o5, o6, o7, o8], [], pm_mm al D I L) = some (some (vi (-1)), pm_mm al D I L) :=
  sg_Ch_blind_0_24 ..
theorem sgb_Ch_blind_32 {b : Nat} (hb : b < 2) (X : Nat × (Nat → Int32)) (d : Nat) (x2 : Int32) (o3 o4 o5 o6 o7 o8 : Option pm_V) (al : List Nat) (D : Nat → Bool) (I : Nat → Nat → Int32) (L : Nat → Nat → Int64) : Rn X d co_Ch_blind (32, [some (vr 1), some (vi (Int32.ofNat b)), some (vi x2), o3, o4, o5, o6, o7, o8], [vr (220 + 6 * b)], pm_mm al (pm_tb (3 + 2 * b) D) I L) = cond (decide ((I 4 1) ≤ 1)) (Rn X d co_Ch_blind (62, [some (vr 1), some (vi (Int32.ofNat b)), some (vi x2), some (vr (221 + 6 * b)), o4, o5, o6, o7, o8], [vr (221 + 6 * b)], pm_mm al (pm_tb (3 + 2 * b) D) I L)) (((Cl X d 137 [vr 1, vi (Int32.ofNat b), vi 1] (pm_mm al (pm_tb (3 + 2 * b) D) I L)).bind pm_ar).bind (fun r => Rn X d co_Ch_blind (55, [some (vr 1), some (vi (Int32.ofNat b)), some (vi x2), some (vr (221 + 6 * b)), o4, o5, o6, o7, o8], [vr r.1], r.2))) := by
  rcases two hb with rfl | rfl
  · exact sg_Ch_blind_0_32 ..
  · exact sg_Ch_blind_1_32 ..
theorem sgb_Ch_blind_55 {b : Nat} (hb : b < 2) (X : Nat × (Nat → Int32)) (d : Nat) (o0 o1 : Option pm_V) (x2 : Int32) (o4 o5 o6 o7 o8 : Option pm_V) (al : List Nat) (D : Nat → Bool) (I : Nat → Nat → Int32) (L : Nat → Nat → Int64) : Rn X d co_Ch_blind (55, [o0, o1, some (vi x2), some (vr (221 + 6 * b)), o4, o5, o6, o7, o8], [vr (223 + 6 * b)], pm_mm al (pm_tb (4 + 2 * b) (pm_tb (3 + 2 * b) D)) I L) = Rn X d co_Ch_blind (62, [o0, o1, some (vi x2), some (vr (221 + 6 * b)), o4, o5, o6, o7, o8], [vr (224 + 6 * b)], pm_mm al (pm_tb (4 + 2 * b) (pm_tb (3 + 2 * b) D)) I L) := by
  rcases two hb with rfl | rfl
  · exact sg_Ch_blind_0_55 ..
  · exact sg_Ch_blind_1_55 ..
theorem sgb_Ch_blind_62 {b : Nat} (hb : b < 2) (X : Nat × (Nat → Int32)) (d : Nat) (o0 o1 : Option pm_V) (x2 : Int32) (o4 o5 o6 o7 o8 : Option pm_V) (p0 : Nat) (al : List Nat) (D : Nat → Bool) (I : Nat → Nat → Int32) (L : Nat → Nat → Int64) : Rn X d co_Ch_blind (62, [o0, o1, some (vi x2), some (vr (221 + 6 * b)), o4, o5, o6, o7, o8], [vr p0], pm_mm al (pm_tb (3 + 2 * b) D) I L) = Rn X d co_Ch_blind (75, [o0, o1, some (vi x2), some (vr (221 + 6 * b)), some (vr p0), some (vi 1000000), some (vi 0), some (vi 0), o8], [], pm_mm al (pm_tb (3 + 2 * b) D) I L) := by
  rcases two hb with rfl | rfl
  · exact sg_Ch_blind_0_62 ..
  · exact sg_Ch_blind_1_62 ..
theorem sgb_Ch_blind_75 {b : Nat} (hb : b < 2) (X : Nat × (Nat → Int32)) (d : Nat) (o0 o1 : Option pm_V) (x2 : Int32) (q4 : Nat) (x5 x6 x7 : Int32) (o8 : Option pm_V) (al : List Nat) (D : Nat → Bool) (I : Nat → Nat → Int32) (L : Nat → Nat → Int64) : Rn X d co_Ch_blind (75, [o0, o1, some (vi x2), some (vr (221 + 6 * b)), some (vr q4), some (vi x5), some (vi x6), some (vi x7), o8], [], pm_mm al (pm_tb (3 + 2 * b) D) I L) = cond (decide (4096 ≤ x7)) (cond (decide (x2 = 0)) (Rn X d co_Ch_blind (155, [o0, o1, some (vi x2), some (vr (221 + 6 * b)), some (vr q4), some (vi x5), some (vi x6), some (vi x7), o8], [vi x5], pm_mm al (pm_tb (3 + 2 * b) D) I L)) (Rn X d co_Ch_blind (155, [o0, o1, some (vi x2), some (vr (221 + 6 * b)), some (vr q4), some (vi x5), some (vi x6), some (vi x7), o8], [vi x6], pm_mm al (pm_tb (3 + 2 * b) D) I L))) (cond (pm_in x7 4096) (((Cl X d 102 [vl (L (221 + 6 * b) x7.toNatClampNeg)] (pm_mm al (pm_tb (3 + 2 * b) D) I L)).bind pm_ai).bind (fun r => Rn X d co_Ch_blind (90, [o0, o1, some (vi x2), some (vr (221 + 6 * b)), some (vr q4), some (vi x5), some (vi x6), some (vi x7), o8], [vi r.1], r.2))) none) := by
  rcases two hb with rfl | rfl
  · exact sg_Ch_blind_0_75 ..
  · exact sg_Ch_blind_1_75 ..
theorem sgb_Ch_blind_90 {b : Nat} (hb : b < 2) (X : Nat × (Nat → Int32)) (d : Nat) (o0 o1 : Option pm_V) (x2 : Int32) (q4 : Nat) (x5 x6 x7 : Int32) (o8 : Option pm_V) (u0 : Int32) (al : List Nat) (D : Nat → Bool) (I : Nat → Nat → Int32) (L : Nat → Nat → Int64) : Rn X d co_Ch_blind (90, [o0, o1, some (vi x2), some (vr (221 + 6 * b)), some (vr q4), some (vi x5), some (vi x6), some (vi x7), o8], [vi u0], pm_mm al (pm_tb (3 + 2 * b) D) I L) = cond (pm_is (pm_mm al (pm_tb (3 + 2 * b) D) I L) q4 4 && pm_in x7 ((pm_kd q4).2)) (((Cl X d 102 [vl (L q4 x7.toNatClampNeg)] (pm_mm al (pm_tb (3 + 2 * b) D) I L)).bind pm_ai).bind (fun r => Rn X d co_Ch_blind (98, [o0, o1, some (vi x2), some (vr (221 + 6 * b)), some (vr q4), some (vi x5), some (vi x6), some (vi x7), o8], [vi r.1, vi u0], r.2))) none := by
  rcases two hb with rfl | rfl
  · exact sg_Ch_blind_0_90 ..
  · exact sg_Ch_blind_1_90 ..
theorem sgb_Ch_blind_98 {b : Nat} (hb : b < 2) (X : Nat × (Nat → Int32)) (d : Nat) (o0 o1 : Option pm_V) (x2 : Int32) (q4 : Nat) (x5 x6 x7 : Int32) (o8 : Option pm_V) (u0 u1 : Int32) (al : List Nat) (D : Nat → Bool) (I : Nat → Nat → Int32) (L : Nat → Nat → Int64) : Rn X d co_Ch_blind (98, [o0, o1, some (vi x2), some (vr (221 + 6 * b)), some (vr q4), some (vi x5), some (vi x6), some (vi x7), o8], [vi u1, vi u0], pm_mm al (pm_tb (3 + 2 * b) D) I L) = ((Cl X d 4 [vi u0, vi u1] (pm_mm al (pm_tb (3 + 2 * b) D) I L)).bind pm_ai).bind (fun r => Rn X d co_Ch_blind (101, [o0, o1, some (vi x2), some (vr (221 + 6 * b)), some (vr q4), some (vi x5), some (vi x6), some (vi x7), o8], [vi r.1], r.2)) := by
  rcases two hb with rfl | rfl
  · exact sg_Ch_blind_0_98 ..
  · exact sg_Ch_blind_1_98 ..
theorem sgb_Ch_blind_101 {b : Nat} (hb : b < 2) (X : Nat × (Nat → Int32)) (d : Nat) (o0 o1 : Option pm_V) (x2 : Int32) (q4 : Nat) (x5 x6 x7 : Int32) (o8 : Option pm_V) (u0 : Int32) (al : List Nat) (D : Nat → Bool) (I : Nat → Nat → Int32) (L : Nat → Nat → Int64) : Rn X d co_Ch_blind (101, [o0, o1, some (vi x2), some (vr (221 + 6 * b)), some (vr q4), some (vi x5), some (vi x6), some (vi x7), o8], [vi u0], pm_mm al (pm_tb (3 + 2 * b) D) I L) = cond (decide (u0 < x5)) (Rn X d co_Ch_blind (130, [o0, o1, some (vi x2), some (vr (221 + 6 * b)), some (vr q4), some (vi x5), some (vi x6), some (vi x7), some (vi u0)], [], pm_mm al (pm_tb (3 + 2 * b) D) I L)) (cond (decide (u0 = x5)) (((Cl X d 1 [vi x7] (pm_mm al (pm_tb (3 + 2 * b) D) I L)).bind pm_ai).bind (fun r => Rn X d co_Ch_blind (122, [o0, o1, some (vi x2), some (vr (221 + 6 * b)), some (vr q4), some (vi x5), some (vi x6), some (vi x7), some (vi u0)], [vi r.1], r.2))) (Rn X d co_Ch_blind (138, [o0, o1, some (vi x2), some (vr (221 + 6 * b)), some (vr q4), some (vi x5), some (vi x6), some (vi x7), some (vi u0)], [], pm_mm al (pm_tb (3 + 2 * b) D) I L))) := by
  rcases two hb with rfl | rfl
  · exact sg_Ch_blind_0_101 ..
  · exact sg_Ch_blind_1_101 ..
theorem sgb_Ch_blind_122 {b : Nat} (hb : b < 2) (X : Nat × (Nat → Int32)) (d : Nat) (o0 o1 : Option pm_V) (x2 : Int32) (q4 : Nat) (x5 x6 x7 x8 u0 : Int32) (al : List Nat) (D : Nat → Bool) (I : Nat → Nat → Int32) (L : Nat → Nat → Int64) : Rn X d co_Ch_blind (122, [o0, o1, some (vi x2), some (vr (221 + 6 * b)), some (vr q4), some (vi x5), some (vi x6), some (vi x7), some (vi x8)], [vi u0], pm_mm al (pm_tb (3 + 2 * b) D) I L) = ((Cl X d 1 [vi x6] (pm_mm al (pm_tb (3 + 2 * b) D) I L)).bind pm_ai).bind (fun r => Rn X d co_Ch_blind (127, [o0, o1, some (vi x2), some (vr (221 + 6 * b)), some (vr q4), some (vi x5), some (vi x6), some (vi x7), some (vi x8)], [vi r.1, vi u0], r.2)) := by
  rcases two hb with rfl | rfl
  · exact sg_Ch_blind_0_122 ..
  · exact sg_Ch_blind_1_122 ..
theorem sgb_Ch_blind_127 {b : Nat} (hb : b < 2) (X : Nat × (Nat → Int32)) (d : Nat) (o0 o1 : Option pm_V) (x2 : Int32) (q4 : Nat) (x5 x6 x7 x8 u0 u1 : Int32) (al : List Nat) (D : Nat → Bool) (I : Nat → Nat → Int32) (L : Nat → Nat → Int64) : Rn X d co_Ch_blind (127, [o0, o1, some (vi x2), some (vr (221 + 6 * b)), some (vr q4), some (vi x5), some (vi x6), some (vi x7), some (vi x8)], [vi u1, vi u0], pm_mm al (pm_tb (3 + 2 * b) D) I L) = cond (decide (u1 ≤ u0)) (Rn X d co_Ch_blind (138, [o0, o1, some (vi x2), some (vr (221 + 6 * b)), some (vr q4), some (vi x5), some (vi x6), some (vi x7), some (vi x8)], [], pm_mm al (pm_tb (3 + 2 * b) D) I L)) (Rn X d co_Ch_blind (130, [o0, o1, some (vi x2), some (vr (221 + 6 * b)), some (vr q4), some (vi x5), some (vi x6), some (vi x7), some (vi x8)], [], pm_mm al (pm_tb (3 + 2 * b) D) I L)) := by
  rcases two hb with rfl | rfl
  · exact sg_Ch_blind_0_127 ..
  · exact sg_Ch_blind_1_127 ..
theorem sgb_Ch_blind_130 {b : Nat} (hb : b < 2) (X : Nat × (Nat → Int32)) (d : Nat) (o0 o1 : Option pm_V) (x2 : Int32) (q4 : Nat) (o5 o6 : Option pm_V) (x7 x8 : Int32) (al : List Nat) (D : Nat → Bool) (I : Nat → Nat → Int32) (L : Nat → Nat → Int64) : Rn X d co_Ch_blind (130, [o0, o1, some (vi x2), some (vr (221 + 6 * b)), some (vr q4), o5, o6, some (vi x7), some (vi x8)], [], pm_mm al (pm_tb (3 + 2 * b) D) I L) = Rn X d co_Ch_blind (138, [o0, o1, some (vi x2), some (vr (221 + 6 * b)), some (vr q4), some (vi x8), some (vi x7), some (vi x7), some (vi x8)], [], pm_mm al (pm_tb (3 + 2 * b) D) I L) := by
  rcases two hb with rfl | rfl
  · exact sg_Ch_blind_0_130 ..
  · exact sg_Ch_blind_1_130 ..
theorem sgb_Ch_blind_138 {b : Nat} (hb : b < 2) (X : Nat × (Nat → Int32)) (d : Nat) (o0 o1 : Option pm_V) (x2 : Int32) (q4 : Nat) (x5 x6 x7 : Int32) (o8 : Option pm_V) (al : List Nat) (D : Nat → Bool) (I : Nat → Nat → Int32) (L : Nat → Nat → Int64) : Rn X d co_Ch_blind (138, [o0, o1, some (vi x2), some (vr (221 + 6 * b)), some (vr q4), some (vi x5), some (vi x6), some (vi x7), o8], [], pm_mm al (pm_tb (3 + 2 * b) D) I L) = Rn X d co_Ch_blind (75, [o0, o1, some (vi x2), some (vr (221 + 6 * b)), some (vr q4), some (vi x5), some (vi x6), some (vi (x7 + 1)), o8], [], pm_mm al (pm_tb (3 + 2 * b) D) I L) := by
  rcases two hb with rfl | rfl
  · exact sg_Ch_blind_0_138 ..
  · exact sg_Ch_blind_1_138 ..
theorem sgb_Ch_blind_155 (X : Nat × (Nat → Int32)) (d : Nat) (o0 o1 o2 o3 o4 o5 o6 o7 o8 : Option pm_V) (u0 : Int32) (al : List Nat) (D : Nat → Bool) (I : Nat → Nat → Int32) (L : Nat → Nat → Int64) : Rn X d co_Ch_blind (155, [o0, o1, o2, o3, o4, o5, o6, o7, o8], [vi u0], pm_mm al D I L) = some (some (vi u0), pm_mm al D I L) :=
  sg_Ch_blind_0_155 ..
theorem sgb_Ch_odds_0 {b : Nat} {s : Nat} (hb : b < 2) (hs : s < 2) (X : Nat × (Nat → Int32)) (d : Nat) (x3 x4 : Int32) (o5 o6 o7 o8 : Option pm_V) (al : List Nat) (D : Nat → Bool) (I : Nat → Nat → Int32) (L : Nat → Nat → Int64) : Rn X d co_Ch_odds (0, [some (vr 1), some (vi (Int32.ofNat b)), some (vi (Int32.ofNat s)), some (vi x3), some (vi x4), o5, o6, o7, o8], [], pm_mm al D I L) = ((Cl X d 120 [vr 1, vi (Int32.ofNat b), vi (Int32.ofNat s)] (pm_mm al D I L)).bind pm_ai).bind (fun r => Rn X d co_Ch_odds (6, [some (vr 1), some (vi (Int32.ofNat b)), some (vi (Int32.ofNat s)), some (vi x3), some (vi x4), o5, o6, o7, o8], [vi r.1], r.2)) := by
  rcases two hb with rfl | rfl <;> rcases two hs with rfl | rfl
  · exact sg_Ch_odds_0_0_0 ..
  · exact sg_Ch_odds_0_1_0 ..
  · exact sg_Ch_odds_1_0_0 ..
  · exact sg_Ch_odds_1_1_0 ..
theorem sgb_Ch_odds_6 {b : Nat} {s : Nat} (hb : b < 2) (hs : s < 2) (X : Nat × (Nat → Int32)) (d : Nat) (x3 x4 : Int32) (o5 o6 o7 o8 : Option pm_V) (u0 : Int32) (al : List Nat) (D : Nat → Bool) (I : Nat → Nat → Int32) (L : Nat → Nat → Int64) : Rn X d co_Ch_odds (6, [some (vr 1), some (vi (Int32.ofNat b)), some (vi (Int32.ofNat s)), some (vi x3), some (vi x4), o5, o6, o7, o8], [vi u0], pm_mm al D I L) = cond (decide (u0 = 0)) (Rn X d co_Ch_odds (19, [some (vr 1), some (vi (Int32.ofNat b)), some (vi (Int32.ofNat s)), some (vi x3), some (vi x4), o5, o6, o7, o8], [], pm_mm al D I L)) (cond (decide (x3 < 0)) (Rn X d co_Ch_odds (19, [some (vr 1), some (vi (Int32.ofNat b)), some (vi (Int32.ofNat s)), some (vi x3), some (vi x4), o5, o6, o7, o8], [], pm_mm al D I L)) (cond (decide (x3 ≤ 10)) (((Cl X d 137 [vr 1, vi (Int32.ofNat b), vi (Int32.ofNat s)] (pm_mm al D I L)).bind pm_ar).bind (fun r => Rn X d co_Ch_odds (29, [some (vr 1), some (vi (Int32.ofNat b)), some (vi (Int32.ofNat s)), some (vi x3), some (vi x4), o5, o6, o7, o8], [vr r.1], r.2))) (Rn X d co_Ch_odds (19, [some (vr 1), some (vi (Int32.ofNat b)), some (vi (Int32.ofNat s)), some (vi x3), some (vi x4), o5, o6, o7, o8], [], pm_mm al D I L)))) := by
  rcases two hb with rfl | rfl <;> rcases two hs with rfl | rfl
  · exact sg_Ch_odds_0_0_6 ..
  · exact sg_Ch_odds_0_1_6 ..
  · exact sg_Ch_odds_1_0_6 ..
  · exact sg_Ch_odds_1_1_6 ..
theorem sgb_Ch_odds_19 (X : Nat × (Nat → Int32)) (d : Nat) (o0 o1 o2 o3 o4 o5 o6 o7 o8 : Option pm_V) (al : List Nat) (D : Nat → Bool) (I : Nat → Nat → Int32) (L : Nat → Nat → Int64) : Rn X d co_Ch_odds (19, [o0, o1, o2, o3, o4, o5, o6, o7, o8], [], pm_mm al D I L) = some (some (vl (-1)), pm_mm al D I L) :=
  sg_Ch_odds_0_0_19 ..
theorem sgb_Ch_odds_29 {b : Nat} {s : Nat} (hb : b < 2) (hs : s < 2) (X : Nat × (Nat → Int32)) (d : Nat) (o0 o1 o2 : Option pm_V) (x3 x4 : Int32) (o5 o6 o7 o8 : Option pm_V) (al : List Nat) (D : Nat → Bool) (I : Nat → Nat → Int32) (L : Nat → Nat → Int64) : Rn X d co_Ch_odds (29, [o0, o1, o2, some (vi x3), some (vi x4), o5, o6, o7, o8], [vr (220 + 6 * b + 3 * s)], pm_mm al (pm_tb (3 + 2 * b + s) D) I L) = Rn X d co_Ch_odds (40, [o0, o1, o2, some (vi x3), some (vi x4), some (vr (222 + 6 * b + 3 * s)), some (vl 0), none, some (vi 0)], [], pm_mm al (pm_tb (3 + 2 * b + s) D) I L) := by
  rcases two hb with rfl | rfl <;> rcases two hs with rfl | rfl
  · exact sg_Ch_odds_0_0_29 ..
  · exact sg_Ch_odds_0_1_29 ..
  · exact sg_Ch_odds_1_0_29 ..
  · exact sg_Ch_odds_1_1_29 ..
theorem sgb_Ch_odds_40 {b : Nat} {s : Nat} (hb : b < 2) (hs : s < 2) (X : Nat × (Nat → Int32)) (d : Nat) (o0 o1 o2 : Option pm_V) (x3 x4 : Int32) (y6 : Int64) (x8 : Int32) (al : List Nat) (D : Nat → Bool) (I : Nat → Nat → Int32) (L : Nat → Nat → Int64) : Rn X d co_Ch_odds (40, [o0, o1, o2, some (vi x3), some (vi x4), some (vr (222 + 6 * b + 3 * s)), some (vl y6), none, some (vi x8)], [], pm_mm al (pm_tb (3 + 2 * b + s) D) I L) = cond (decide (12 < x8)) (((Cl X d 158 [vi 10, vi 12] (pm_mm al (pm_tb (3 + 2 * b + s) D) I L)).bind pm_al).bind (fun r => Rn X d co_Ch_odds (82, [o0, o1, o2, some (vi x3), some (vi x4), some (vr (222 + 6 * b + 3 * s)), some (vl y6), none, some (vi x8)], [vl r.1, vl y6], r.2))) (cond (pm_in x8 13) (((Cl X d 159 [vi x3, vi x8, vi 12] (pm_mm al (pm_tb (3 + 2 * b + s) D) I L)).bind pm_al).bind (fun r => Rn X d co_Ch_odds (63, [o0, o1, o2, some (vi x3), some (vi x4), some (vr (222 + 6 * b + 3 * s)), some (vl y6), none, some (vi x8)], [vl r.1, vl ((I (222 + 6 * b + 3 * s) x8.toNatClampNeg).toInt64), vl y6], r.2))) none) := by
  rcases two hb with rfl | rfl <;> rcases two hs with rfl | rfl
  · exact sg_Ch_odds_0_0_40 ..
  · exact sg_Ch_odds_0_1_40 ..
  · exact sg_Ch_odds_1_0_40 ..
  · exact sg_Ch_odds_1_1_40 ..
theorem sgb_Ch_odds_63 {b : Nat} {s : Nat} (hb : b < 2) (hs : s < 2) (X : Nat × (Nat → Int32)) (d : Nat) (o0 o1 o2 : Option pm_V) (x3 x4 : Int32) (o6 o7 : Option pm_V) (x8 : Int32) (w0 w1 w2 : Int64) (al : List Nat) (D : Nat → Bool) (I : Nat → Nat → Int32) (L : Nat → Nat → Int64) : Rn X d co_Ch_odds (63, [o0, o1, o2, some (vi x3), some (vi x4), some (vr (222 + 6 * b + 3 * s)), o6, o7, some (vi x8)], [vl w2, vl w1, vl w0], pm_mm al (pm_tb (3 + 2 * b + s) D) I L) = Rn X d co_Ch_odds (40, [o0, o1, o2, some (vi x3), some (vi x4), some (vr (222 + 6 * b + 3 * s)), some (vl (w0 + (w1 * w2))), none, some (vi (x8 + 1))], [], pm_mm al (pm_tb (3 + 2 * b + s) D) I L) := by
  rcases two hb with rfl | rfl <;> rcases two hs with rfl | rfl
  · exact sg_Ch_odds_0_0_63 ..
  · exact sg_Ch_odds_0_1_63 ..
  · exact sg_Ch_odds_1_0_63 ..
  · exact sg_Ch_odds_1_1_63 ..
theorem sgb_Ch_odds_82 (X : Nat × (Nat → Int32)) (d : Nat) (o0 o1 o2 o3 : Option pm_V) (x4 : Int32) (o5 o6 o7 o8 : Option pm_V) (w0 w1 : Int64) (al : List Nat) (D : Nat → Bool) (I : Nat → Nat → Int32) (L : Nat → Nat → Int64) : Rn X d co_Ch_odds (82, [o0, o1, o2, o3, some (vi x4), o5, o6, o7, o8], [vl w1, vl w0], pm_mm al D I L) = ((Cl X d 157 [vl w0, vl w1, vi x4] (pm_mm al D I L)).bind pm_al).bind (fun r => Rn X d co_Ch_odds (87, [o0, o1, o2, o3, some (vi x4), o5, o6, o7, o8], [vl r.1], r.2)) :=
  sg_Ch_odds_0_0_82 ..
theorem sgb_Ch_odds_87 (X : Nat × (Nat → Int32)) (d : Nat) (o0 o1 o2 o3 o4 o5 o6 o7 o8 : Option pm_V) (w0 : Int64) (al : List Nat) (D : Nat → Bool) (I : Nat → Nat → Int32) (L : Nat → Nat → Int64) : Rn X d co_Ch_odds (87, [o0, o1, o2, o3, o4, o5, o6, o7, o8], [vl w0], pm_mm al D I L) = some (some (vl w0), pm_mm al D I L) :=
  sg_Ch_odds_0_0_87 ..
theorem sgb_Ch_mean_0 {b : Nat} {s : Nat} (hb : b < 2) (hs : s < 2) (X : Nat × (Nat → Int32)) (d : Nat) (x3 : Int32) (al : List Nat) (D : Nat → Bool) (I : Nat → Nat → Int32) (L : Nat → Nat → Int64) : Rn X d co_Ch_mean (0, [some (vr 1), some (vi (Int32.ofNat b)), some (vi (Int32.ofNat s)), some (vi x3)], [], pm_mm al D I L) = ((Cl X d 120 [vr 1, vi (Int32.ofNat b), vi (Int32.ofNat s)] (pm_mm al D I L)).bind pm_ai).bind (fun r => Rn X d co_Ch_mean (6, [some (vr 1), some (vi (Int32.ofNat b)), some (vi (Int32.ofNat s)), some (vi x3)], [vi r.1], r.2)) := by
  rcases two hb with rfl | rfl <;> rcases two hs with rfl | rfl
  · exact sg_Ch_mean_0_0_0 ..
  · exact sg_Ch_mean_0_1_0 ..
  · exact sg_Ch_mean_1_0_0 ..
  · exact sg_Ch_mean_1_1_0 ..
theorem sgb_Ch_mean_6 {b : Nat} {s : Nat} (hb : b < 2) (hs : s < 2) (X : Nat × (Nat → Int32)) (d : Nat) (x3 u0 : Int32) (al : List Nat) (D : Nat → Bool) (I : Nat → Nat → Int32) (L : Nat → Nat → Int64) : Rn X d co_Ch_mean (6, [some (vr 1), some (vi (Int32.ofNat b)), some (vi (Int32.ofNat s)), some (vi x3)], [vi u0], pm_mm al D I L) = cond (decide (u0 = 0)) (some (some (vl (-1)), pm_mm al D I L)) (((Cl X d 137 [vr 1, vi (Int32.ofNat b), vi (Int32.ofNat s)] (pm_mm al D I L)).bind pm_ar).bind (fun r => Rn X d co_Ch_mean (19, [some (vr 1), some (vi (Int32.ofNat b)), some (vi (Int32.ofNat s)), some (vi x3)], [vr r.1], r.2))) := by
  rcases two hb with rfl | rfl <;> rcases two hs with rfl | rfl
  · exact sg_Ch_mean_0_0_6 ..
  · exact sg_Ch_mean_0_1_6 ..
  · exact sg_Ch_mean_1_0_6 ..
  · exact sg_Ch_mean_1_1_6 ..
theorem sgb_Ch_mean_19 {b : Nat} {s : Nat} (hb : b < 2) (hs : s < 2) (X : Nat × (Nat → Int32)) (d : Nat) (o0 o1 o2 : Option pm_V) (x3 : Int32) (al : List Nat) (D : Nat → Bool) (I : Nat → Nat → Int32) (L : Nat → Nat → Int64) : Rn X d co_Ch_mean (19, [o0, o1, o2, some (vi x3)], [vr (220 + 6 * b + 3 * s)], pm_mm al (pm_tb (3 + 2 * b + s) D) I L) = ((Cl X d 157 [vl (L (220 + 6 * b + 3 * s) 2), vl 4096, vi x3] (pm_mm al (pm_tb (3 + 2 * b + s) D) I L)).bind pm_al).bind (fun r => Rn X d co_Ch_mean (29, [o0, o1, o2, some (vi x3)], [vl r.1], r.2)) := by
  rcases two hb with rfl | rfl <;> rcases two hs with rfl | rfl
  · exact sg_Ch_mean_0_0_19 ..
  · exact sg_Ch_mean_0_1_19 ..
  · exact sg_Ch_mean_1_0_19 ..
  · exact sg_Ch_mean_1_1_19 ..
theorem sgb_Ch_mean_29 (X : Nat × (Nat → Int32)) (d : Nat) (o0 o1 o2 o3 : Option pm_V) (w0 : Int64) (al : List Nat) (D : Nat → Bool) (I : Nat → Nat → Int32) (L : Nat → Nat → Int64) : Rn X d co_Ch_mean (29, [o0, o1, o2, o3], [vl w0], pm_mm al D I L) = some (some (vl w0), pm_mm al D I L) :=
  sg_Ch_mean_0_0_29 ..
theorem sgb_Ch_leather_0 {b : Nat} (hb : b < 2) (X : Nat × (Nat → Int32)) (d : Nat) (x2 : Int32) (o3 : Option pm_V) (al : List Nat) (D : Nat → Bool) (I : Nat → Nat → Int32) (L : Nat → Nat → Int64) : Rn X d co_Ch_leather (0, [some (vr 1), some (vi (Int32.ofNat b)), some (vi x2), o3], [], pm_mm al D I L) = ((Cl X d 93 [vr 2, vi 0, vi (Int32.ofNat b)] (pm_mm al D I L)).bind pm_ai).bind (fun r => Rn X d co_Ch_leather (9, [some (vr 1), some (vi (Int32.ofNat b)), some (vi x2), o3], [vi r.1], r.2)) := by
  rcases two hb with rfl | rfl
  · exact sg_Ch_leather_0_0 ..
  · exact sg_Ch_leather_1_0 ..
theorem sgb_Ch_leather_9 {b : Nat} (hb : b < 2) (X : Nat × (Nat → Int32)) (d : Nat) (x2 : Int32) (o3 : Option pm_V) (u0 : Int32) (al : List Nat) (D : Nat → Bool) (I : Nat → Nat → Int32) (L : Nat → Nat → Int64) : Rn X d co_Ch_leather (9, [some (vr 1), some (vi (Int32.ofNat b)), some (vi x2), o3], [vi u0], pm_mm al D I L) = cond (decide (u0 = 0)) (some (some (vi (-1)), pm_mm al D I L)) (cond (decide (x2 < 0)) (Rn X d co_Ch_leather (38, [some (vr 1), some (vi (Int32.ofNat b)), some (vi x2), some (vr (9 + 5 * b))], [], pm_mm al D I L)) (cond (decide (x2 < (1 <<< ((I (9 + 5 * b) 4) &&& 31)))) (((Cl X d 32 [vr 73, vr (9 + 5 * b), vi x2, vi 0, vi 0] (pm_mm al D I L)).bind pm_ai).bind (fun r => Rn X d co_Ch_leather (51, [some (vr 1), some (vi (Int32.ofNat b)), some (vi x2), some (vr (9 + 5 * b))], [vi r.1], r.2))) (Rn X d co_Ch_leather (38, [some (vr 1), some (vi (Int32.ofNat b)), some (vi x2), some (vr (9 + 5 * b))], [], pm_mm al D I L)))) := by
  rcases two hb with rfl | rfl
  · exact sg_Ch_leather_0_9 ..
  · exact sg_Ch_leather_1_9 ..
theorem sgb_Ch_leather_38 (X : Nat × (Nat → Int32)) (d : Nat) (o0 o1 o2 o3 : Option pm_V) (al : List Nat) (D : Nat → Bool) (I : Nat → Nat → Int32) (L : Nat → Nat → Int64) : Rn X d co_Ch_leather (38, [o0, o1, o2, o3], [], pm_mm al D I L) = some (some (vi (-1)), pm_mm al D I L) :=
  sg_Ch_leather_0_38 ..
theorem sgb_Ch_leather_51 (X : Nat × (Nat → Int32)) (d : Nat) (o0 o1 o2 o3 : Option pm_V) (u0 : Int32) (al : List Nat) (D : Nat → Bool) (I : Nat → Nat → Int32) (L : Nat → Nat → Int64) : Rn X d co_Ch_leather (51, [o0, o1, o2, o3], [vi u0], pm_mm al D I L) = some (some (vi u0), pm_mm al D I L) :=
  sg_Ch_leather_0_51 ..
theorem sgb_Ch_share_0 {b : Nat} (hb : b < 2) (X : Nat × (Nat → Int32)) (d : Nat) (x2 x3 : Int32) (o4 o5 o6 o7 o8 o9 o10 : Option pm_V) (al : List Nat) (D : Nat → Bool) (I : Nat → Nat → Int32) (L : Nat → Nat → Int64) : Rn X d co_Ch_share (0, [some (vr 1), some (vi (Int32.ofNat b)), some (vi x2), some (vi x3), o4, o5, o6, o7, o8, o9, o10], [], pm_mm al D I L) = ((Cl X d 93 [vr 2, vi 0, vi (Int32.ofNat b)] (pm_mm al D I L)).bind pm_ai).bind (fun r => Rn X d co_Ch_share (9, [some (vr 1), some (vi (Int32.ofNat b)), some (vi x2), some (vi x3), o4, o5, o6, o7, o8, o9, o10], [vi r.1], r.2)) := by
  rcases two hb with rfl | rfl
  · exact sg_Ch_share_0_0 ..
  · exact sg_Ch_share_1_0 ..
theorem sgb_Ch_share_9 {b : Nat} (hb : b < 2) (X : Nat × (Nat → Int32)) (d : Nat) (x2 x3 : Int32) (o4 o5 o6 o7 o8 o9 o10 : Option pm_V) (u0 : Int32) (al : List Nat) (D : Nat → Bool) (I : Nat → Nat → Int32) (L : Nat → Nat → Int64) : Rn X d co_Ch_share (9, [some (vr 1), some (vi (Int32.ofNat b)), some (vi x2), some (vi x3), o4, o5, o6, o7, o8, o9, o10], [vi u0], pm_mm al D I L) = cond (decide (u0 = 0)) (Rn X d co_Ch_share (32, [some (vr 1), some (vi (Int32.ofNat b)), some (vi x2), some (vi x3), o4, o5, o6, o7, o8, o9, o10], [], pm_mm al D I L)) (cond (decide (x2 < 0)) (Rn X d co_Ch_share (32, [some (vr 1), some (vi (Int32.ofNat b)), some (vi x2), some (vi x3), o4, o5, o6, o7, o8, o9, o10], [], pm_mm al D I L)) (cond (decide (x2 < (I (9 + 5 * b) 4))) (Rn X d co_Ch_share (53, [some (vr 1), some (vi (Int32.ofNat b)), some (vi x2), some (vi x3), some (vr (9 + 5 * b)), some (vl 0), none, some (vi 0), o8, o9, o10], [], pm_mm al D I L)) (Rn X d co_Ch_share (32, [some (vr 1), some (vi (Int32.ofNat b)), some (vi x2), some (vi x3), o4, o5, o6, o7, o8, o9, o10], [], pm_mm al D I L)))) := by
  rcases two hb with rfl | rfl
  · exact sg_Ch_share_0_9 ..
  · exact sg_Ch_share_1_9 ..
theorem sgb_Ch_share_32 (X : Nat × (Nat → Int32)) (d : Nat) (o0 o1 o2 o3 o4 o5 o6 o7 o8 o9 o10 : Option pm_V) (al : List Nat) (D : Nat → Bool) (I : Nat → Nat → Int32) (L : Nat → Nat → Int64) : Rn X d co_Ch_share (32, [o0, o1, o2, o3, o4, o5, o6, o7, o8, o9, o10], [], pm_mm al D I L) = some (some (vl (-1)), pm_mm al D I L) :=
  sg_Ch_share_0_32 ..
theorem sgb_Ch_share_53 {b : Nat} (hb : b < 2) (X : Nat × (Nat → Int32)) (d : Nat) (o1 : Option pm_V) (x2 x3 : Int32) (y5 : Int64) (x7 : Int32) (o8 o9 o10 : Option pm_V) (al : List Nat) (D : Nat → Bool) (I : Nat → Nat → Int32) (L : Nat → Nat → Int64) : Rn X d co_Ch_share (53, [some (vr 1), o1, some (vi x2), some (vi x3), some (vr (9 + 5 * b)), some (vl y5), none, some (vi x7), o8, o9, o10], [], pm_mm al D I L) = cond (decide ((1 <<< ((I (9 + 5 * b) 4) &&& 31)) ≤ x7)) (((Cl X d 160 [vi (I (9 + 5 * b) 4)] (pm_mm al D I L)).bind pm_al).bind (fun r => Rn X d co_Ch_share (158, [some (vr 1), o1, some (vi x2), some (vi x3), some (vr (9 + 5 * b)), some (vl y5), none, some (vi x7), o8, o9, o10], [vl r.1, vl y5], r.2))) (cond (decide (((x7 >>> (x2 &&& 31)) &&& 1) = 0)) (((Cl X d 1 [vi x7] (pm_mm al D I L)).bind pm_ai).bind (fun r => Rn X d co_Ch_share (79, [some (vr 1), o1, some (vi x2), some (vi x3), some (vr (9 + 5 * b)), some (vl y5), none, some (vi x7), o8, o9, o10], [vi r.1], r.2))) (Rn X d co_Ch_share (142, [some (vr 1), o1, some (vi x2), some (vi x3), some (vr (9 + 5 * b)), some (vl y5), none, some (vi x7), o8, o9, o10], [], pm_mm al D I L))) := by
  rcases two hb with rfl | rfl
  · exact sg_Ch_share_0_53 ..
  · exact sg_Ch_share_1_53 ..
theorem sgb_Ch_share_79 {b : Nat} (hb : b < 2) (X : Nat × (Nat → Int32)) (d : Nat) (o1 : Option pm_V) (x2 x3 : Int32) (y5 : Int64) (x7 : Int32) (o8 o9 o10 : Option pm_V) (u0 : Int32) (al : List Nat) (D : Nat → Bool) (I : Nat → Nat → Int32) (L : Nat → Nat → Int64) : Rn X d co_Ch_share (79, [some (vr 1), o1, some (vi x2), some (vi x3), some (vr (9 + 5 * b)), some (vl y5), none, some (vi x7), o8, o9, o10], [vi u0], pm_mm al D I L) = ((Cl X d 160 [vi u0] (pm_mm al D I L)).bind pm_al).bind (fun r => Rn X d co_Ch_share (86, [some (vr 1), o1, some (vi x2), some (vi x3), some (vr (9 + 5 * b)), some (vl y5), none, some (vi x7), some (vi u0), o9, o10], [vl r.1], r.2)) := by
  rcases two hb with rfl | rfl
  · exact sg_Ch_share_0_79 ..
  · exact sg_Ch_share_1_79 ..
theorem sgb_Ch_share_86 {b : Nat} (hb : b < 2) (X : Nat × (Nat → Int32)) (d : Nat) (o1 : Option pm_V) (x2 x3 : Int32) (y5 : Int64) (x7 x8 : Int32) (o9 o10 : Option pm_V) (w0 : Int64) (al : List Nat) (D : Nat → Bool) (I : Nat → Nat → Int32) (L : Nat → Nat → Int64) : Rn X d co_Ch_share (86, [some (vr 1), o1, some (vi x2), some (vi x3), some (vr (9 + 5 * b)), some (vl y5), none, some (vi x7), some (vi x8), o9, o10], [vl w0], pm_mm al D I L) = ((Cl X d 160 [vi (((I (9 + 5 * b) 4) - 1) - x8)] (pm_mm al D I L)).bind pm_al).bind (fun r => Rn X d co_Ch_share (99, [some (vr 1), o1, some (vi x2), some (vi x3), some (vr (9 + 5 * b)), some (vl y5), none, some (vi x7), some (vi x8), o9, o10], [vl r.1, vl w0], r.2)) := by
  rcases two hb with rfl | rfl
  · exact sg_Ch_share_0_86 ..
  · exact sg_Ch_share_1_86 ..
theorem sgb_Ch_share_99 {b : Nat} (hb : b < 2) (X : Nat × (Nat → Int32)) (d : Nat) (o1 : Option pm_V) (x2 x3 : Int32) (y5 : Int64) (x7 : Int32) (o8 o9 o10 : Option pm_V) (w0 w1 : Int64) (al : List Nat) (D : Nat → Bool) (I : Nat → Nat → Int32) (L : Nat → Nat → Int64) : Rn X d co_Ch_share (99, [some (vr 1), o1, some (vi x2), some (vi x3), some (vr (9 + 5 * b)), some (vl y5), none, some (vi x7), o8, o9, o10], [vl w1, vl w0], pm_mm al D I L) = ((Cl X d 32 [vr 73, vr (9 + 5 * b), vi (x7 ||| (1 <<< (x2 &&& 31))), vi 0, vi 0] (pm_mm al D I L)).bind pm_ai).bind (fun r => Rn X d co_Ch_share (123, [some (vr 1), o1, some (vi x2), some (vi x3), some (vr (9 + 5 * b)), some (vl y5), none, some (vi x7), (pm_nl o8), some (vl (w0 * w1)), none], [vi r.1, vl (w0 * w1), vl y5], r.2)) := by
  rcases two hb with rfl | rfl
  · exact sg_Ch_share_0_99 ..
  · exact sg_Ch_share_1_99 ..
theorem sgb_Ch_share_123 {b : Nat} (hb : b < 2) (X : Nat × (Nat → Int32)) (d : Nat) (o1 : Option pm_V) (x2 x3 : Int32) (o5 o6 : Option pm_V) (x7 : Int32) (o8 o9 o10 : Option pm_V) (w0 w1 : Int64) (u2 : Int32) (al : List Nat) (D : Nat → Bool) (I : Nat → Nat → Int32) (L : Nat → Nat → Int64) : Rn X d co_Ch_share (123, [some (vr 1), o1, some (vi x2), some (vi x3), some (vr (9 + 5 * b)), o5, o6, some (vi x7), o8, o9, o10], [vi u2, vl w1, vl w0], pm_mm al D I L) = ((Cl X d 32 [vr 73, vr (9 + 5 * b), vi x7, vi 0, vi 0] (pm_mm al D I L)).bind pm_ai).bind (fun r => Rn X d co_Ch_share (136, [some (vr 1), o1, some (vi x2), some (vi x3), some (vr (9 + 5 * b)), o5, o6, some (vi x7), o8, o9, o10], [vi r.1, vi u2, vl w1, vl w0], r.2)) := by
  rcases two hb with rfl | rfl
  · exact sg_Ch_share_0_123 ..
  · exact sg_Ch_share_1_123 ..
theorem sgb_Ch_share_136 {b : Nat} (hb : b < 2) (X : Nat × (Nat → Int32)) (d : Nat) (o1 : Option pm_V) (x2 x3 : Int32) (o5 o6 : Option pm_V) (x7 : Int32) (o8 o9 o10 : Option pm_V) (w0 w1 : Int64) (u2 u3 : Int32) (al : List Nat) (D : Nat → Bool) (I : Nat → Nat → Int32) (L : Nat → Nat → Int64) : Rn X d co_Ch_share (136, [some (vr 1), o1, some (vi x2), some (vi x3), some (vr (9 + 5 * b)), o5, o6, some (vi x7), o8, o9, o10], [vi u3, vi u2, vl w1, vl w0], pm_mm al D I L) = Rn X d co_Ch_share (142, [some (vr 1), o1, some (vi x2), some (vi x3), some (vr (9 + 5 * b)), some (vl (w0 + (w1 * ((u2 - u3).toInt64)))), none, some (vi x7), o8, o9, o10], [], pm_mm al D I L) := by
  rcases two hb with rfl | rfl
  · exact sg_Ch_share_0_136 ..
  · exact sg_Ch_share_1_136 ..
theorem sgb_Ch_share_142 {b : Nat} (hb : b < 2) (X : Nat × (Nat → Int32)) (d : Nat) (o1 : Option pm_V) (x2 x3 : Int32) (y5 : Int64) (x7 : Int32) (o8 o9 o10 : Option pm_V) (al : List Nat) (D : Nat → Bool) (I : Nat → Nat → Int32) (L : Nat → Nat → Int64) : Rn X d co_Ch_share (142, [some (vr 1), o1, some (vi x2), some (vi x3), some (vr (9 + 5 * b)), some (vl y5), none, some (vi x7), o8, o9, o10], [], pm_mm al D I L) = Rn X d co_Ch_share (53, [some (vr 1), o1, some (vi x2), some (vi x3), some (vr (9 + 5 * b)), some (vl y5), none, some (vi (x7 + 1)), o8, o9, o10], [], pm_mm al D I L) := by
  rcases two hb with rfl | rfl
  · exact sg_Ch_share_0_142 ..
  · exact sg_Ch_share_1_142 ..
theorem sgb_Ch_share_158 (X : Nat × (Nat → Int32)) (d : Nat) (o0 o1 o2 : Option pm_V) (x3 : Int32) (o4 o5 o6 o7 o8 o9 o10 : Option pm_V) (w0 w1 : Int64) (al : List Nat) (D : Nat → Bool) (I : Nat → Nat → Int32) (L : Nat → Nat → Int64) : Rn X d co_Ch_share (158, [o0, o1, o2, some (vi x3), o4, o5, o6, o7, o8, o9, o10], [vl w1, vl w0], pm_mm al D I L) = ((Cl X d 157 [vl w0, vl w1, vi x3] (pm_mm al D I L)).bind pm_al).bind (fun r => Rn X d co_Ch_share (162, [o0, o1, o2, some (vi x3), o4, o5, o6, o7, o8, o9, o10], [vl r.1], r.2)) :=
  sg_Ch_share_0_158 ..
theorem sgb_Ch_share_162 (X : Nat × (Nat → Int32)) (d : Nat) (o0 o1 o2 o3 o4 o5 o6 o7 o8 o9 o10 : Option pm_V) (w0 : Int64) (al : List Nat) (D : Nat → Bool) (I : Nat → Nat → Int32) (L : Nat → Nat → Int64) : Rn X d co_Ch_share (162, [o0, o1, o2, o3, o4, o5, o6, o7, o8, o9, o10], [vl w0], pm_mm al D I L) = some (some (vl w0), pm_mm al D I L) :=
  sg_Ch_share_0_162 ..
theorem sgb_Ch_joined_0 {b : Nat} (hb : b < 2) (X : Nat × (Nat → Int32)) (d : Nat) (x2 : Int32) (o3 : Option pm_V) (al : List Nat) (D : Nat → Bool) (I : Nat → Nat → Int32) (L : Nat → Nat → Int64) : Rn X d co_Ch_joined (0, [some (vr 1), some (vi (Int32.ofNat b)), some (vi x2), o3], [], pm_mm al D I L) = ((Cl X d 93 [vr 2, vi 0, vi (Int32.ofNat b)] (pm_mm al D I L)).bind pm_ai).bind (fun r => Rn X d co_Ch_joined (9, [some (vr 1), some (vi (Int32.ofNat b)), some (vi x2), o3], [vi r.1], r.2)) := by
  rcases two hb with rfl | rfl
  · exact sg_Ch_joined_0_0 ..
  · exact sg_Ch_joined_1_0 ..
theorem sgb_Ch_joined_9 {b : Nat} (hb : b < 2) (X : Nat × (Nat → Int32)) (d : Nat) (x2 : Int32) (o3 : Option pm_V) (u0 : Int32) (al : List Nat) (D : Nat → Bool) (I : Nat → Nat → Int32) (L : Nat → Nat → Int64) : Rn X d co_Ch_joined (9, [some (vr 1), some (vi (Int32.ofNat b)), some (vi x2), o3], [vi u0], pm_mm al D I L) = cond (decide (u0 = 0)) (Rn X d co_Ch_joined (32, [some (vr 1), some (vi (Int32.ofNat b)), some (vi x2), o3], [], pm_mm al D I L)) (cond (decide (x2 < 0)) (Rn X d co_Ch_joined (32, [some (vr 1), some (vi (Int32.ofNat b)), some (vi x2), o3], [], pm_mm al D I L)) (cond (decide (x2 < (I (9 + 5 * b) 4))) (((Cl X d 32 [vr 73, vr (9 + 5 * b), vi ((1 <<< ((I (9 + 5 * b) 4) &&& 31)) - 1), vi 0, vi 0] (pm_mm al D I L)).bind pm_ai).bind (fun r => Rn X d co_Ch_joined (62, [some (vr 1), some (vi (Int32.ofNat b)), some (vi x2), some (vr (9 + 5 * b))], [vi r.1], r.2))) (Rn X d co_Ch_joined (32, [some (vr 1), some (vi (Int32.ofNat b)), some (vi x2), o3], [], pm_mm al D I L)))) := by
  rcases two hb with rfl | rfl
  · exact sg_Ch_joined_0_9 ..
  · exact sg_Ch_joined_1_9 ..
theorem sgb_Ch_joined_32 (X : Nat × (Nat → Int32)) (d : Nat) (o0 o1 o2 o3 : Option pm_V) (al : List Nat) (D : Nat → Bool) (I : Nat → Nat → Int32) (L : Nat → Nat → Int64) : Rn X d co_Ch_joined (32, [o0, o1, o2, o3], [], pm_mm al D I L) = some (some (vi (-1)), pm_mm al D I L) :=
  sg_Ch_joined_0_32 ..
theorem sgb_Ch_joined_62 (X : Nat × (Nat → Int32)) (d : Nat) (o1 : Option pm_V) (x2 : Int32) (o3 : Option pm_V) (u0 : Int32) (al : List Nat) (D : Nat → Bool) (I : Nat → Nat → Int32) (L : Nat → Nat → Int64) : Rn X d co_Ch_joined (62, [some (vr 1), o1, some (vi x2), o3], [vi u0], pm_mm al D I L) = cond (pm_in x2 6) (some (some (vi (I 74 x2.toNatClampNeg)), pm_mm al D I L)) none :=
  sg_Ch_joined_0_62 ..
theorem sgb_Ch_tour_0 {b : Nat} (hb : b < 2) (X : Nat × (Nat → Int32)) (d : Nat) (x2 : Int32) (o3 : Option pm_V) (al : List Nat) (D : Nat → Bool) (I : Nat → Nat → Int32) (L : Nat → Nat → Int64) : Rn X d co_Ch_tour (0, [some (vr 1), some (vi (Int32.ofNat b)), some (vi x2), o3], [], pm_mm al D I L) = ((Cl X d 93 [vr 2, vi 0, vi (Int32.ofNat b)] (pm_mm al D I L)).bind pm_ai).bind (fun r => Rn X d co_Ch_tour (9, [some (vr 1), some (vi (Int32.ofNat b)), some (vi x2), o3], [vi r.1], r.2)) := by
  rcases two hb with rfl | rfl
  · exact sg_Ch_tour_0_0 ..
  · exact sg_Ch_tour_1_0 ..
theorem sgb_Ch_tour_9 {b : Nat} (hb : b < 2) (X : Nat × (Nat → Int32)) (d : Nat) (x2 : Int32) (o3 : Option pm_V) (u0 : Int32) (al : List Nat) (D : Nat → Bool) (I : Nat → Nat → Int32) (L : Nat → Nat → Int64) : Rn X d co_Ch_tour (9, [some (vr 1), some (vi (Int32.ofNat b)), some (vi x2), o3], [vi u0], pm_mm al D I L) = cond (decide (u0 = 0)) (Rn X d co_Ch_tour (33, [some (vr 1), some (vi (Int32.ofNat b)), some (vi x2), o3], [], pm_mm al D I L)) (cond (decide (x2 < (-1))) (Rn X d co_Ch_tour (33, [some (vr 1), some (vi (Int32.ofNat b)), some (vi x2), o3], [], pm_mm al D I L)) (cond (decide (x2 < (I (9 + 5 * b) 4))) (((Cl X d 146 [vr 1, vr (9 + 5 * b)] (pm_mm al D I L)).bind pm_ai).bind (fun r => Rn X d co_Ch_tour (48, [some (vr 1), some (vi (Int32.ofNat b)), some (vi x2), o3], [vi r.1], r.2))) (Rn X d co_Ch_tour (33, [some (vr 1), some (vi (Int32.ofNat b)), some (vi x2), o3], [], pm_mm al D I L)))) := by
  rcases two hb with rfl | rfl
  · exact sg_Ch_tour_0_9 ..
  · exact sg_Ch_tour_1_9 ..
theorem sgb_Ch_tour_33 (X : Nat × (Nat → Int32)) (d : Nat) (o0 o1 o2 o3 : Option pm_V) (al : List Nat) (D : Nat → Bool) (I : Nat → Nat → Int32) (L : Nat → Nat → Int64) : Rn X d co_Ch_tour (33, [o0, o1, o2, o3], [], pm_mm al D I L) = some (some (vi (-1)), pm_mm al D I L) :=
  sg_Ch_tour_0_33 ..
theorem sgb_Ch_tour_48 (X : Nat × (Nat → Int32)) (d : Nat) (o1 : Option pm_V) (x2 : Int32) (o3 : Option pm_V) (u0 : Int32) (al : List Nat) (D : Nat → Bool) (I : Nat → Nat → Int32) (L : Nat → Nat → Int64) : Rn X d co_Ch_tour (48, [some (vr 1), o1, some (vi x2), o3], [vi u0], pm_mm al D I L) = cond (decide (x2 = (-1))) (Rn X d co_Ch_tour (64, [some (vr 1), o1, some (vi x2), some (vi u0)], [vi u0], pm_mm al D I L)) (cond (pm_in x2 6) (Rn X d co_Ch_tour (64, [some (vr 1), o1, some (vi x2), some (vi u0)], [vi (I 80 x2.toNatClampNeg)], pm_mm al D I L)) none) :=
  sg_Ch_tour_0_48 ..
theorem sgb_Ch_tour_64 (X : Nat × (Nat → Int32)) (d : Nat) (o0 o1 o2 o3 : Option pm_V) (u0 : Int32) (al : List Nat) (D : Nat → Bool) (I : Nat → Nat → Int32) (L : Nat → Nat → Int64) : Rn X d co_Ch_tour (64, [o0, o1, o2, o3], [vi u0], pm_mm al D I L) = some (some (vi u0), pm_mm al D I L) :=
  sg_Ch_tour_0_64 ..
theorem sgb_Ch_shortestTour_0 {b : Nat} (hb : b < 2) (X : Nat × (Nat → Int32)) (d : Nat) (o2 o3 o4 o5 : Option pm_V) (al : List Nat) (D : Nat → Bool) (I : Nat → Nat → Int32) (L : Nat → Nat → Int64) : Rn X d co_Ch_shortestTour (0, [some (vr 1), some (vr (9 + 5 * b)), o2, o3, o4, o5], [], pm_mm al D I L) = ((Cl X d 161 [vr 79] (pm_mm al D I L)).bind pm_av).bind (fun r => Rn X d co_Ch_shortestTour (13, [some (vr 1), some (vr (9 + 5 * b)), some (vi 1000000), some (vi 1), o4, o5], [], r)) := by
  rcases two hb with rfl | rfl
  · exact sg_Ch_shortestTour_9_0 ..
  · exact sg_Ch_shortestTour_14_0 ..
theorem sgb_Ch_shortestTour_13 {b : Nat} (hb : b < 2) (X : Nat × (Nat → Int32)) (d : Nat) (o4 o5 : Option pm_V) (al : List Nat) (D : Nat → Bool) (I : Nat → Nat → Int32) (L : Nat → Nat → Int64) : Rn X d co_Ch_shortestTour (13, [some (vr 1), some (vr (9 + 5 * b)), some (vi 1000000), some (vi 1), o4, o5], [], pm_mm al D I L) = Rn X d co_Ch_shortestTour (16, [some (vr 1), some (vr (9 + 5 * b)), some (vi 1000000), some (vi 1), some (vi 0), o5], [], pm_mm al D I L) := by
  rcases two hb with rfl | rfl
  · exact sg_Ch_shortestTour_9_13 ..
  · exact sg_Ch_shortestTour_14_13 ..
theorem sgb_Ch_shortestTour_16 {b : Nat} (hb : b < 2) (X : Nat × (Nat → Int32)) (d : Nat) (x2 x3 x4 : Int32) (o5 : Option pm_V) (al : List Nat) (D : Nat → Bool) (I : Nat → Nat → Int32) (L : Nat → Nat → Int64) : Rn X d co_Ch_shortestTour (16, [some (vr 1), some (vr (9 + 5 * b)), some (vi x2), some (vi x3), some (vi x4), o5], [], pm_mm al D I L) = cond (decide (720 ≤ x4)) (Rn X d co_Ch_shortestTour (80, [some (vr 1), some (vr (9 + 5 * b)), some (vi x2), some (vi x3), some (vi x4), o5], [], pm_mm al D I L)) (cond (decide (x3 = 0)) (Rn X d co_Ch_shortestTour (80, [some (vr 1), some (vr (9 + 5 * b)), some (vi x2), some (vi x3), some (vi x4), o5], [], pm_mm al D I L)) (((Cl X d 14 [vr (9 + 5 * b), vr 79] (pm_mm al D I L)).bind pm_ai).bind (fun r => Rn X d co_Ch_shortestTour (36, [some (vr 1), some (vr (9 + 5 * b)), some (vi x2), some (vi x3), some (vi x4), o5], [vi r.1], r.2)))) := by
  rcases two hb with rfl | rfl
  · exact sg_Ch_shortestTour_9_16 ..
  · exact sg_Ch_shortestTour_14_16 ..
theorem sgb_Ch_shortestTour_36 {b : Nat} (hb : b < 2) (X : Nat × (Nat → Int32)) (d : Nat) (x2 : Int32) (o3 : Option pm_V) (x4 : Int32) (o5 : Option pm_V) (u0 : Int32) (al : List Nat) (D : Nat → Bool) (I : Nat → Nat → Int32) (L : Nat → Nat → Int64) : Rn X d co_Ch_shortestTour (36, [some (vr 1), some (vr (9 + 5 * b)), some (vi x2), o3, some (vi x4), o5], [vi u0], pm_mm al D I L) = cond (decide (x2 ≤ u0)) (Rn X d co_Ch_shortestTour (62, [some (vr 1), some (vr (9 + 5 * b)), some (vi x2), o3, some (vi x4), some (vi u0)], [], pm_mm al D I L)) (Rn X d co_Ch_shortestTour (62, [some (vr 1), some (vr (9 + 5 * b)), some (vi u0), o3, some (vi x4), some (vi u0)], [], pm_mm al D (pm_ups I 80 (va_cpy (I 79) (I 80) 0 0 6)) L)) := by
  rcases two hb with rfl | rfl
  · exact sg_Ch_shortestTour_9_36 ..
  · exact sg_Ch_shortestTour_14_36 ..
theorem sgb_Ch_shortestTour_62 {b : Nat} (hb : b < 2) (X : Nat × (Nat → Int32)) (d : Nat) (x2 : Int32) (o3 : Option pm_V) (x4 : Int32) (o5 : Option pm_V) (al : List Nat) (D : Nat → Bool) (I : Nat → Nat → Int32) (L : Nat → Nat → Int64) : Rn X d co_Ch_shortestTour (62, [some (vr 1), some (vr (9 + 5 * b)), some (vi x2), o3, some (vi x4), o5], [], pm_mm al D I L) = ((Cl X d 162 [vr 79, vi (I (9 + 5 * b) 4)] (pm_mm al D I L)).bind pm_ai).bind (fun r => Rn X d co_Ch_shortestTour (73, [some (vr 1), some (vr (9 + 5 * b)), some (vi x2), o3, some (vi x4), o5], [vi r.1], r.2)) := by
  rcases two hb with rfl | rfl
  · exact sg_Ch_shortestTour_9_62 ..
  · exact sg_Ch_shortestTour_14_62 ..
theorem sgb_Ch_shortestTour_73 {b : Nat} (hb : b < 2) (X : Nat × (Nat → Int32)) (d : Nat) (x2 : Int32) (o3 : Option pm_V) (x4 : Int32) (o5 : Option pm_V) (u0 : Int32) (al : List Nat) (D : Nat → Bool) (I : Nat → Nat → Int32) (L : Nat → Nat → Int64) : Rn X d co_Ch_shortestTour (73, [some (vr 1), some (vr (9 + 5 * b)), some (vi x2), o3, some (vi x4), o5], [vi u0], pm_mm al D I L) = Rn X d co_Ch_shortestTour (16, [some (vr 1), some (vr (9 + 5 * b)), some (vi x2), some (vi u0), some (vi (x4 + 1)), o5], [], pm_mm al D I L) := by
  rcases two hb with rfl | rfl
  · exact sg_Ch_shortestTour_9_73 ..
  · exact sg_Ch_shortestTour_14_73 ..
theorem sgb_Ch_shortestTour_80 (X : Nat × (Nat → Int32)) (d : Nat) (o0 o1 : Option pm_V) (x2 : Int32) (o3 o4 o5 : Option pm_V) (al : List Nat) (D : Nat → Bool) (I : Nat → Nat → Int32) (L : Nat → Nat → Int64) : Rn X d co_Ch_shortestTour (80, [o0, o1, some (vi x2), o3, o4, o5], [], pm_mm al D I L) = some (some (vi x2), pm_mm al D I L) :=
  sg_Ch_shortestTour_9_80 ..
theorem sgb_Ch_centre_0 {b : Nat} (hb : b < 2) (X : Nat × (Nat → Int32)) (d : Nat) (x2 : Int32) (o3 o4 o5 o6 o7 : Option pm_V) (al : List Nat) (D : Nat → Bool) (I : Nat → Nat → Int32) (L : Nat → Nat → Int64) : Rn X d co_Ch_centre (0, [some (vr 1), some (vi (Int32.ofNat b)), some (vi x2), o3, o4, o5, o6, o7], [], pm_mm al D I L) = ((Cl X d 93 [vr 2, vi 0, vi (Int32.ofNat b)] (pm_mm al D I L)).bind pm_ai).bind (fun r => Rn X d co_Ch_centre (9, [some (vr 1), some (vi (Int32.ofNat b)), some (vi x2), o3, o4, o5, o6, o7], [vi r.1], r.2)) := by
  rcases two hb with rfl | rfl
  · exact sg_Ch_centre_0_0 ..
  · exact sg_Ch_centre_1_0 ..
theorem sgb_Ch_centre_9 {b : Nat} (hb : b < 2) (X : Nat × (Nat → Int32)) (d : Nat) (x2 : Int32) (o3 o4 o5 o6 o7 : Option pm_V) (u0 : Int32) (al : List Nat) (D : Nat → Bool) (I : Nat → Nat → Int32) (L : Nat → Nat → Int64) : Rn X d co_Ch_centre (9, [some (vr 1), some (vi (Int32.ofNat b)), some (vi x2), o3, o4, o5, o6, o7], [vi u0], pm_mm al D I L) = cond (decide (u0 = 0)) (some (some (vi (-1)), pm_mm al D I L)) (Rn X d co_Ch_centre (35, [some (vr 1), some (vi (Int32.ofNat b)), some (vi x2), some (vr (9 + 5 * b)), some (vi 1000000), some (vi 0), some (vi 0), o7], [], pm_mm al D I L)) := by
  rcases two hb with rfl | rfl
  · exact sg_Ch_centre_0_9 ..
  · exact sg_Ch_centre_1_9 ..
theorem sgb_Ch_centre_35 {b : Nat} (hb : b < 2) (X : Nat × (Nat → Int32)) (d : Nat) (o1 : Option pm_V) (x2 x4 x5 x6 : Int32) (o7 : Option pm_V) (al : List Nat) (D : Nat → Bool) (I : Nat → Nat → Int32) (L : Nat → Nat → Int64) : Rn X d co_Ch_centre (35, [some (vr 1), o1, some (vi x2), some (vr (9 + 5 * b)), some (vi x4), some (vi x5), some (vi x6), o7], [], pm_mm al D I L) = cond (decide (100 ≤ x6)) (cond (decide (x2 = 0)) (Rn X d co_Ch_centre (102, [some (vr 1), o1, some (vi x2), some (vr (9 + 5 * b)), some (vi x4), some (vi x5), some (vi x6), o7], [vi x5], pm_mm al D I L)) (Rn X d co_Ch_centre (102, [some (vr 1), o1, some (vi x2), some (vr (9 + 5 * b)), some (vi x4), some (vi x5), some (vi x6), o7], [vi x4], pm_mm al D I L))) (((Cl X d 32 [vr 73, vr (9 + 5 * b), vi ((1 <<< ((I (9 + 5 * b) 4) &&& 31)) - 1), vi (x6 / 10), vi (x6 - x6 / 10 * 10)] (pm_mm al D I L)).bind pm_ai).bind (fun r => Rn X d co_Ch_centre (68, [some (vr 1), o1, some (vi x2), some (vr (9 + 5 * b)), some (vi x4), some (vi x5), some (vi x6), o7], [vi r.1], r.2))) := by
  rcases two hb with rfl | rfl
  · exact sg_Ch_centre_0_35 ..
  · exact sg_Ch_centre_1_35 ..
theorem sgb_Ch_centre_68 {b : Nat} (hb : b < 2) (X : Nat × (Nat → Int32)) (d : Nat) (o1 : Option pm_V) (x2 x4 x5 x6 : Int32) (o7 : Option pm_V) (u0 : Int32) (al : List Nat) (D : Nat → Bool) (I : Nat → Nat → Int32) (L : Nat → Nat → Int64) : Rn X d co_Ch_centre (68, [some (vr 1), o1, some (vi x2), some (vr (9 + 5 * b)), some (vi x4), some (vi x5), some (vi x6), o7], [vi u0], pm_mm al D I L) = cond (decide (x4 ≤ u0)) (Rn X d co_Ch_centre (85, [some (vr 1), o1, some (vi x2), some (vr (9 + 5 * b)), some (vi x4), some (vi x5), some (vi x6), some (vi u0)], [], pm_mm al D I L)) (Rn X d co_Ch_centre (85, [some (vr 1), o1, some (vi x2), some (vr (9 + 5 * b)), some (vi u0), some (vi x6), some (vi x6), some (vi u0)], [], pm_mm al D I L)) := by
  rcases two hb with rfl | rfl
  · exact sg_Ch_centre_0_68 ..
  · exact sg_Ch_centre_1_68 ..
theorem sgb_Ch_centre_85 {b : Nat} (hb : b < 2) (X : Nat × (Nat → Int32)) (d : Nat) (o1 : Option pm_V) (x2 x4 x5 x6 : Int32) (o7 : Option pm_V) (al : List Nat) (D : Nat → Bool) (I : Nat → Nat → Int32) (L : Nat → Nat → Int64) : Rn X d co_Ch_centre (85, [some (vr 1), o1, some (vi x2), some (vr (9 + 5 * b)), some (vi x4), some (vi x5), some (vi x6), o7], [], pm_mm al D I L) = Rn X d co_Ch_centre (35, [some (vr 1), o1, some (vi x2), some (vr (9 + 5 * b)), some (vi x4), some (vi x5), some (vi (x6 + 1)), o7], [], pm_mm al D I L) := by
  rcases two hb with rfl | rfl
  · exact sg_Ch_centre_0_85 ..
  · exact sg_Ch_centre_1_85 ..
theorem sgb_Ch_centre_102 (X : Nat × (Nat → Int32)) (d : Nat) (o0 o1 o2 o3 o4 o5 o6 o7 : Option pm_V) (u0 : Int32) (al : List Nat) (D : Nat → Bool) (I : Nat → Nat → Int32) (L : Nat → Nat → Int64) : Rn X d co_Ch_centre (102, [o0, o1, o2, o3, o4, o5, o6, o7], [vi u0], pm_mm al D I L) = some (some (vi u0), pm_mm al D I L) :=
  sg_Ch_centre_0_102 ..
theorem sgb_Ch_leaves_0 {b : Nat} (hb : b < 2) (X : Nat × (Nat → Int32)) (d : Nat) (o2 o3 o4 : Option pm_V) (al : List Nat) (D : Nat → Bool) (I : Nat → Nat → Int32) (L : Nat → Nat → Int64) : Rn X d co_Ch_leaves (0, [some (vr 1), some (vi (Int32.ofNat b)), o2, o3, o4], [], pm_mm al D I L) = ((Cl X d 93 [vr 2, vi 0, vi (Int32.ofNat b)] (pm_mm al D I L)).bind pm_ai).bind (fun r => Rn X d co_Ch_leaves (9, [some (vr 1), some (vi (Int32.ofNat b)), o2, o3, o4], [vi r.1], r.2)) := by
  rcases two hb with rfl | rfl
  · exact sg_Ch_leaves_0_0 ..
  · exact sg_Ch_leaves_1_0 ..
theorem sgb_Ch_leaves_9 {b : Nat} (hb : b < 2) (X : Nat × (Nat → Int32)) (d : Nat) (o2 o3 o4 : Option pm_V) (u0 : Int32) (al : List Nat) (D : Nat → Bool) (I : Nat → Nat → Int32) (L : Nat → Nat → Int64) : Rn X d co_Ch_leaves (9, [some (vr 1), some (vi (Int32.ofNat b)), o2, o3, o4], [vi u0], pm_mm al D I L) = cond (decide (u0 = 0)) (some (some (vi (-1)), pm_mm al D I L)) (((Cl X d 32 [vr 73, vr (9 + 5 * b), vi ((1 <<< ((I (9 + 5 * b) 4) &&& 31)) - 1), vi 0, vi 0] (pm_mm al D I L)).bind pm_ai).bind (fun r => Rn X d co_Ch_leaves (42, [some (vr 1), some (vi (Int32.ofNat b)), some (vr (9 + 5 * b)), o3, o4], [vi r.1], r.2))) := by
  rcases two hb with rfl | rfl
  · exact sg_Ch_leaves_0_9 ..
  · exact sg_Ch_leaves_1_9 ..
theorem sgb_Ch_leaves_42 {b : Nat} (hb : b < 2) (X : Nat × (Nat → Int32)) (d : Nat) (o1 o3 o4 : Option pm_V) (u0 : Int32) (al : List Nat) (D : Nat → Bool) (I : Nat → Nat → Int32) (L : Nat → Nat → Int64) : Rn X d co_Ch_leaves (42, [some (vr 1), o1, some (vr (9 + 5 * b)), o3, o4], [vi u0], pm_mm al D I L) = Rn X d co_Ch_leaves (46, [some (vr 1), o1, some (vr (9 + 5 * b)), some (vi u0), some (vi 1)], [], pm_mm al D I L) := by
  rcases two hb with rfl | rfl
  · exact sg_Ch_leaves_0_42 ..
  · exact sg_Ch_leaves_1_42 ..
theorem sgb_Ch_leaves_46 {b : Nat} (hb : b < 2) (X : Nat × (Nat → Int32)) (d : Nat) (o1 : Option pm_V) (x3 x4 : Int32) (al : List Nat) (D : Nat → Bool) (I : Nat → Nat → Int32) (L : Nat → Nat → Int64) : Rn X d co_Ch_leaves (46, [some (vr 1), o1, some (vr (9 + 5 * b)), some (vi x3), some (vi x4)], [], pm_mm al D I L) = cond (decide ((1 <<< ((I (9 + 5 * b) 4) &&& 31)) ≤ x4)) (some (some (vi (-1)), pm_mm al D I L)) (((Cl X d 32 [vr 73, vr (9 + 5 * b), vi x4, vi 0, vi 0] (pm_mm al D I L)).bind pm_ai).bind (fun r => Rn X d co_Ch_leaves (69, [some (vr 1), o1, some (vr (9 + 5 * b)), some (vi x3), some (vi x4)], [vi r.1], r.2))) := by
  rcases two hb with rfl | rfl
  · exact sg_Ch_leaves_0_46 ..
  · exact sg_Ch_leaves_1_46 ..
theorem sgb_Ch_leaves_69 {b : Nat} (hb : b < 2) (X : Nat × (Nat → Int32)) (d : Nat) (o1 : Option pm_V) (x3 x4 u0 : Int32) (al : List Nat) (D : Nat → Bool) (I : Nat → Nat → Int32) (L : Nat → Nat → Int64) : Rn X d co_Ch_leaves (69, [some (vr 1), o1, some (vr (9 + 5 * b)), some (vi x3), some (vi x4)], [vi u0], pm_mm al D I L) = ((Cl X d 1 [vi x4] (pm_mm al D I L)).bind pm_ai).bind (fun r => Rn X d co_Ch_leaves (80, [some (vr 1), o1, some (vr (9 + 5 * b)), some (vi x3), some (vi x4)], [vi r.1, vi x3, vi (u0 * (I (9 + 5 * b) 4))], r.2)) := by
  rcases two hb with rfl | rfl
  · exact sg_Ch_leaves_0_69 ..
  · exact sg_Ch_leaves_1_69 ..
theorem sgb_Ch_leaves_80 {b : Nat} (hb : b < 2) (X : Nat × (Nat → Int32)) (d : Nat) (o1 : Option pm_V) (x3 x4 u0 u1 u2 : Int32) (al : List Nat) (D : Nat → Bool) (I : Nat → Nat → Int32) (L : Nat → Nat → Int64) : Rn X d co_Ch_leaves (80, [some (vr 1), o1, some (vr (9 + 5 * b)), some (vi x3), some (vi x4)], [vi u2, vi u1, vi u0], pm_mm al D I L) = cond (decide ((u1 * u2) ≤ u0)) (Rn X d co_Ch_leaves (46, [some (vr 1), o1, some (vr (9 + 5 * b)), some (vi x3), some (vi (x4 + 1))], [], pm_mm al D I L)) (some (some (vi x4), pm_mm al D I L)) := by
  rcases two hb with rfl | rfl
  · exact sg_Ch_leaves_0_80 ..
  · exact sg_Ch_leaves_1_80 ..
theorem sgb_Ch_duel_0 {b : Nat} (hb : b < 2) (X : Nat × (Nat → Int32)) (d : Nat) (x2 x3 : Int32) (o4 : Option pm_V) (al : List Nat) (D : Nat → Bool) (I : Nat → Nat → Int32) (L : Nat → Nat → Int64) : Rn X d co_Ch_duel (0, [some (vr 1), some (vi (Int32.ofNat b)), some (vi x2), some (vi x3), o4], [], pm_mm al D I L) = ((Cl X d 93 [vr 2, vi 0, vi (Int32.ofNat b)] (pm_mm al D I L)).bind pm_ai).bind (fun r => Rn X d co_Ch_duel (9, [some (vr 1), some (vi (Int32.ofNat b)), some (vi x2), some (vi x3), o4], [vi r.1], r.2)) := by
  rcases two hb with rfl | rfl
  · exact sg_Ch_duel_0_0 ..
  · exact sg_Ch_duel_1_0 ..
theorem sgb_Ch_duel_9 {b : Nat} (hb : b < 2) (X : Nat × (Nat → Int32)) (d : Nat) (x2 x3 : Int32) (o4 : Option pm_V) (u0 : Int32) (al : List Nat) (D : Nat → Bool) (I : Nat → Nat → Int32) (L : Nat → Nat → Int64) : Rn X d co_Ch_duel (9, [some (vr 1), some (vi (Int32.ofNat b)), some (vi x2), some (vi x3), o4], [vi u0], pm_mm al D I L) = cond (decide (u0 = 0)) (Rn X d co_Ch_duel (21, [some (vr 1), some (vi (Int32.ofNat b)), some (vi x2), some (vi x3), o4], [], pm_mm al D I L)) (cond (decide (x2 < 0)) (Rn X d co_Ch_duel (21, [some (vr 1), some (vi (Int32.ofNat b)), some (vi x2), some (vi x3), o4], [], pm_mm al D I L)) (cond (decide (x2 ≤ 4)) (cond (decide (x3 = 0)) (((Cl X d 15 [vr (9 + 5 * b), vi x2] (pm_mm al D I L)).bind pm_ai).bind (fun r => Rn X d co_Ch_duel (61, [some (vr 1), some (vi (Int32.ofNat b)), some (vi x2), some (vi x3), some (vr (9 + 5 * b))], [vi r.1], r.2))) (cond (decide (x2 = 0)) (Rn X d co_Ch_duel (54, [some (vr 1), some (vi (Int32.ofNat b)), some (vi x2), some (vi x3), some (vr (9 + 5 * b))], [vi (-1)], pm_mm al D I L)) (((Cl X d 16 [vr (9 + 5 * b), vi x2] (pm_mm al D I L)).bind pm_ai).bind (fun r => Rn X d co_Ch_duel (54, [some (vr 1), some (vi (Int32.ofNat b)), some (vi x2), some (vi x3), some (vr (9 + 5 * b))], [vi r.1], r.2))))) (Rn X d co_Ch_duel (21, [some (vr 1), some (vi (Int32.ofNat b)), some (vi x2), some (vi x3), o4], [], pm_mm al D I L)))) := by
  rcases two hb with rfl | rfl
  · exact sg_Ch_duel_0_9 ..
  · exact sg_Ch_duel_1_9 ..
theorem sgb_Ch_duel_21 (X : Nat × (Nat → Int32)) (d : Nat) (o0 o1 o2 o3 o4 : Option pm_V) (al : List Nat) (D : Nat → Bool) (I : Nat → Nat → Int32) (L : Nat → Nat → Int64) : Rn X d co_Ch_duel (21, [o0, o1, o2, o3, o4], [], pm_mm al D I L) = some (some (vi (-999)), pm_mm al D I L) :=
  sg_Ch_duel_0_21 ..
theorem sgb_Ch_duel_54 (X : Nat × (Nat → Int32)) (d : Nat) (o0 o1 o2 o3 o4 : Option pm_V) (u0 : Int32) (al : List Nat) (D : Nat → Bool) (I : Nat → Nat → Int32) (L : Nat → Nat → Int64) : Rn X d co_Ch_duel (54, [o0, o1, o2, o3, o4], [vi u0], pm_mm al D I L) = some (some (vi u0), pm_mm al D I L) :=
  sg_Ch_duel_0_54 ..
theorem sgb_Ch_duel_61 (X : Nat × (Nat → Int32)) (d : Nat) (o0 o1 o2 o3 o4 : Option pm_V) (u0 : Int32) (al : List Nat) (D : Nat → Bool) (I : Nat → Nat → Int32) (L : Nat → Nat → Int64) : Rn X d co_Ch_duel (61, [o0, o1, o2, o3, o4], [vi u0], pm_mm al D I L) = some (some (vi u0), pm_mm al D I L) :=
  sg_Ch_duel_0_61 ..
theorem sgb_Ch_mouse_0 {b : Nat} (hb : b < 2) (X : Nat × (Nat → Int32)) (d : Nat) (x2 x3 x4 : Int32) (o5 o6 o7 o8 o9 : Option pm_V) (al : List Nat) (D : Nat → Bool) (I : Nat → Nat → Int32) (L : Nat → Nat → Int64) : Rn X d co_Ch_mouse (0, [some (vr 1), some (vi (Int32.ofNat b)), some (vi x2), some (vi x3), some (vi x4), o5, o6, o7, o8, o9], [], pm_mm al D I L) = ((Cl X d 93 [vr 2, vi 0, vi (Int32.ofNat b)] (pm_mm al D I L)).bind pm_ai).bind (fun r => Rn X d co_Ch_mouse (9, [some (vr 1), some (vi (Int32.ofNat b)), some (vi x2), some (vi x3), some (vi x4), o5, o6, o7, o8, o9], [vi r.1], r.2)) := by
  rcases two hb with rfl | rfl
  · exact sg_Ch_mouse_0_0 ..
  · exact sg_Ch_mouse_1_0 ..
theorem sgb_Ch_mouse_9 {b : Nat} (hb : b < 2) (X : Nat × (Nat → Int32)) (d : Nat) (x2 x3 x4 : Int32) (o5 o6 o7 o8 o9 : Option pm_V) (u0 : Int32) (al : List Nat) (D : Nat → Bool) (I : Nat → Nat → Int32) (L : Nat → Nat → Int64) : Rn X d co_Ch_mouse (9, [some (vr 1), some (vi (Int32.ofNat b)), some (vi x2), some (vi x3), some (vi x4), o5, o6, o7, o8, o9], [vi u0], pm_mm al D I L) = cond (decide (u0 = 0)) (Rn X d co_Ch_mouse (32, [some (vr 1), some (vi (Int32.ofNat b)), some (vi x2), some (vi x3), some (vi x4), o5, o6, o7, o8, o9], [], pm_mm al D I L)) (cond (decide (x2 < 0)) (Rn X d co_Ch_mouse (32, [some (vr 1), some (vi (Int32.ofNat b)), some (vi x2), some (vi x3), some (vi x4), o5, o6, o7, o8, o9], [], pm_mm al D I L)) (cond (decide (10 < x2)) (Rn X d co_Ch_mouse (32, [some (vr 1), some (vi (Int32.ofNat b)), some (vi x2), some (vi x3), some (vi x4), o5, o6, o7, o8, o9], [], pm_mm al D I L)) (cond (decide (x3 < 0)) (Rn X d co_Ch_mouse (32, [some (vr 1), some (vi (Int32.ofNat b)), some (vi x2), some (vi x3), some (vi x4), o5, o6, o7, o8, o9], [], pm_mm al D I L)) (cond (decide (x3 ≤ 9)) (Rn X d co_Ch_mouse (53, [some (vr 1), some (vi (Int32.ofNat b)), some (vi x2), some (vi x3), some (vi x4), some (vr (9 + 5 * b)), some (vl 0), none, some (vi 0), o9], [], pm_mm al D I L)) (Rn X d co_Ch_mouse (32, [some (vr 1), some (vi (Int32.ofNat b)), some (vi x2), some (vi x3), some (vi x4), o5, o6, o7, o8, o9], [], pm_mm al D I L)))))) := by
  rcases two hb with rfl | rfl
  · exact sg_Ch_mouse_0_9 ..
  · exact sg_Ch_mouse_1_9 ..
theorem sgb_Ch_mouse_32 (X : Nat × (Nat → Int32)) (d : Nat) (o0 o1 o2 o3 o4 o5 o6 o7 o8 o9 : Option pm_V) (al : List Nat) (D : Nat → Bool) (I : Nat → Nat → Int32) (L : Nat → Nat → Int64) : Rn X d co_Ch_mouse (32, [o0, o1, o2, o3, o4, o5, o6, o7, o8, o9], [], pm_mm al D I L) = some (some (vl (-1)), pm_mm al D I L) :=
  sg_Ch_mouse_0_32 ..
theorem sgb_Ch_mouse_53 {b : Nat} (hb : b < 2) (X : Nat × (Nat → Int32)) (d : Nat) (o0 o1 : Option pm_V) (x2 x3 x4 : Int32) (y6 : Int64) (x8 : Int32) (o9 : Option pm_V) (al : List Nat) (D : Nat → Bool) (I : Nat → Nat → Int32) (L : Nat → Nat → Int64) : Rn X d co_Ch_mouse (53, [o0, o1, some (vi x2), some (vi x3), some (vi x4), some (vr (9 + 5 * b)), some (vl y6), none, some (vi x8), o9], [], pm_mm al D I L) = cond (decide ((1 <<< (x3 &&& 31)) ≤ x8)) (((Cl X d 158 [vi 10, vi x3] (pm_mm al D I L)).bind pm_al).bind (fun r => Rn X d co_Ch_mouse (115, [o0, o1, some (vi x2), some (vi x3), some (vi x4), some (vr (9 + 5 * b)), some (vl y6), none, some (vi x8), o9], [vl r.1, vl y6], r.2))) (((Cl X d 1 [vi x8] (pm_mm al D I L)).bind pm_ai).bind (fun r => Rn X d co_Ch_mouse (66, [o0, o1, some (vi x2), some (vi x3), some (vi x4), some (vr (9 + 5 * b)), some (vl y6), none, some (vi x8), o9], [vi r.1], r.2))) := by
  rcases two hb with rfl | rfl
  · exact sg_Ch_mouse_0_53 ..
  · exact sg_Ch_mouse_1_53 ..
theorem sgb_Ch_mouse_66 {b : Nat} (hb : b < 2) (X : Nat × (Nat → Int32)) (d : Nat) (o0 o1 : Option pm_V) (x2 x3 x4 : Int32) (y6 : Int64) (x8 : Int32) (o9 : Option pm_V) (u0 : Int32) (al : List Nat) (D : Nat → Bool) (I : Nat → Nat → Int32) (L : Nat → Nat → Int64) : Rn X d co_Ch_mouse (66, [o0, o1, some (vi x2), some (vi x3), some (vi x4), some (vr (9 + 5 * b)), some (vl y6), none, some (vi x8), o9], [vi u0], pm_mm al D I L) = cond (decide (0 < (((I (9 + 5 * b) 0) - (x3 * (I (9 + 5 * b) 1))) - (u0 * 5)))) (Rn X d co_Ch_mouse (101, [o0, o1, some (vi x2), some (vi x3), some (vi x4), some (vr (9 + 5 * b)), some (vl y6), none, some (vi x8), some (vi u0)], [], pm_mm al D I L)) (((Cl X d 159 [vi x2, vi u0, vi x3] (pm_mm al D I L)).bind pm_al).bind (fun r => Rn X d co_Ch_mouse (98, [o0, o1, some (vi x2), some (vi x3), some (vi x4), some (vr (9 + 5 * b)), some (vl y6), none, some (vi x8), some (vi u0)], [vl r.1, vl y6], r.2))) := by
  rcases two hb with rfl | rfl
  · exact sg_Ch_mouse_0_66 ..
  · exact sg_Ch_mouse_1_66 ..
theorem sgb_Ch_mouse_98 {b : Nat} (hb : b < 2) (X : Nat × (Nat → Int32)) (d : Nat) (o0 o1 : Option pm_V) (x2 x3 x4 : Int32) (o6 o7 : Option pm_V) (x8 : Int32) (o9 : Option pm_V) (w0 w1 : Int64) (al : List Nat) (D : Nat → Bool) (I : Nat → Nat → Int32) (L : Nat → Nat → Int64) : Rn X d co_Ch_mouse (98, [o0, o1, some (vi x2), some (vi x3), some (vi x4), some (vr (9 + 5 * b)), o6, o7, some (vi x8), o9], [vl w1, vl w0], pm_mm al D I L) = Rn X d co_Ch_mouse (101, [o0, o1, some (vi x2), some (vi x3), some (vi x4), some (vr (9 + 5 * b)), some (vl (w0 + w1)), none, some (vi x8), o9], [], pm_mm al D I L) := by
  rcases two hb with rfl | rfl
  · exact sg_Ch_mouse_0_98 ..
  · exact sg_Ch_mouse_1_98 ..
theorem sgb_Ch_mouse_101 {b : Nat} (hb : b < 2) (X : Nat × (Nat → Int32)) (d : Nat) (o0 o1 : Option pm_V) (x2 x3 x4 : Int32) (y6 : Int64) (x8 : Int32) (o9 : Option pm_V) (al : List Nat) (D : Nat → Bool) (I : Nat → Nat → Int32) (L : Nat → Nat → Int64) : Rn X d co_Ch_mouse (101, [o0, o1, some (vi x2), some (vi x3), some (vi x4), some (vr (9 + 5 * b)), some (vl y6), none, some (vi x8), o9], [], pm_mm al D I L) = Rn X d co_Ch_mouse (53, [o0, o1, some (vi x2), some (vi x3), some (vi x4), some (vr (9 + 5 * b)), some (vl y6), none, some (vi (x8 + 1)), o9], [], pm_mm al D I L) := by
  rcases two hb with rfl | rfl
  · exact sg_Ch_mouse_0_101 ..
  · exact sg_Ch_mouse_1_101 ..
theorem sgb_Ch_mouse_115 (X : Nat × (Nat → Int32)) (d : Nat) (o0 o1 o2 o3 : Option pm_V) (x4 : Int32) (o5 o6 o7 o8 o9 : Option pm_V) (w0 w1 : Int64) (al : List Nat) (D : Nat → Bool) (I : Nat → Nat → Int32) (L : Nat → Nat → Int64) : Rn X d co_Ch_mouse (115, [o0, o1, o2, o3, some (vi x4), o5, o6, o7, o8, o9], [vl w1, vl w0], pm_mm al D I L) = ((Cl X d 157 [vl w0, vl w1, vi x4] (pm_mm al D I L)).bind pm_al).bind (fun r => Rn X d co_Ch_mouse (120, [o0, o1, o2, o3, some (vi x4), o5, o6, o7, o8, o9], [vl r.1], r.2)) :=
  sg_Ch_mouse_0_115 ..
theorem sgb_Ch_mouse_120 (X : Nat × (Nat → Int32)) (d : Nat) (o0 o1 o2 o3 o4 o5 o6 o7 o8 o9 : Option pm_V) (w0 : Int64) (al : List Nat) (D : Nat → Bool) (I : Nat → Nat → Int32) (L : Nat → Nat → Int64) : Rn X d co_Ch_mouse (120, [o0, o1, o2, o3, o4, o5, o6, o7, o8, o9], [vl w0], pm_mm al D I L) = some (some (vl w0), pm_mm al D I L) :=
  sg_Ch_mouse_0_120 ..
theorem sgb_Ch_chord_0 {b : Nat} (hb : b < 2) (X : Nat × (Nat → Int32)) (d : Nat) (x2 x3 : Int32) (o4 o5 o6 o7 o8 o9 : Option pm_V) (al : List Nat) (D : Nat → Bool) (I : Nat → Nat → Int32) (L : Nat → Nat → Int64) : Rn X d co_Ch_chord (0, [some (vr 1), some (vi (Int32.ofNat b)), some (vi x2), some (vi x3), o4, o5, o6, o7, o8, o9], [], pm_mm al D I L) = ((Cl X d 93 [vr 2, vi 0, vi (Int32.ofNat b)] (pm_mm al D I L)).bind pm_ai).bind (fun r => Rn X d co_Ch_chord (9, [some (vr 1), some (vi (Int32.ofNat b)), some (vi x2), some (vi x3), o4, o5, o6, o7, o8, o9], [vi r.1], r.2)) := by
  rcases two hb with rfl | rfl
  · exact sg_Ch_chord_0_0 ..
  · exact sg_Ch_chord_1_0 ..
theorem sgb_Ch_chord_9 {b : Nat} (hb : b < 2) (X : Nat × (Nat → Int32)) (d : Nat) (x2 x3 : Int32) (o4 o5 o6 o7 o8 o9 : Option pm_V) (u0 : Int32) (al : List Nat) (D : Nat → Bool) (I : Nat → Nat → Int32) (L : Nat → Nat → Int64) : Rn X d co_Ch_chord (9, [some (vr 1), some (vi (Int32.ofNat b)), some (vi x2), some (vi x3), o4, o5, o6, o7, o8, o9], [vi u0], pm_mm al D I L) = cond (decide (u0 = 0)) (Rn X d co_Ch_chord (22, [some (vr 1), some (vi (Int32.ofNat b)), some (vi x2), some (vi x3), o4, o5, o6, o7, o8, o9], [], pm_mm al D I L)) (cond (decide (x2 < 0)) (Rn X d co_Ch_chord (22, [some (vr 1), some (vi (Int32.ofNat b)), some (vi x2), some (vi x3), o4, o5, o6, o7, o8, o9], [], pm_mm al D I L)) (cond (decide (x2 ≤ 60)) (Rn X d co_Ch_chord (47, [some (vr 1), some (vi (Int32.ofNat b)), some (vi x2), some (vi x3), some (vr (9 + 5 * b)), some (vi (-1)), some (vi 0), some (vi 0), some (vi 0), o9], [], pm_mm al D I L)) (Rn X d co_Ch_chord (22, [some (vr 1), some (vi (Int32.ofNat b)), some (vi x2), some (vi x3), o4, o5, o6, o7, o8, o9], [], pm_mm al D I L)))) := by
  rcases two hb with rfl | rfl
  · exact sg_Ch_chord_0_9 ..
  · exact sg_Ch_chord_1_9 ..
theorem sgb_Ch_chord_22 (X : Nat × (Nat → Int32)) (d : Nat) (o0 o1 o2 o3 o4 o5 o6 o7 o8 o9 : Option pm_V) (al : List Nat) (D : Nat → Bool) (I : Nat → Nat → Int32) (L : Nat → Nat → Int64) : Rn X d co_Ch_chord (22, [o0, o1, o2, o3, o4, o5, o6, o7, o8, o9], [], pm_mm al D I L) = some (some (vi (-1)), pm_mm al D I L) :=
  sg_Ch_chord_0_22 ..
theorem sgb_Ch_chord_47 {b : Nat} (hb : b < 2) (X : Nat × (Nat → Int32)) (d : Nat) (o0 o1 : Option pm_V) (x2 x3 x5 x6 x7 x8 : Int32) (o9 : Option pm_V) (al : List Nat) (D : Nat → Bool) (I : Nat → Nat → Int32) (L : Nat → Nat → Int64) : Rn X d co_Ch_chord (47, [o0, o1, some (vi x2), some (vi x3), some (vr (9 + 5 * b)), some (vi x5), some (vi x6), some (vi x7), some (vi x8), o9], [], pm_mm al D I L) = cond (decide ((1 <<< ((I (9 + 5 * b) 4) &&& 31)) ≤ x8)) (cond (decide (x3 = 0)) (some (some (vi x5), pm_mm al D I L)) (cond (decide (x3 = 1)) (some (some (vi x6), pm_mm al D I L)) (cond (decide (x3 = 2)) (some (some (vi x7), pm_mm al D I L)) (some (some (vi (-1)), pm_mm al D I L))))) (((Cl X d 12 [vr (9 + 5 * b), vr (10 + 5 * b), vi x8] (pm_mm al D I L)).bind pm_ai).bind (fun r => Rn X d co_Ch_chord (71, [o0, o1, some (vi x2), some (vi x3), some (vr (9 + 5 * b)), some (vi x5), some (vi x6), some (vi x7), some (vi x8), o9], [vi r.1], r.2))) := by
  rcases two hb with rfl | rfl
  · exact sg_Ch_chord_0_47 ..
  · exact sg_Ch_chord_1_47 ..
theorem sgb_Ch_chord_71 {b : Nat} (hb : b < 2) (X : Nat × (Nat → Int32)) (d : Nat) (o0 o1 : Option pm_V) (x2 x3 x5 x6 x7 x8 : Int32) (o9 : Option pm_V) (u0 : Int32) (al : List Nat) (D : Nat → Bool) (I : Nat → Nat → Int32) (L : Nat → Nat → Int64) : Rn X d co_Ch_chord (71, [o0, o1, some (vi x2), some (vi x3), some (vr (9 + 5 * b)), some (vi x5), some (vi x6), some (vi x7), some (vi x8), o9], [vi u0], pm_mm al D I L) = cond (decide (x2 < u0)) (Rn X d co_Ch_chord (107, [o0, o1, some (vi x2), some (vi x3), some (vr (9 + 5 * b)), some (vi x5), some (vi x6), some (vi x7), some (vi x8), o9], [], pm_mm al D I L)) (((Cl X d 12 [vr (9 + 5 * b), vr (11 + 5 * b), vi x8] (pm_mm al D I L)).bind pm_ai).bind (fun r => Rn X d co_Ch_chord (90, [o0, o1, some (vi x2), some (vi x3), some (vr (9 + 5 * b)), some (vi x5), some (vi x6), some (vi (x7 + 1)), some (vi x8), o9], [vi r.1], r.2))) := by
  rcases two hb with rfl | rfl
  · exact sg_Ch_chord_0_71 ..
  · exact sg_Ch_chord_1_71 ..
theorem sgb_Ch_chord_90 {b : Nat} (hb : b < 2) (X : Nat × (Nat → Int32)) (d : Nat) (o0 o1 : Option pm_V) (x2 x3 x5 x6 x7 x8 : Int32) (o9 : Option pm_V) (u0 : Int32) (al : List Nat) (D : Nat → Bool) (I : Nat → Nat → Int32) (L : Nat → Nat → Int64) : Rn X d co_Ch_chord (90, [o0, o1, some (vi x2), some (vi x3), some (vr (9 + 5 * b)), some (vi x5), some (vi x6), some (vi x7), some (vi x8), o9], [vi u0], pm_mm al D I L) = cond (decide (u0 ≤ x5)) (Rn X d co_Ch_chord (107, [o0, o1, some (vi x2), some (vi x3), some (vr (9 + 5 * b)), some (vi x5), some (vi x6), some (vi x7), some (vi x8), some (vi u0)], [], pm_mm al D I L)) (Rn X d co_Ch_chord (107, [o0, o1, some (vi x2), some (vi x3), some (vr (9 + 5 * b)), some (vi u0), some (vi x8), some (vi x7), some (vi x8), some (vi u0)], [], pm_mm al D I L)) := by
  rcases two hb with rfl | rfl
  · exact sg_Ch_chord_0_90 ..
  · exact sg_Ch_chord_1_90 ..
theorem sgb_Ch_chord_107 {b : Nat} (hb : b < 2) (X : Nat × (Nat → Int32)) (d : Nat) (o0 o1 : Option pm_V) (x2 x3 x5 x6 x7 x8 : Int32) (o9 : Option pm_V) (al : List Nat) (D : Nat → Bool) (I : Nat → Nat → Int32) (L : Nat → Nat → Int64) : Rn X d co_Ch_chord (107, [o0, o1, some (vi x2), some (vi x3), some (vr (9 + 5 * b)), some (vi x5), some (vi x6), some (vi x7), some (vi x8), o9], [], pm_mm al D I L) = Rn X d co_Ch_chord (47, [o0, o1, some (vi x2), some (vi x3), some (vr (9 + 5 * b)), some (vi x5), some (vi x6), some (vi x7), some (vi (x8 + 1)), o9], [], pm_mm al D I L) := by
  rcases two hb with rfl | rfl
  · exact sg_Ch_chord_0_107 ..
  · exact sg_Ch_chord_1_107 ..
theorem sgb_Ch_fits_0 {b : Nat} {s : Nat} {l : Nat} (hb : b < 2) (hs : s < 2) (hl : l < 2) (X : Nat × (Nat → Int32)) (d : Nat) (x4 : Int32) (o5 : Option pm_V) (al : List Nat) (D : Nat → Bool) (I : Nat → Nat → Int32) (L : Nat → Nat → Int64) : Rn X d co_Ch_fits (0, [some (vr 1), some (vi (Int32.ofNat b)), some (vi (Int32.ofNat s)), some (vi (Int32.ofNat l)), some (vi x4), o5], [], pm_mm al D I L) = ((Cl X d 152 [vr 1, vi (Int32.ofNat b), vi (Int32.ofNat s), vi (Int32.ofNat l)] (pm_mm al D I L)).bind pm_ai).bind (fun r => Rn X d co_Ch_fits (7, [some (vr 1), some (vi (Int32.ofNat b)), some (vi (Int32.ofNat s)), some (vi (Int32.ofNat l)), some (vi x4), o5], [vi r.1], r.2)) := by
  rcases two hb with rfl | rfl <;> rcases two hs with rfl | rfl <;> rcases two hl with rfl | rfl
  · exact sg_Ch_fits_0_0_0_0 ..
  · exact sg_Ch_fits_0_0_1_0 ..
  · exact sg_Ch_fits_0_1_0_0 ..
  · exact sg_Ch_fits_0_1_1_0 ..
  · exact sg_Ch_fits_1_0_0_0 ..
  · exact sg_Ch_fits_1_0_1_0 ..
  · exact sg_Ch_fits_1_1_0_0 ..
  · exact sg_Ch_fits_1_1_1_0 ..
theorem sgb_Ch_fits_7 {b : Nat} {s : Nat} {l : Nat} (hb : b < 2) (hs : s < 2) (hl : l < 2) (X : Nat × (Nat → Int32)) (d : Nat) (x4 : Int32) (o5 : Option pm_V) (u0 : Int32) (al : List Nat) (D : Nat → Bool) (I : Nat → Nat → Int32) (L : Nat → Nat → Int64) : Rn X d co_Ch_fits (7, [some (vr 1), some (vi (Int32.ofNat b)), some (vi (Int32.ofNat s)), some (vi (Int32.ofNat l)), some (vi x4), o5], [vi u0], pm_mm al D I L) = cond (decide (u0 = 0)) (some (some (vi (-2)), pm_mm al D I L)) (((Cl X d 137 [vr 1, vi (Int32.ofNat b), vi (Int32.ofNat s)] (pm_mm al D I L)).bind pm_ar).bind (fun r => Rn X d co_Ch_fits (19, [some (vr 1), some (vi (Int32.ofNat b)), some (vi (Int32.ofNat s)), some (vi (Int32.ofNat l)), some (vi x4), o5], [vr r.1], r.2))) := by
  rcases two hb with rfl | rfl <;> rcases two hs with rfl | rfl <;> rcases two hl with rfl | rfl
  · exact sg_Ch_fits_0_0_0_7 ..
  · exact sg_Ch_fits_0_0_1_7 ..
  · exact sg_Ch_fits_0_1_0_7 ..
  · exact sg_Ch_fits_0_1_1_7 ..
  · exact sg_Ch_fits_1_0_0_7 ..
  · exact sg_Ch_fits_1_0_1_7 ..
  · exact sg_Ch_fits_1_1_0_7 ..
  · exact sg_Ch_fits_1_1_1_7 ..
theorem sgb_Ch_fits_19 {b : Nat} {s : Nat} {l : Nat} (hb : b < 2) (hs : s < 2) (hl : l < 2) (X : Nat × (Nat → Int32)) (d : Nat) (o1 o2 : Option pm_V) (x4 : Int32) (o5 : Option pm_V) (al : List Nat) (D : Nat → Bool) (I : Nat → Nat → Int32) (L : Nat → Nat → Int64) : Rn X d co_Ch_fits (19, [some (vr 1), o1, o2, some (vi (Int32.ofNat l)), some (vi x4), o5], [vr (220 + 6 * b + 3 * s)], pm_mm al (pm_tb (3 + 2 * b + s) D) I L) = ((Cl X d 20 [vr 76, vr (27 + 3 * l)] (pm_mm al (pm_tb (3 + 2 * b + s) D) I L)).bind pm_av).bind (fun r => Rn X d co_Ch_fits (40, [some (vr 1), o1, o2, some (vi (Int32.ofNat l)), some (vi x4), some (vr (221 + 6 * b + 3 * s))], [], r)) := by
  rcases two hb with rfl | rfl <;> rcases two hs with rfl | rfl <;> rcases two hl with rfl | rfl
  · exact sg_Ch_fits_0_0_0_19 ..
  · exact sg_Ch_fits_0_0_1_19 ..
  · exact sg_Ch_fits_0_1_0_19 ..
  · exact sg_Ch_fits_0_1_1_19 ..
  · exact sg_Ch_fits_1_0_0_19 ..
  · exact sg_Ch_fits_1_0_1_19 ..
  · exact sg_Ch_fits_1_1_0_19 ..
  · exact sg_Ch_fits_1_1_1_19 ..
theorem sgb_Ch_fits_40 {b : Nat} {s : Nat} {l : Nat} (hb : b < 2) (hs : s < 2) (hl : l < 2) (X : Nat × (Nat → Int32)) (d : Nat) (o1 o2 o3 : Option pm_V) (x4 : Int32) (al : List Nat) (D : Nat → Bool) (I : Nat → Nat → Int32) (L : Nat → Nat → Int64) : Rn X d co_Ch_fits (40, [some (vr 1), o1, o2, o3, some (vi x4), some (vr (221 + 6 * b + 3 * s))], [], pm_mm al (pm_tb (3 + 2 * b + s) D) I L) = cond (decide (x4 = 0)) (((Cl X d 22 [vr 76, vr (221 + 6 * b + 3 * s)] (pm_mm al (pm_tb (3 + 2 * b + s) D) I L)).bind pm_ai).bind (fun r => Rn X d co_Ch_fits (77, [some (vr 1), o1, o2, o3, some (vi x4), some (vr (221 + 6 * b + 3 * s))], [vi r.1], r.2))) (cond (decide (x4 = 1)) (((Cl X d 25 [vr 76, vr (221 + 6 * b + 3 * s)] (pm_mm al (pm_tb (3 + 2 * b + s) D) I L)).bind pm_ai).bind (fun r => Rn X d co_Ch_fits (87, [some (vr 1), o1, o2, o3, some (vi x4), some (vr (221 + 6 * b + 3 * s))], [vi r.1], r.2))) (cond (decide (x4 = 2)) (((Cl X d 28 [vr 76, vr (221 + 6 * b + 3 * s)] (pm_mm al (pm_tb (3 + 2 * b + s) D) I L)).bind pm_ai).bind (fun r => Rn X d co_Ch_fits (97, [some (vr 1), o1, o2, o3, some (vi x4), some (vr (221 + 6 * b + 3 * s))], [vi r.1], r.2))) (cond (decide (10 ≤ x4)) (((Cl X d 24 [vr 76, vr (221 + 6 * b + 3 * s), vi (x4 - 10)] (pm_mm al (pm_tb (3 + 2 * b + s) D) I L)).bind pm_ai).bind (fun r => Rn X d co_Ch_fits (124, [some (vr 1), o1, o2, o3, some (vi x4), some (vr (221 + 6 * b + 3 * s))], [vi r.1], r.2))) (Rn X d co_Ch_fits (124, [some (vr 1), o1, o2, o3, some (vi x4), some (vr (221 + 6 * b + 3 * s))], [vi (-2)], pm_mm al (pm_tb (3 + 2 * b + s) D) I L))))) := by
  rcases two hb with rfl | rfl <;> rcases two hs with rfl | rfl <;> rcases two hl with rfl | rfl
  · exact sg_Ch_fits_0_0_0_40 ..
  · exact sg_Ch_fits_0_0_1_40 ..
  · exact sg_Ch_fits_0_1_0_40 ..
  · exact sg_Ch_fits_0_1_1_40 ..
  · exact sg_Ch_fits_1_0_0_40 ..
  · exact sg_Ch_fits_1_0_1_40 ..
  · exact sg_Ch_fits_1_1_0_40 ..
  · exact sg_Ch_fits_1_1_1_40 ..
theorem sgb_Ch_fits_77 (X : Nat × (Nat → Int32)) (d : Nat) (o0 o1 o2 o3 o4 o5 : Option pm_V) (u0 : Int32) (al : List Nat) (D : Nat → Bool) (I : Nat → Nat → Int32) (L : Nat → Nat → Int64) : Rn X d co_Ch_fits (77, [o0, o1, o2, o3, o4, o5], [vi u0], pm_mm al D I L) = some (some (vi u0), pm_mm al D I L) :=
  sg_Ch_fits_0_0_0_77 ..
theorem sgb_Ch_fits_87 (X : Nat × (Nat → Int32)) (d : Nat) (o0 o1 o2 o3 o4 o5 : Option pm_V) (u0 : Int32) (al : List Nat) (D : Nat → Bool) (I : Nat → Nat → Int32) (L : Nat → Nat → Int64) : Rn X d co_Ch_fits (87, [o0, o1, o2, o3, o4, o5], [vi u0], pm_mm al D I L) = some (some (vi u0), pm_mm al D I L) :=
  sg_Ch_fits_0_0_0_87 ..
theorem sgb_Ch_fits_97 (X : Nat × (Nat → Int32)) (d : Nat) (o0 o1 o2 o3 o4 o5 : Option pm_V) (u0 : Int32) (al : List Nat) (D : Nat → Bool) (I : Nat → Nat → Int32) (L : Nat → Nat → Int64) : Rn X d co_Ch_fits (97, [o0, o1, o2, o3, o4, o5], [vi u0], pm_mm al D I L) = some (some (vi u0), pm_mm al D I L) :=
  sg_Ch_fits_0_0_0_97 ..
theorem sgb_Ch_fits_124 (X : Nat × (Nat → Int32)) (d : Nat) (o0 o1 o2 o3 o4 o5 : Option pm_V) (u0 : Int32) (al : List Nat) (D : Nat → Bool) (I : Nat → Nat → Int32) (L : Nat → Nat → Int64) : Rn X d co_Ch_fits (124, [o0, o1, o2, o3, o4, o5], [vi u0], pm_mm al D I L) = some (some (vi u0), pm_mm al D I L) :=
  sg_Ch_fits_0_0_0_124 ..
theorem sgb_Ch_toil_0 {b : Nat} {s : Nat} {l : Nat} (hb : b < 2) (hs : s < 2) (hl : l < 2) (X : Nat × (Nat → Int32)) (d : Nat) (x4 : Int32) (o5 : Option pm_V) (al : List Nat) (D : Nat → Bool) (I : Nat → Nat → Int32) (L : Nat → Nat → Int64) : Rn X d co_Ch_toil (0, [some (vr 1), some (vi (Int32.ofNat b)), some (vi (Int32.ofNat s)), some (vi (Int32.ofNat l)), some (vi x4), o5], [], pm_mm al D I L) = ((Cl X d 152 [vr 1, vi (Int32.ofNat b), vi (Int32.ofNat s), vi (Int32.ofNat l)] (pm_mm al D I L)).bind pm_ai).bind (fun r => Rn X d co_Ch_toil (7, [some (vr 1), some (vi (Int32.ofNat b)), some (vi (Int32.ofNat s)), some (vi (Int32.ofNat l)), some (vi x4), o5], [vi r.1], r.2)) := by
  rcases two hb with rfl | rfl <;> rcases two hs with rfl | rfl <;> rcases two hl with rfl | rfl
  · exact sg_Ch_toil_0_0_0_0 ..
  · exact sg_Ch_toil_0_0_1_0 ..
  · exact sg_Ch_toil_0_1_0_0 ..
  · exact sg_Ch_toil_0_1_1_0 ..
  · exact sg_Ch_toil_1_0_0_0 ..
  · exact sg_Ch_toil_1_0_1_0 ..
  · exact sg_Ch_toil_1_1_0_0 ..
  · exact sg_Ch_toil_1_1_1_0 ..
theorem sgb_Ch_toil_7 {b : Nat} {s : Nat} {l : Nat} (hb : b < 2) (hs : s < 2) (hl : l < 2) (X : Nat × (Nat → Int32)) (d : Nat) (x4 : Int32) (o5 : Option pm_V) (u0 : Int32) (al : List Nat) (D : Nat → Bool) (I : Nat → Nat → Int32) (L : Nat → Nat → Int64) : Rn X d co_Ch_toil (7, [some (vr 1), some (vi (Int32.ofNat b)), some (vi (Int32.ofNat s)), some (vi (Int32.ofNat l)), some (vi x4), o5], [vi u0], pm_mm al D I L) = cond (decide (u0 = 0)) (some (some (vi (-2)), pm_mm al D I L)) (((Cl X d 137 [vr 1, vi (Int32.ofNat b), vi (Int32.ofNat s)] (pm_mm al D I L)).bind pm_ar).bind (fun r => Rn X d co_Ch_toil (19, [some (vr 1), some (vi (Int32.ofNat b)), some (vi (Int32.ofNat s)), some (vi (Int32.ofNat l)), some (vi x4), o5], [vr r.1], r.2))) := by
  rcases two hb with rfl | rfl <;> rcases two hs with rfl | rfl <;> rcases two hl with rfl | rfl
  · exact sg_Ch_toil_0_0_0_7 ..
  · exact sg_Ch_toil_0_0_1_7 ..
  · exact sg_Ch_toil_0_1_0_7 ..
  · exact sg_Ch_toil_0_1_1_7 ..
  · exact sg_Ch_toil_1_0_0_7 ..
  · exact sg_Ch_toil_1_0_1_7 ..
  · exact sg_Ch_toil_1_1_0_7 ..
  · exact sg_Ch_toil_1_1_1_7 ..
theorem sgb_Ch_toil_19 {b : Nat} {s : Nat} {l : Nat} (hb : b < 2) (hs : s < 2) (hl : l < 2) (X : Nat × (Nat → Int32)) (d : Nat) (o1 o2 : Option pm_V) (x4 : Int32) (o5 : Option pm_V) (al : List Nat) (D : Nat → Bool) (I : Nat → Nat → Int32) (L : Nat → Nat → Int64) : Rn X d co_Ch_toil (19, [some (vr 1), o1, o2, some (vi (Int32.ofNat l)), some (vi x4), o5], [vr (220 + 6 * b + 3 * s)], pm_mm al (pm_tb (3 + 2 * b + s) D) I L) = ((Cl X d 20 [vr 76, vr (27 + 3 * l)] (pm_mm al (pm_tb (3 + 2 * b + s) D) I L)).bind pm_av).bind (fun r => Rn X d co_Ch_toil (40, [some (vr 1), o1, o2, some (vi (Int32.ofNat l)), some (vi x4), some (vr (221 + 6 * b + 3 * s))], [], r)) := by
  rcases two hb with rfl | rfl <;> rcases two hs with rfl | rfl <;> rcases two hl with rfl | rfl
  · exact sg_Ch_toil_0_0_0_19 ..
  · exact sg_Ch_toil_0_0_1_19 ..
  · exact sg_Ch_toil_0_1_0_19 ..
  · exact sg_Ch_toil_0_1_1_19 ..
  · exact sg_Ch_toil_1_0_0_19 ..
  · exact sg_Ch_toil_1_0_1_19 ..
  · exact sg_Ch_toil_1_1_0_19 ..
  · exact sg_Ch_toil_1_1_1_19 ..
theorem sgb_Ch_toil_40 {b : Nat} {s : Nat} {l : Nat} (hb : b < 2) (hs : s < 2) (hl : l < 2) (X : Nat × (Nat → Int32)) (d : Nat) (o1 o2 o3 : Option pm_V) (x4 : Int32) (al : List Nat) (D : Nat → Bool) (I : Nat → Nat → Int32) (L : Nat → Nat → Int64) : Rn X d co_Ch_toil (40, [some (vr 1), o1, o2, o3, some (vi x4), some (vr (221 + 6 * b + 3 * s))], [], pm_mm al (pm_tb (3 + 2 * b + s) D) I L) = cond (decide (x4 = 0)) (((Cl X d 26 [vr 76, vr (221 + 6 * b + 3 * s)] (pm_mm al (pm_tb (3 + 2 * b + s) D) I L)).bind pm_ai).bind (fun r => Rn X d co_Ch_toil (77, [some (vr 1), o1, o2, o3, some (vi x4), some (vr (221 + 6 * b + 3 * s))], [vi r.1], r.2))) (cond (decide (x4 = 1)) (((Cl X d 27 [vr 76, vr (221 + 6 * b + 3 * s)] (pm_mm al (pm_tb (3 + 2 * b + s) D) I L)).bind pm_ai).bind (fun r => Rn X d co_Ch_toil (87, [some (vr 1), o1, o2, o3, some (vi x4), some (vr (221 + 6 * b + 3 * s))], [vi r.1], r.2))) (cond (decide (x4 = 2)) (((Cl X d 155 [vr 1, vr (221 + 6 * b + 3 * s)] (pm_mm al (pm_tb (3 + 2 * b + s) D) I L)).bind pm_ai).bind (fun r => Rn X d co_Ch_toil (94, [some (vr 1), o1, o2, o3, some (vi x4), some (vr (221 + 6 * b + 3 * s))], [vi r.1], r.2))) (some (some (vi (-2)), pm_mm al (pm_tb (3 + 2 * b + s) D) I L)))) := by
  rcases two hb with rfl | rfl <;> rcases two hs with rfl | rfl <;> rcases two hl with rfl | rfl
  · exact sg_Ch_toil_0_0_0_40 ..
  · exact sg_Ch_toil_0_0_1_40 ..
  · exact sg_Ch_toil_0_1_0_40 ..
  · exact sg_Ch_toil_0_1_1_40 ..
  · exact sg_Ch_toil_1_0_0_40 ..
  · exact sg_Ch_toil_1_0_1_40 ..
  · exact sg_Ch_toil_1_1_0_40 ..
  · exact sg_Ch_toil_1_1_1_40 ..
theorem sgb_Ch_toil_77 (X : Nat × (Nat → Int32)) (d : Nat) (o0 o1 o2 o3 o4 o5 : Option pm_V) (u0 : Int32) (al : List Nat) (D : Nat → Bool) (I : Nat → Nat → Int32) (L : Nat → Nat → Int64) : Rn X d co_Ch_toil (77, [o0, o1, o2, o3, o4, o5], [vi u0], pm_mm al D I L) = some (some (vi u0), pm_mm al D I L) :=
  sg_Ch_toil_0_0_0_77 ..
theorem sgb_Ch_toil_87 (X : Nat × (Nat → Int32)) (d : Nat) (o0 o1 o2 o3 o4 o5 : Option pm_V) (u0 : Int32) (al : List Nat) (D : Nat → Bool) (I : Nat → Nat → Int32) (L : Nat → Nat → Int64) : Rn X d co_Ch_toil (87, [o0, o1, o2, o3, o4, o5], [vi u0], pm_mm al D I L) = some (some (vi u0), pm_mm al D I L) :=
  sg_Ch_toil_0_0_0_87 ..
theorem sgb_Ch_toil_94 (X : Nat × (Nat → Int32)) (d : Nat) (o0 o1 o2 o3 o4 o5 : Option pm_V) (u0 : Int32) (al : List Nat) (D : Nat → Bool) (I : Nat → Nat → Int32) (L : Nat → Nat → Int64) : Rn X d co_Ch_toil (94, [o0, o1, o2, o3, o4, o5], [vi u0], pm_mm al D I L) = some (some (vi u0), pm_mm al D I L) :=
  sg_Ch_toil_0_0_0_94 ..
theorem sgb_Ch_toldThatFit_0 {b : Nat} (hb : b < 4) (X : Nat × (Nat → Int32)) (d : Nat) (o2 o3 : Option pm_V) (al : List Nat) (D : Nat → Bool) (I : Nat → Nat → Int32) (L : Nat → Nat → Int64) : Rn X d co_Ch_toldThatFit (0, [some (vr 1), some (vr (221 + 3 * b)), o2, o3], [], pm_mm al (pm_tb (3 + b) D) I L) = Rn X d co_Ch_toldThatFit (4, [some (vr 1), some (vr (221 + 3 * b)), some (vi 0), some (vi 0)], [], pm_mm al (pm_tb (3 + b) D) I L) := by
  rcases four hb with rfl | rfl | rfl | rfl
  · exact sg_Ch_toldThatFit_221_0 ..
  · exact sg_Ch_toldThatFit_224_0 ..
  · exact sg_Ch_toldThatFit_227_0 ..
  · exact sg_Ch_toldThatFit_230_0 ..
theorem sgb_Ch_toldThatFit_4 {b : Nat} (hb : b < 4) (X : Nat × (Nat → Int32)) (d : Nat) (x2 x3 : Int32) (al : List Nat) (D : Nat → Bool) (I : Nat → Nat → Int32) (L : Nat → Nat → Int64) : Rn X d co_Ch_toldThatFit (4, [some (vr 1), some (vr (221 + 3 * b)), some (vi x2), some (vi x3)], [], pm_mm al (pm_tb (3 + b) D) I L) = cond (decide ((I 4 2) ≤ x3)) (some (some (vi x2), pm_mm al (pm_tb (3 + b) D) I L)) (cond (pm_in x3 2) (cond (pm_in (I 7 x3.toNatClampNeg) 4096) (((Cl X d 21 [vr 76, vl (L (221 + 3 * b) ((I 7 x3.toNatClampNeg).toNatClampNeg))] (pm_mm al (pm_tb (3 + b) D) I L)).bind pm_ai).bind (fun r => Rn X d co_Ch_toldThatFit (35, [some (vr 1), some (vr (221 + 3 * b)), some (vi x2), some (vi x3)], [vi r.1], r.2))) none) none) := by
  rcases four hb with rfl | rfl | rfl | rfl
  · exact sg_Ch_toldThatFit_221_4 ..
  · exact sg_Ch_toldThatFit_224_4 ..
  · exact sg_Ch_toldThatFit_227_4 ..
  · exact sg_Ch_toldThatFit_230_4 ..
theorem sgb_Ch_toldThatFit_35 {b : Nat} (hb : b < 4) (X : Nat × (Nat → Int32)) (d : Nat) (x2 x3 u0 : Int32) (al : List Nat) (D : Nat → Bool) (I : Nat → Nat → Int32) (L : Nat → Nat → Int64) : Rn X d co_Ch_toldThatFit (35, [some (vr 1), some (vr (221 + 3 * b)), some (vi x2), some (vi x3)], [vi u0], pm_mm al (pm_tb (3 + b) D) I L) = cond (decide (u0 = 0)) (Rn X d co_Ch_toldThatFit (44, [some (vr 1), some (vr (221 + 3 * b)), some (vi x2), some (vi x3)], [], pm_mm al (pm_tb (3 + b) D) I L)) (Rn X d co_Ch_toldThatFit (44, [some (vr 1), some (vr (221 + 3 * b)), some (vi (x2 ||| (1 <<< (x3 &&& 31)))), some (vi x3)], [], pm_mm al (pm_tb (3 + b) D) I L)) := by
  rcases four hb with rfl | rfl | rfl | rfl
  · exact sg_Ch_toldThatFit_221_35 ..
  · exact sg_Ch_toldThatFit_224_35 ..
  · exact sg_Ch_toldThatFit_227_35 ..
  · exact sg_Ch_toldThatFit_230_35 ..
theorem sgb_Ch_toldThatFit_44 {b : Nat} (hb : b < 4) (X : Nat × (Nat → Int32)) (d : Nat) (x2 x3 : Int32) (al : List Nat) (D : Nat → Bool) (I : Nat → Nat → Int32) (L : Nat → Nat → Int64) : Rn X d co_Ch_toldThatFit (44, [some (vr 1), some (vr (221 + 3 * b)), some (vi x2), some (vi x3)], [], pm_mm al (pm_tb (3 + b) D) I L) = Rn X d co_Ch_toldThatFit (4, [some (vr 1), some (vr (221 + 3 * b)), some (vi x2), some (vi (x3 + 1))], [], pm_mm al (pm_tb (3 + b) D) I L) := by
  rcases four hb with rfl | rfl | rfl | rfl
  · exact sg_Ch_toldThatFit_221_44 ..
  · exact sg_Ch_toldThatFit_224_44 ..
  · exact sg_Ch_toldThatFit_227_44 ..
  · exact sg_Ch_toldThatFit_230_44 ..
theorem sgb_Ch_trodden_0 {b : Nat} {s : Nat} {l : Nat} (hb : b < 2) (hs : s < 2) (hl : l < 2) (X : Nat × (Nat → Int32)) (d : Nat) (x4 x5 : Int32) (o6 o7 : Option pm_V) (al : List Nat) (D : Nat → Bool) (I : Nat → Nat → Int32) (L : Nat → Nat → Int64) : Rn X d co_Ch_trodden (0, [some (vr 1), some (vi (Int32.ofNat b)), some (vi (Int32.ofNat s)), some (vi (Int32.ofNat l)), some (vi x4), some (vi x5), o6, o7], [], pm_mm al D I L) = ((Cl X d 152 [vr 1, vi (Int32.ofNat b), vi (Int32.ofNat s), vi (Int32.ofNat l)] (pm_mm al D I L)).bind pm_ai).bind (fun r => Rn X d co_Ch_trodden (7, [some (vr 1), some (vi (Int32.ofNat b)), some (vi (Int32.ofNat s)), some (vi (Int32.ofNat l)), some (vi x4), some (vi x5), o6, o7], [vi r.1], r.2)) := by
  rcases two hb with rfl | rfl <;> rcases two hs with rfl | rfl <;> rcases two hl with rfl | rfl
  · exact sg_Ch_trodden_0_0_0_0 ..
  · exact sg_Ch_trodden_0_0_1_0 ..
  · exact sg_Ch_trodden_0_1_0_0 ..
  · exact sg_Ch_trodden_0_1_1_0 ..
  · exact sg_Ch_trodden_1_0_0_0 ..
  · exact sg_Ch_trodden_1_0_1_0 ..
  · exact sg_Ch_trodden_1_1_0_0 ..
  · exact sg_Ch_trodden_1_1_1_0 ..
theorem sgb_Ch_trodden_7 {b : Nat} {s : Nat} {l : Nat} (hb : b < 2) (hs : s < 2) (hl : l < 2) (X : Nat × (Nat → Int32)) (d : Nat) (x4 x5 : Int32) (o6 o7 : Option pm_V) (u0 : Int32) (al : List Nat) (D : Nat → Bool) (I : Nat → Nat → Int32) (L : Nat → Nat → Int64) : Rn X d co_Ch_trodden (7, [some (vr 1), some (vi (Int32.ofNat b)), some (vi (Int32.ofNat s)), some (vi (Int32.ofNat l)), some (vi x4), some (vi x5), o6, o7], [vi u0], pm_mm al D I L) = cond (decide (u0 = 0)) (Rn X d co_Ch_trodden (22, [some (vr 1), some (vi (Int32.ofNat b)), some (vi (Int32.ofNat s)), some (vi (Int32.ofNat l)), some (vi x4), some (vi x5), o6, o7], [], pm_mm al D I L)) (cond (decide (x4 < 0)) (Rn X d co_Ch_trodden (22, [some (vr 1), some (vi (Int32.ofNat b)), some (vi (Int32.ofNat s)), some (vi (Int32.ofNat l)), some (vi x4), some (vi x5), o6, o7], [], pm_mm al D I L)) (cond (decide (x4 < 12)) (((Cl X d 137 [vr 1, vi (Int32.ofNat b), vi (Int32.ofNat s)] (pm_mm al D I L)).bind pm_ar).bind (fun r => Rn X d co_Ch_trodden (32, [some (vr 1), some (vi (Int32.ofNat b)), some (vi (Int32.ofNat s)), some (vi (Int32.ofNat l)), some (vi x4), some (vi x5), o6, o7], [vr r.1], r.2))) (Rn X d co_Ch_trodden (22, [some (vr 1), some (vi (Int32.ofNat b)), some (vi (Int32.ofNat s)), some (vi (Int32.ofNat l)), some (vi x4), some (vi x5), o6, o7], [], pm_mm al D I L)))) := by
  rcases two hb with rfl | rfl <;> rcases two hs with rfl | rfl <;> rcases two hl with rfl | rfl
  · exact sg_Ch_trodden_0_0_0_7 ..
  · exact sg_Ch_trodden_0_0_1_7 ..
  · exact sg_Ch_trodden_0_1_0_7 ..
  · exact sg_Ch_trodden_0_1_1_7 ..
  · exact sg_Ch_trodden_1_0_0_7 ..
  · exact sg_Ch_trodden_1_0_1_7 ..
  · exact sg_Ch_trodden_1_1_0_7 ..
  · exact sg_Ch_trodden_1_1_1_7 ..
theorem sgb_Ch_trodden_22 (X : Nat × (Nat → Int32)) (d : Nat) (o0 o1 o2 o3 o4 o5 o6 o7 : Option pm_V) (al : List Nat) (D : Nat → Bool) (I : Nat → Nat → Int32) (L : Nat → Nat → Int64) : Rn X d co_Ch_trodden (22, [o0, o1, o2, o3, o4, o5, o6, o7], [], pm_mm al D I L) = some (some (vl (-1)), pm_mm al D I L) :=
  sg_Ch_trodden_0_0_0_22 ..
theorem sgb_Ch_trodden_32 {b : Nat} {s : Nat} {l : Nat} (hb : b < 2) (hs : s < 2) (hl : l < 2) (X : Nat × (Nat → Int32)) (d : Nat) (o1 o2 : Option pm_V) (x4 x5 : Int32) (o6 o7 : Option pm_V) (al : List Nat) (D : Nat → Bool) (I : Nat → Nat → Int32) (L : Nat → Nat → Int64) : Rn X d co_Ch_trodden (32, [some (vr 1), o1, o2, some (vi (Int32.ofNat l)), some (vi x4), some (vi x5), o6, o7], [vr (220 + 6 * b + 3 * s)], pm_mm al (pm_tb (3 + 2 * b + s) D) I L) = ((Cl X d 20 [vr 76, vr (27 + 3 * l)] (pm_mm al (pm_tb (3 + 2 * b + s) D) I L)).bind pm_av).bind (fun r => Rn X d co_Ch_trodden (53, [some (vr 1), o1, o2, some (vi (Int32.ofNat l)), some (vi x4), some (vi x5), some (vr (221 + 6 * b + 3 * s)), o7], [], r)) := by
  rcases two hb with rfl | rfl <;> rcases two hs with rfl | rfl <;> rcases two hl with rfl | rfl
  · exact sg_Ch_trodden_0_0_0_32 ..
  · exact sg_Ch_trodden_0_0_1_32 ..
  · exact sg_Ch_trodden_0_1_0_32 ..
  · exact sg_Ch_trodden_0_1_1_32 ..
  · exact sg_Ch_trodden_1_0_0_32 ..
  · exact sg_Ch_trodden_1_0_1_32 ..
  · exact sg_Ch_trodden_1_1_0_32 ..
  · exact sg_Ch_trodden_1_1_1_32 ..
theorem sgb_Ch_trodden_53 {b : Nat} {s : Nat} {l : Nat} (hb : b < 2) (hs : s < 2) (hl : l < 2) (X : Nat × (Nat → Int32)) (d : Nat) (o1 o2 o3 : Option pm_V) (x4 x5 : Int32) (o7 : Option pm_V) (al : List Nat) (D : Nat → Bool) (I : Nat → Nat → Int32) (L : Nat → Nat → Int64) : Rn X d co_Ch_trodden (53, [some (vr 1), o1, o2, o3, some (vi x4), some (vi x5), some (vr (221 + 6 * b + 3 * s)), o7], [], pm_mm al (pm_tb (3 + 2 * b + s) D) I L) = ((Cl X d 22 [vr 76, vr (221 + 6 * b + 3 * s)] (pm_mm al (pm_tb (3 + 2 * b + s) D) I L)).bind pm_ai).bind (fun r => Rn X d co_Ch_trodden (62, [some (vr 1), o1, o2, o3, some (vi x4), some (vi x5), some (vr (221 + 6 * b + 3 * s)), o7], [vi r.1], r.2)) := by
  rcases two hb with rfl | rfl <;> rcases two hs with rfl | rfl <;> rcases two hl with rfl | rfl
  · exact sg_Ch_trodden_0_0_0_53 ..
  · exact sg_Ch_trodden_0_0_1_53 ..
  · exact sg_Ch_trodden_0_1_0_53 ..
  · exact sg_Ch_trodden_0_1_1_53 ..
  · exact sg_Ch_trodden_1_0_0_53 ..
  · exact sg_Ch_trodden_1_0_1_53 ..
  · exact sg_Ch_trodden_1_1_0_53 ..
  · exact sg_Ch_trodden_1_1_1_53 ..
theorem sgb_Ch_trodden_62 {b : Nat} {s : Nat} {l : Nat} (hb : b < 2) (hs : s < 2) (hl : l < 2) (X : Nat × (Nat → Int32)) (d : Nat) (o1 o2 o3 : Option pm_V) (x4 x5 : Int32) (o7 : Option pm_V) (u0 : Int32) (al : List Nat) (D : Nat → Bool) (I : Nat → Nat → Int32) (L : Nat → Nat → Int64) : Rn X d co_Ch_trodden (62, [some (vr 1), o1, o2, o3, some (vi x4), some (vi x5), some (vr (221 + 6 * b + 3 * s)), o7], [vi u0], pm_mm al (pm_tb (3 + 2 * b + s) D) I L) = cond (decide (u0 = 0)) (some (some (vl (-1)), pm_mm al (pm_tb (3 + 2 * b + s) D) I L)) (((Cl X d 23 [vr 76, vr (221 + 6 * b + 3 * s), vi x4] (pm_mm al (pm_tb (3 + 2 * b + s) D) I L)).bind pm_ai).bind (fun r => Rn X d co_Ch_trodden (84, [some (vr 1), o1, o2, o3, some (vi x4), some (vi x5), some (vr (221 + 6 * b + 3 * s)), some (vi u0)], [vi r.1], r.2))) := by
  rcases two hb with rfl | rfl <;> rcases two hs with rfl | rfl <;> rcases two hl with rfl | rfl
  · exact sg_Ch_trodden_0_0_0_62 ..
  · exact sg_Ch_trodden_0_0_1_62 ..
  · exact sg_Ch_trodden_0_1_0_62 ..
  · exact sg_Ch_trodden_0_1_1_62 ..
  · exact sg_Ch_trodden_1_0_0_62 ..
  · exact sg_Ch_trodden_1_0_1_62 ..
  · exact sg_Ch_trodden_1_1_0_62 ..
  · exact sg_Ch_trodden_1_1_1_62 ..
theorem sgb_Ch_trodden_84 (X : Nat × (Nat → Int32)) (d : Nat) (o0 o1 o2 o3 o4 : Option pm_V) (x5 : Int32) (o6 : Option pm_V) (x7 u0 : Int32) (al : List Nat) (D : Nat → Bool) (I : Nat → Nat → Int32) (L : Nat → Nat → Int64) : Rn X d co_Ch_trodden (84, [o0, o1, o2, o3, o4, some (vi x5), o6, some (vi x7)], [vi u0], pm_mm al D I L) = ((Cl X d 157 [vl u0.toInt64, vl x7.toInt64, vi x5] (pm_mm al D I L)).bind pm_al).bind (fun r => Rn X d co_Ch_trodden (93, [o0, o1, o2, o3, o4, some (vi x5), o6, some (vi x7)], [vl r.1], r.2)) :=
  sg_Ch_trodden_0_0_0_84 ..
theorem sgb_Ch_trodden_93 (X : Nat × (Nat → Int32)) (d : Nat) (o0 o1 o2 o3 o4 o5 o6 o7 : Option pm_V) (w0 : Int64) (al : List Nat) (D : Nat → Bool) (I : Nat → Nat → Int32) (L : Nat → Nat → Int64) : Rn X d co_Ch_trodden (93, [o0, o1, o2, o3, o4, o5, o6, o7], [vl w0], pm_mm al D I L) = some (some (vl w0), pm_mm al D I L) :=
  sg_Ch_trodden_0_0_0_93 ..
theorem sgb_Ch_firstRow_0 {b : Nat} (hb : b < 2) (X : Nat × (Nat → Int32)) (d : Nat) (o1 : Option pm_V) (al : List Nat) (D : Nat → Bool) (I : Nat → Nat → Int32) (L : Nat → Nat → Int64) : Rn X d co_Ch_firstRow (0, [some (vr (51 + 28 * b)), o1], [], pm_mm al D I L) = Rn X d co_Ch_firstRow (2, [some (vr (51 + 28 * b)), some (vi 0)], [], pm_mm al D I L) := by
  rcases two hb with rfl | rfl
  · exact sg_Ch_firstRow_51_0 ..
  · exact sg_Ch_firstRow_79_0 ..
theorem sgb_Ch_firstRow_2 {b : Nat} (hb : b < 2) (X : Nat × (Nat → Int32)) (d : Nat) (x1 : Int32) (al : List Nat) (D : Nat → Bool) (I : Nat → Nat → Int32) (L : Nat → Nat → Int64) : Rn X d co_Ch_firstRow (2, [some (vr (51 + 28 * b)), some (vi x1)], [], pm_mm al D I L) = cond (decide (6 ≤ x1)) (some (none, pm_mm al D I L)) (cond (pm_in x1 6) (Rn X d co_Ch_firstRow (2, [some (vr (51 + 28 * b)), some (vi (x1 + 1))], [], pm_mm al D (pm_up I (51 + 28 * b) x1.toNatClampNeg x1) L)) none) := by
  rcases two hb with rfl | rfl
  · exact sg_Ch_firstRow_51_2 ..
  · exact sg_Ch_firstRow_79_2 ..
theorem sgb_Ch_nextRow_0 {b : Nat} (hb : b < 2) (X : Nat × (Nat → Int32)) (d : Nat) (x1 : Int32) (o2 o3 o4 o5 : Option pm_V) (al : List Nat) (D : Nat → Bool) (I : Nat → Nat → Int32) (L : Nat → Nat → Int64) : Rn X d co_Ch_nextRow (0, [some (vr (51 + 28 * b)), some (vi x1), o2, o3, o4, o5], [], pm_mm al D I L) = Rn X d co_Ch_nextRow (4, [some (vr (51 + 28 * b)), some (vi x1), some (vi (x1 - 2)), o3, o4, o5], [], pm_mm al D I L) := by
  rcases two hb with rfl | rfl
  · exact sg_Ch_nextRow_51_0 ..
  · exact sg_Ch_nextRow_79_0 ..
theorem sgb_Ch_nextRow_4 {b : Nat} (hb : b < 2) (X : Nat × (Nat → Int32)) (d : Nat) (x1 x2 : Int32) (o3 o4 o5 : Option pm_V) (al : List Nat) (D : Nat → Bool) (I : Nat → Nat → Int32) (L : Nat → Nat → Int64) : Rn X d co_Ch_nextRow (4, [some (vr (51 + 28 * b)), some (vi x1), some (vi x2), o3, o4, o5], [], pm_mm al D I L) = cond (decide (x2 < 0)) (Rn X d co_Ch_nextRow (25, [some (vr (51 + 28 * b)), some (vi x1), some (vi x2), o3, o4, o5], [], pm_mm al D I L)) (cond (pm_in x2 6) (cond (pm_in (x2 + 1) 6) (cond (decide ((I (51 + 28 * b) x2.toNatClampNeg) ≤ (I (51 + 28 * b) ((x2 + 1).toNatClampNeg)))) (Rn X d co_Ch_nextRow (25, [some (vr (51 + 28 * b)), some (vi x1), some (vi x2), o3, o4, o5], [], pm_mm al D I L)) (Rn X d co_Ch_nextRow (4, [some (vr (51 + 28 * b)), some (vi x1), some (vi (x2 + (-1))), o3, o4, o5], [], pm_mm al D I L))) none) none) := by
  rcases two hb with rfl | rfl
  · exact sg_Ch_nextRow_51_4 ..
  · exact sg_Ch_nextRow_79_4 ..
theorem sgb_Ch_nextRow_25 {b : Nat} (hb : b < 2) (X : Nat × (Nat → Int32)) (d : Nat) (x1 x2 : Int32) (o3 o4 o5 : Option pm_V) (al : List Nat) (D : Nat → Bool) (I : Nat → Nat → Int32) (L : Nat → Nat → Int64) : Rn X d co_Ch_nextRow (25, [some (vr (51 + 28 * b)), some (vi x1), some (vi x2), o3, o4, o5], [], pm_mm al D I L) = cond (decide (0 ≤ x2)) (Rn X d co_Ch_nextRow (35, [some (vr (51 + 28 * b)), some (vi x1), some (vi x2), some (vi (x1 - 1)), o4, o5], [], pm_mm al D I L)) (some (some (vi 0), pm_mm al D I L)) := by
  rcases two hb with rfl | rfl
  · exact sg_Ch_nextRow_51_25 ..
  · exact sg_Ch_nextRow_79_25 ..
theorem sgb_Ch_nextRow_35 {b : Nat} (hb : b < 2) (X : Nat × (Nat → Int32)) (d : Nat) (x1 x2 x3 : Int32) (o4 o5 : Option pm_V) (al : List Nat) (D : Nat → Bool) (I : Nat → Nat → Int32) (L : Nat → Nat → Int64) : Rn X d co_Ch_nextRow (35, [some (vr (51 + 28 * b)), some (vi x1), some (vi x2), some (vi x3), o4, o5], [], pm_mm al D I L) = cond (decide (x3 ≤ x2)) (Rn X d co_Ch_nextRow (55, [some (vr (51 + 28 * b)), some (vi x1), some (vi x2), some (vi x3), o4, o5], [], pm_mm al D I L)) (cond (pm_in x3 6) (cond (pm_in x2 6) (cond (decide ((I (51 + 28 * b) x2.toNatClampNeg) ≤ (I (51 + 28 * b) x3.toNatClampNeg))) (Rn X d co_Ch_nextRow (55, [some (vr (51 + 28 * b)), some (vi x1), some (vi x2), some (vi x3), o4, o5], [], pm_mm al D I L)) (Rn X d co_Ch_nextRow (35, [some (vr (51 + 28 * b)), some (vi x1), some (vi x2), some (vi (x3 + (-1))), o4, o5], [], pm_mm al D I L))) none) none) := by
  rcases two hb with rfl | rfl
  · exact sg_Ch_nextRow_51_35 ..
  · exact sg_Ch_nextRow_79_35 ..
theorem sgb_Ch_nextRow_55 {b : Nat} (hb : b < 2) (X : Nat × (Nat → Int32)) (d : Nat) (x1 x2 x3 : Int32) (o4 o5 : Option pm_V) (al : List Nat) (D : Nat → Bool) (I : Nat → Nat → Int32) (L : Nat → Nat → Int64) : Rn X d co_Ch_nextRow (55, [some (vr (51 + 28 * b)), some (vi x1), some (vi x2), some (vi x3), o4, o5], [], pm_mm al D I L) = ((Cl X d 163 [vr (51 + 28 * b), vi x2, vi x3] (pm_mm al D I L)).bind pm_av).bind (fun r => Rn X d co_Ch_nextRow (61, [some (vr (51 + 28 * b)), some (vi x1), some (vi x2), some (vi x3), o4, o5], [], r)) := by
  rcases two hb with rfl | rfl
  · exact sg_Ch_nextRow_51_55 ..
  · exact sg_Ch_nextRow_79_55 ..
theorem sgb_Ch_nextRow_61 {b : Nat} (hb : b < 2) (X : Nat × (Nat → Int32)) (d : Nat) (x1 x2 : Int32) (o3 o4 o5 : Option pm_V) (al : List Nat) (D : Nat → Bool) (I : Nat → Nat → Int32) (L : Nat → Nat → Int64) : Rn X d co_Ch_nextRow (61, [some (vr (51 + 28 * b)), some (vi x1), some (vi x2), o3, o4, o5], [], pm_mm al D I L) = Rn X d co_Ch_nextRow (71, [some (vr (51 + 28 * b)), some (vi x1), some (vi x2), (pm_nl o3), some (vi (x2 + 1)), some (vi (x1 - 1))], [], pm_mm al D I L) := by
  rcases two hb with rfl | rfl
  · exact sg_Ch_nextRow_51_61 ..
  · exact sg_Ch_nextRow_79_61 ..
theorem sgb_Ch_nextRow_71 {b : Nat} (hb : b < 2) (X : Nat × (Nat → Int32)) (d : Nat) (o1 o2 o3 : Option pm_V) (x4 x5 : Int32) (al : List Nat) (D : Nat → Bool) (I : Nat → Nat → Int32) (L : Nat → Nat → Int64) : Rn X d co_Ch_nextRow (71, [some (vr (51 + 28 * b)), o1, o2, o3, some (vi x4), some (vi x5)], [], pm_mm al D I L) = cond (decide (x5 ≤ x4)) (some (some (vi 1), pm_mm al D I L)) (((Cl X d 163 [vr (51 + 28 * b), vi x4, vi x5] (pm_mm al D I L)).bind pm_av).bind (fun r => Rn X d co_Ch_nextRow (86, [some (vr (51 + 28 * b)), o1, o2, o3, some (vi x4), some (vi x5)], [], r))) := by
  rcases two hb with rfl | rfl
  · exact sg_Ch_nextRow_51_71 ..
  · exact sg_Ch_nextRow_79_71 ..
theorem sgb_Ch_nextRow_86 {b : Nat} (hb : b < 2) (X : Nat × (Nat → Int32)) (d : Nat) (o1 o2 o3 : Option pm_V) (x4 x5 : Int32) (al : List Nat) (D : Nat → Bool) (I : Nat → Nat → Int32) (L : Nat → Nat → Int64) : Rn X d co_Ch_nextRow (86, [some (vr (51 + 28 * b)), o1, o2, o3, some (vi x4), some (vi x5)], [], pm_mm al D I L) = Rn X d co_Ch_nextRow (71, [some (vr (51 + 28 * b)), o1, o2, (pm_nl o3), some (vi (x4 + 1)), some (vi (x5 + (-1)))], [], pm_mm al D I L) := by
  rcases two hb with rfl | rfl
  · exact sg_Ch_nextRow_51_86 ..
  · exact sg_Ch_nextRow_79_86 ..
theorem sgb_Ch_swap_0 {b : Nat} (hb : b < 2) (X : Nat × (Nat → Int32)) (d : Nat) (x1 x2 : Int32) (o3 : Option pm_V) (al : List Nat) (D : Nat → Bool) (I : Nat → Nat → Int32) (L : Nat → Nat → Int64) : Rn X d co_Ch_swap (0, [some (vr (51 + 28 * b)), some (vi x1), some (vi x2), o3], [], pm_mm al D I L) = cond (pm_in x1 6) (cond (pm_in x2 6) (cond (pm_in x1 6) (cond (pm_in x2 6) (some (none, pm_mm al D (pm_up (pm_up I (51 + 28 * b) x1.toNatClampNeg (I (51 + 28 * b) x2.toNatClampNeg)) (51 + 28 * b) x2.toNatClampNeg (I (51 + 28 * b) x1.toNatClampNeg)) L)) none) none) none) none := by
  rcases two hb with rfl | rfl
  · exact sg_Ch_swap_51_0 ..
  · exact sg_Ch_swap_79_0 ..
theorem sgb_Ba_copy_r_0 {b : Nat} (hb : b < 2) (X : Nat × (Nat → Int32)) (d : Nat) (al : List Nat) (D : Nat → Bool) (I : Nat → Nat → Int32) (L : Nat → Nat → Int64) : Rn X d co_Ba_copy (0, [some (vr (9 + 5 * b)), some (vr 35)], [], pm_mm al D I L) = some (none, pm_mm al D (pm_ups (pm_ups (pm_ups (pm_ups (pm_up (pm_up (pm_up (pm_up (pm_up I (9 + 5 * b) 0 (I 35 0)) (9 + 5 * b) 1 (I 35 1)) (9 + 5 * b) 2 (I 35 2)) (9 + 5 * b) 3 (I 35 3)) (9 + 5 * b) 4 (I 35 4)) (10 + 5 * b) (va_cpy (I 36) (I (10 + 5 * b)) 0 0 6)) (11 + 5 * b) (va_cpy (I 37) (I (11 + 5 * b)) 0 0 6)) (12 + 5 * b) (va_cpy (I 38) (I (12 + 5 * b)) 0 0 6)) (13 + 5 * b) (va_cpy (I 39) (I (13 + 5 * b)) 0 0 6)) L) := by
  rcases two hb with rfl | rfl
  · exact sg_Ba_copy_9_35_0 ..
  · exact sg_Ba_copy_14_35_0 ..
theorem sgb_Ba_copy_i_0 {b : Nat} {k : Nat} (hb : b < 2) (hk : k < 3) (X : Nat × (Nat → Int32)) (d : Nat) (al : List Nat) (D : Nat → Bool) (I : Nat → Nat → Int32) (L : Nat → Nat → Int64) : Rn X d co_Ba_copy (0, [some (vr (9 + 5 * b)), some (vr (127 + 5 * b + 31 * k))], [], pm_mm al (pm_tb k D) I L) = some (none, pm_mm al (pm_tb k D) (pm_ups (pm_ups (pm_ups (pm_ups (pm_up (pm_up (pm_up (pm_up (pm_up I (9 + 5 * b) 0 (I (127 + 5 * b + 31 * k) 0)) (9 + 5 * b) 1 (I (127 + 5 * b + 31 * k) 1)) (9 + 5 * b) 2 (I (127 + 5 * b + 31 * k) 2)) (9 + 5 * b) 3 (I (127 + 5 * b + 31 * k) 3)) (9 + 5 * b) 4 (I (127 + 5 * b + 31 * k) 4)) (10 + 5 * b) (va_cpy (I (128 + 5 * b + 31 * k)) (I (10 + 5 * b)) 0 0 6)) (11 + 5 * b) (va_cpy (I (129 + 5 * b + 31 * k)) (I (11 + 5 * b)) 0 0 6)) (12 + 5 * b) (va_cpy (I (130 + 5 * b + 31 * k)) (I (12 + 5 * b)) 0 0 6)) (13 + 5 * b) (va_cpy (I (131 + 5 * b + 31 * k)) (I (13 + 5 * b)) 0 0 6)) L) := by
  rcases two hb with rfl | rfl <;> rcases three hk with rfl | rfl | rfl
  · exact sg_Ba_copy_9_127_0 ..
  · exact sg_Ba_copy_9_158_0 ..
  · exact sg_Ba_copy_9_189_0 ..
  · exact sg_Ba_copy_14_132_0 ..
  · exact sg_Ba_copy_14_163_0 ..
  · exact sg_Ba_copy_14_194_0 ..
theorem sgb_Ba_copy_o_0 {b : Nat} {k : Nat} (hb : b < 2) (hk : k < 3) (X : Nat × (Nat → Int32)) (d : Nat) (al : List Nat) (D : Nat → Bool) (I : Nat → Nat → Int32) (L : Nat → Nat → Int64) : Rn X d co_Ba_copy (0, [some (vr (127 + 5 * b + 31 * k)), some (vr (9 + 5 * b))], [], pm_mm al (pm_tb k D) I L) = some (none, pm_mm al (pm_tb k D) (pm_ups (pm_ups (pm_ups (pm_ups (pm_up (pm_up (pm_up (pm_up (pm_up I (127 + 5 * b + 31 * k) 0 (I (9 + 5 * b) 0)) (127 + 5 * b + 31 * k) 1 (I (9 + 5 * b) 1)) (127 + 5 * b + 31 * k) 2 (I (9 + 5 * b) 2)) (127 + 5 * b + 31 * k) 3 (I (9 + 5 * b) 3)) (127 + 5 * b + 31 * k) 4 (I (9 + 5 * b) 4)) (128 + 5 * b + 31 * k) (va_cpy (I (10 + 5 * b)) (I (128 + 5 * b + 31 * k)) 0 0 6)) (129 + 5 * b + 31 * k) (va_cpy (I (11 + 5 * b)) (I (129 + 5 * b + 31 * k)) 0 0 6)) (130 + 5 * b + 31 * k) (va_cpy (I (12 + 5 * b)) (I (130 + 5 * b + 31 * k)) 0 0 6)) (131 + 5 * b + 31 * k) (va_cpy (I (13 + 5 * b)) (I (131 + 5 * b + 31 * k)) 0 0 6)) L) := by
  rcases two hb with rfl | rfl <;> rcases three hk with rfl | rfl | rfl
  · exact sg_Ba_copy_127_9_0 ..
  · exact sg_Ba_copy_158_9_0 ..
  · exact sg_Ba_copy_189_9_0 ..
  · exact sg_Ba_copy_132_14_0 ..
  · exact sg_Ba_copy_163_14_0 ..
  · exact sg_Ba_copy_194_14_0 ..
theorem sgb_Ba_tells_0 {b : Nat} (hb : b < 2) (X : Nat × (Nat → Int32)) (d : Nat) (x1 : Int32) (al : List Nat) (D : Nat → Bool) (I : Nat → Nat → Int32) (L : Nat → Nat → Int64) : Rn X d co_Ba_tells (0, [some (vr (9 + 5 * b)), some (vi x1)], [], pm_mm al D I L) = cond (decide (x1 = 0)) (some (some (vi (I (9 + 5 * b) 4)), pm_mm al D I L)) (cond (decide (x1 = 1)) (some (some (vi (I (9 + 5 * b) 0)), pm_mm al D I L)) (cond (decide (x1 = 2)) (some (some (vi (I (9 + 5 * b) 1)), pm_mm al D I L)) (cond (decide (x1 = 3)) (some (some (vi (I (9 + 5 * b) 2)), pm_mm al D I L)) (cond (decide (x1 = 4)) (some (some (vi (I (9 + 5 * b) 3)), pm_mm al D I L)) (cond (decide (10 ≤ x1)) (((Cl X d 11 [vr (9 + 5 * b), vi (x1 / 10), vi (x1 - x1 / 10 * 10)] (pm_mm al D I L)).bind pm_ai).bind (fun r => Rn X d co_Ba_tells (83, [some (vr (9 + 5 * b)), some (vi x1)], [vi r.1], r.2))) (Rn X d co_Ba_tells (83, [some (vr (9 + 5 * b)), some (vi x1)], [vi (-1)], pm_mm al D I L))))))) := by
  rcases two hb with rfl | rfl
  · exact sg_Ba_tells_9_0 ..
  · exact sg_Ba_tells_14_0 ..
theorem sgb_Ba_tells_83 (X : Nat × (Nat → Int32)) (d : Nat) (o0 o1 : Option pm_V) (u0 : Int32) (al : List Nat) (D : Nat → Bool) (I : Nat → Nat → Int32) (L : Nat → Nat → Int64) : Rn X d co_Ba_tells (83, [o0, o1], [vi u0], pm_mm al D I L) = some (some (vi u0), pm_mm al D I L) :=
  sg_Ba_tells_9_83 ..
theorem sgb_Ba_tellsOfPipe_0 {b : Nat} (hb : b < 2) (X : Nat × (Nat → Int32)) (d : Nat) (x1 x2 : Int32) (al : List Nat) (D : Nat → Bool) (I : Nat → Nat → Int32) (L : Nat → Nat → Int64) : Rn X d co_Ba_tellsOfPipe (0, [some (vr (9 + 5 * b)), some (vi x1), some (vi x2)], [], pm_mm al D I L) = cond (decide (x2 < (I (9 + 5 * b) 4))) (cond (decide (x1 = 1)) (cond (pm_in x2 6) (some (some (vi (I (10 + 5 * b) x2.toNatClampNeg)), pm_mm al D I L)) none) (cond (decide (x1 = 2)) (cond (pm_in x2 6) (some (some (vi (I (11 + 5 * b) x2.toNatClampNeg)), pm_mm al D I L)) none) (cond (decide (x1 = 3)) (cond (pm_in x2 6) (some (some (vi (I (12 + 5 * b) x2.toNatClampNeg)), pm_mm al D I L)) none) (cond (decide (x1 = 4)) (cond (pm_in x2 6) (some (some (vi (I (13 + 5 * b) x2.toNatClampNeg)), pm_mm al D I L)) none) (some (some (vi (-1)), pm_mm al D I L)))))) (some (some (vi (-1)), pm_mm al D I L)) := by
  rcases two hb with rfl | rfl
  · exact sg_Ba_tellsOfPipe_9_0 ..
  · exact sg_Ba_tellsOfPipe_14_0 ..
theorem sgb_Ba_sumOf_0 {b : Nat} {s : Nat} (hb : b < 2) (hs : s < 2) (X : Nat × (Nat → Int32)) (d : Nat) (x2 : Int32) (o3 o4 : Option pm_V) (al : List Nat) (D : Nat → Bool) (I : Nat → Nat → Int32) (L : Nat → Nat → Int64) : Rn X d co_Ba_sumOf (0, [some (vr (9 + 5 * b)), some (vr (10 + 5 * b + s)), some (vi x2), o3, o4], [], pm_mm al D I L) = Rn X d co_Ba_sumOf (5, [some (vr (9 + 5 * b)), some (vr (10 + 5 * b + s)), some (vi x2), some (vi 0), some (vi 0)], [], pm_mm al D I L) := by
  rcases two hb with rfl | rfl <;> rcases two hs with rfl | rfl
  · exact sg_Ba_sumOf_9_10_0 ..
  · exact sg_Ba_sumOf_9_11_0 ..
  · exact sg_Ba_sumOf_14_15_0 ..
  · exact sg_Ba_sumOf_14_16_0 ..
theorem sgb_Ba_sumOf_5 {b : Nat} {s : Nat} (hb : b < 2) (hs : s < 2) (X : Nat × (Nat → Int32)) (d : Nat) (x2 x3 x4 : Int32) (al : List Nat) (D : Nat → Bool) (I : Nat → Nat → Int32) (L : Nat → Nat → Int64) : Rn X d co_Ba_sumOf (5, [some (vr (9 + 5 * b)), some (vr (10 + 5 * b + s)), some (vi x2), some (vi x3), some (vi x4)], [], pm_mm al D I L) = cond (decide ((I (9 + 5 * b) 4) ≤ x4)) (some (some (vi x3), pm_mm al D I L)) (cond (decide (((x2 >>> (x4 &&& 31)) &&& 1) = 0)) (Rn X d co_Ba_sumOf (30, [some (vr (9 + 5 * b)), some (vr (10 + 5 * b + s)), some (vi x2), some (vi x3), some (vi x4)], [], pm_mm al D I L)) (cond (pm_in x4 6) (Rn X d co_Ba_sumOf (30, [some (vr (9 + 5 * b)), some (vr (10 + 5 * b + s)), some (vi x2), some (vi (x3 + (I (10 + 5 * b + s) x4.toNatClampNeg))), some (vi x4)], [], pm_mm al D I L)) none)) := by
  rcases two hb with rfl | rfl <;> rcases two hs with rfl | rfl
  · exact sg_Ba_sumOf_9_10_5 ..
  · exact sg_Ba_sumOf_9_11_5 ..
  · exact sg_Ba_sumOf_14_15_5 ..
  · exact sg_Ba_sumOf_14_16_5 ..
theorem sgb_Ba_sumOf_30 {b : Nat} {s : Nat} (hb : b < 2) (hs : s < 2) (X : Nat × (Nat → Int32)) (d : Nat) (x2 x3 x4 : Int32) (al : List Nat) (D : Nat → Bool) (I : Nat → Nat → Int32) (L : Nat → Nat → Int64) : Rn X d co_Ba_sumOf (30, [some (vr (9 + 5 * b)), some (vr (10 + 5 * b + s)), some (vi x2), some (vi x3), some (vi x4)], [], pm_mm al D I L) = Rn X d co_Ba_sumOf (5, [some (vr (9 + 5 * b)), some (vr (10 + 5 * b + s)), some (vi x2), some (vi x3), some (vi (x4 + 1))], [], pm_mm al D I L) := by
  rcases two hb with rfl | rfl <;> rcases two hs with rfl | rfl
  · exact sg_Ba_sumOf_9_10_30 ..
  · exact sg_Ba_sumOf_9_11_30 ..
  · exact sg_Ba_sumOf_14_15_30 ..
  · exact sg_Ba_sumOf_14_16_30 ..
theorem sgb_Ba_wayTo_0 {b : Nat} (hb : b < 2) (X : Nat × (Nat → Int32)) (d : Nat) (x1 x2 x3 : Int32) (al : List Nat) (D : Nat → Bool) (I : Nat → Nat → Int32) (L : Nat → Nat → Int64) : Rn X d co_Ba_wayTo (0, [some (vr (9 + 5 * b)), some (vi x1), some (vi x2), some (vi x3)], [], pm_mm al D I L) = cond (pm_in x1 6) (((Cl X d 2 [vi ((I (12 + 5 * b) x1.toNatClampNeg) - x2)] (pm_mm al D I L)).bind pm_ai).bind (fun r => Rn X d co_Ba_wayTo (11, [some (vr (9 + 5 * b)), some (vi x1), some (vi x2), some (vi x3)], [vi r.1], r.2))) none := by
  rcases two hb with rfl | rfl
  · exact sg_Ba_wayTo_9_0 ..
  · exact sg_Ba_wayTo_14_0 ..
theorem sgb_Ba_wayTo_11 {b : Nat} (hb : b < 2) (X : Nat × (Nat → Int32)) (d : Nat) (x1 : Int32) (o2 : Option pm_V) (x3 u0 : Int32) (al : List Nat) (D : Nat → Bool) (I : Nat → Nat → Int32) (L : Nat → Nat → Int64) : Rn X d co_Ba_wayTo (11, [some (vr (9 + 5 * b)), some (vi x1), o2, some (vi x3)], [vi u0], pm_mm al D I L) = cond (pm_in x1 6) (((Cl X d 2 [vi ((I (13 + 5 * b) x1.toNatClampNeg) - x3)] (pm_mm al D I L)).bind pm_ai).bind (fun r => Rn X d co_Ba_wayTo (22, [some (vr (9 + 5 * b)), some (vi x1), o2, some (vi x3)], [vi r.1, vi u0], r.2))) none := by
  rcases two hb with rfl | rfl
  · exact sg_Ba_wayTo_9_11 ..
  · exact sg_Ba_wayTo_14_11 ..
theorem sgb_Ba_wayTo_22 (X : Nat × (Nat → Int32)) (d : Nat) (o0 o1 o2 o3 : Option pm_V) (u0 u1 : Int32) (al : List Nat) (D : Nat → Bool) (I : Nat → Nat → Int32) (L : Nat → Nat → Int64) : Rn X d co_Ba_wayTo (22, [o0, o1, o2, o3], [vi u1, vi u0], pm_mm al D I L) = some (some (vi (u0 + u1)), pm_mm al D I L) :=
  sg_Ba_wayTo_9_22 ..
theorem sgb_Ba_wayBy_0 {b : Nat} (hb : b < 2) (X : Nat × (Nat → Int32)) (d : Nat) (o2 o3 o4 o5 : Option pm_V) (al : List Nat) (D : Nat → Bool) (I : Nat → Nat → Int32) (L : Nat → Nat → Int64) : Rn X d co_Ba_wayBy (0, [some (vr (9 + 5 * b)), some (vr 79), o2, o3, o4, o5], [], pm_mm al D I L) = Rn X d co_Ba_wayBy (10, [some (vr (9 + 5 * b)), some (vr 79), some (vi 0), some (vi 0), some (vi 0), some (vi 0)], [], pm_mm al D I L) := by
  rcases two hb with rfl | rfl
  · exact sg_Ba_wayBy_9_79_0 ..
  · exact sg_Ba_wayBy_14_79_0 ..
theorem sgb_Ba_wayBy_10 {b : Nat} (hb : b < 2) (X : Nat × (Nat → Int32)) (d : Nat) (x2 x3 x4 x5 : Int32) (al : List Nat) (D : Nat → Bool) (I : Nat → Nat → Int32) (L : Nat → Nat → Int64) : Rn X d co_Ba_wayBy (10, [some (vr (9 + 5 * b)), some (vr 79), some (vi x2), some (vi x3), some (vi x4), some (vi x5)], [], pm_mm al D I L) = cond (decide ((I (9 + 5 * b) 4) ≤ x5)) (some (some (vi ((x2 + x3) + x4)), pm_mm al D I L)) (cond (pm_in x5 6) (((Cl X d 13 [vr (9 + 5 * b), vi (I 79 x5.toNatClampNeg), vi x3, vi x4] (pm_mm al D I L)).bind pm_ai).bind (fun r => Rn X d co_Ba_wayBy (31, [some (vr (9 + 5 * b)), some (vr 79), some (vi x2), some (vi x3), some (vi x4), some (vi x5)], [vi r.1, vi x2], r.2))) none) := by
  rcases two hb with rfl | rfl
  · exact sg_Ba_wayBy_9_79_10 ..
  · exact sg_Ba_wayBy_14_79_10 ..
theorem sgb_Ba_wayBy_31 {b : Nat} (hb : b < 2) (X : Nat × (Nat → Int32)) (d : Nat) (o2 o3 o4 : Option pm_V) (x5 u0 u1 : Int32) (al : List Nat) (D : Nat → Bool) (I : Nat → Nat → Int32) (L : Nat → Nat → Int64) : Rn X d co_Ba_wayBy (31, [some (vr (9 + 5 * b)), some (vr 79), o2, o3, o4, some (vi x5)], [vi u1, vi u0], pm_mm al D I L) = cond (pm_in x5 6) (cond (pm_in (I 79 x5.toNatClampNeg) 6) (cond (pm_in x5 6) (cond (pm_in (I 79 x5.toNatClampNeg) 6) (Rn X d co_Ba_wayBy (10, [some (vr (9 + 5 * b)), some (vr 79), some (vi (u0 + u1)), some (vi (I (12 + 5 * b) ((I 79 x5.toNatClampNeg).toNatClampNeg))), some (vi (I (13 + 5 * b) ((I 79 x5.toNatClampNeg).toNatClampNeg))), some (vi (x5 + 1))], [], pm_mm al D I L)) none) none) none) none := by
  rcases two hb with rfl | rfl
  · exact sg_Ba_wayBy_9_79_31 ..
  · exact sg_Ba_wayBy_14_79_31 ..
theorem sgb_Du_lead_0 {b : Nat} (hb : b < 2) (X : Nat × (Nat → Int32)) (d : Nat) (x1 : Int32) (al : List Nat) (D : Nat → Bool) (I : Nat → Nat → Int32) (L : Nat → Nat → Int64) : Rn X d co_Du_lead (0, [some (vr (9 + 5 * b)), some (vi x1)], [], pm_mm al D I L) = ((Cl X d 17 [vr (9 + 5 * b), vi (I (9 + 5 * b) 0), vi 0, vi x1] (pm_mm al D I L)).bind pm_ai).bind (fun r => Rn X d co_Du_lead (10, [some (vr (9 + 5 * b)), some (vi x1)], [vi r.1], r.2)) := by
  rcases two hb with rfl | rfl
  · exact sg_Du_lead_9_0 ..
  · exact sg_Du_lead_14_0 ..
theorem sgb_Du_lead_10 (X : Nat × (Nat → Int32)) (d : Nat) (o0 o1 : Option pm_V) (u0 : Int32) (al : List Nat) (D : Nat → Bool) (I : Nat → Nat → Int32) (L : Nat → Nat → Int64) : Rn X d co_Du_lead (10, [o0, o1], [vi u0], pm_mm al D I L) = some (some (vi u0), pm_mm al D I L) :=
  sg_Du_lead_9_10 ..
theorem sgb_Du_bestMove_0 {b : Nat} (hb : b < 2) (X : Nat × (Nat → Int32)) (d : Nat) (x1 : Int32) (o2 o3 : Option pm_V) (al : List Nat) (D : Nat → Bool) (I : Nat → Nat → Int32) (L : Nat → Nat → Int64) : Rn X d co_Du_bestMove (0, [some (vr (9 + 5 * b)), some (vi x1), o2, o3], [], pm_mm al D I L) = ((Cl X d 15 [vr (9 + 5 * b), vi x1] (pm_mm al D I L)).bind pm_ai).bind (fun r => Rn X d co_Du_bestMove (5, [some (vr (9 + 5 * b)), some (vi x1), o2, o3], [vi r.1], r.2)) := by
  rcases two hb with rfl | rfl
  · exact sg_Du_bestMove_9_0 ..
  · exact sg_Du_bestMove_14_0 ..
theorem sgb_Du_bestMove_5 {b : Nat} (hb : b < 2) (X : Nat × (Nat → Int32)) (d : Nat) (x1 : Int32) (o2 o3 : Option pm_V) (u0 : Int32) (al : List Nat) (D : Nat → Bool) (I : Nat → Nat → Int32) (L : Nat → Nat → Int64) : Rn X d co_Du_bestMove (5, [some (vr (9 + 5 * b)), some (vi x1), o2, o3], [vi u0], pm_mm al D I L) = Rn X d co_Du_bestMove (8, [some (vr (9 + 5 * b)), some (vi x1), some (vi u0), some (vi 0)], [], pm_mm al D I L) := by
  rcases two hb with rfl | rfl
  · exact sg_Du_bestMove_9_5 ..
  · exact sg_Du_bestMove_14_5 ..
theorem sgb_Du_bestMove_8 {b : Nat} (hb : b < 2) (X : Nat × (Nat → Int32)) (d : Nat) (x1 x2 x3 : Int32) (al : List Nat) (D : Nat → Bool) (I : Nat → Nat → Int32) (L : Nat → Nat → Int64) : Rn X d co_Du_bestMove (8, [some (vr (9 + 5 * b)), some (vi x1), some (vi x2), some (vi x3)], [], pm_mm al D I L) = cond (decide ((I (9 + 5 * b) 4) ≤ x3)) (some (some (vi 6), pm_mm al D I L)) (cond (pm_in x3 6) (cond (decide ((I (9 + 5 * b) 0) < (I (10 + 5 * b) x3.toNatClampNeg))) (Rn X d co_Du_bestMove (46, [some (vr (9 + 5 * b)), some (vi x1), some (vi x2), some (vi x3)], [], pm_mm al D I L)) (((Cl X d 18 [vr (9 + 5 * b), vi (I (9 + 5 * b) 0), vi 0, vi x1, vi x3] (pm_mm al D I L)).bind pm_ai).bind (fun r => Rn X d co_Du_bestMove (40, [some (vr (9 + 5 * b)), some (vi x1), some (vi x2), some (vi x3)], [vi r.1], r.2)))) none) := by
  rcases two hb with rfl | rfl
  · exact sg_Du_bestMove_9_8 ..
  · exact sg_Du_bestMove_14_8 ..
theorem sgb_Du_bestMove_40 {b : Nat} (hb : b < 2) (X : Nat × (Nat → Int32)) (d : Nat) (x1 x2 x3 u0 : Int32) (al : List Nat) (D : Nat → Bool) (I : Nat → Nat → Int32) (L : Nat → Nat → Int64) : Rn X d co_Du_bestMove (40, [some (vr (9 + 5 * b)), some (vi x1), some (vi x2), some (vi x3)], [vi u0], pm_mm al D I L) = cond (decide (u0 = x2)) (some (some (vi x3), pm_mm al D I L)) (Rn X d co_Du_bestMove (46, [some (vr (9 + 5 * b)), some (vi x1), some (vi x2), some (vi x3)], [], pm_mm al D I L)) := by
  rcases two hb with rfl | rfl
  · exact sg_Du_bestMove_9_40 ..
  · exact sg_Du_bestMove_14_40 ..
theorem sgb_Du_bestMove_46 {b : Nat} (hb : b < 2) (X : Nat × (Nat → Int32)) (d : Nat) (x1 x2 x3 : Int32) (al : List Nat) (D : Nat → Bool) (I : Nat → Nat → Int32) (L : Nat → Nat → Int64) : Rn X d co_Du_bestMove (46, [some (vr (9 + 5 * b)), some (vi x1), some (vi x2), some (vi x3)], [], pm_mm al D I L) = Rn X d co_Du_bestMove (8, [some (vr (9 + 5 * b)), some (vi x1), some (vi x2), some (vi (x3 + 1))], [], pm_mm al D I L) := by
  rcases two hb with rfl | rfl
  · exact sg_Du_bestMove_9_46 ..
  · exact sg_Du_bestMove_14_46 ..
theorem sgb_Du_bestLead_0 {b : Nat} (hb : b < 2) (X : Nat × (Nat → Int32)) (d : Nat) (x1 x2 x3 : Int32) (o4 o5 : Option pm_V) (al : List Nat) (D : Nat → Bool) (I : Nat → Nat → Int32) (L : Nat → Nat → Int64) : Rn X d co_Du_bestLead (0, [some (vr (9 + 5 * b)), some (vi x1), some (vi x2), some (vi x3), o4, o5], [], pm_mm al D I L) = cond (decide (0 < x3)) (((Cl X d 18 [vr (9 + 5 * b), vi x1, vi x2, vi x3, vi 6] (pm_mm al D I L)).bind pm_ai).bind (fun r => Rn X d co_Du_bestLead (15, [some (vr (9 + 5 * b)), some (vi x1), some (vi x2), some (vi x3), o4, o5], [vi r.1], r.2))) (some (some (vi 0), pm_mm al D I L)) := by
  rcases two hb with rfl | rfl
  · exact sg_Du_bestLead_9_0 ..
  · exact sg_Du_bestLead_14_0 ..
theorem sgb_Du_bestLead_15 {b : Nat} (hb : b < 2) (X : Nat × (Nat → Int32)) (d : Nat) (x1 x2 x3 : Int32) (o4 o5 : Option pm_V) (u0 : Int32) (al : List Nat) (D : Nat → Bool) (I : Nat → Nat → Int32) (L : Nat → Nat → Int64) : Rn X d co_Du_bestLead (15, [some (vr (9 + 5 * b)), some (vi x1), some (vi x2), some (vi x3), o4, o5], [vi u0], pm_mm al D I L) = Rn X d co_Du_bestLead (20, [some (vr (9 + 5 * b)), some (vi x1), some (vi x2), some (vi x3), some (vi u0), some (vi 0)], [], pm_mm al D I L) := by
  rcases two hb with rfl | rfl
  · exact sg_Du_bestLead_9_15 ..
  · exact sg_Du_bestLead_14_15 ..
theorem sgb_Du_bestLead_20 {b : Nat} (hb : b < 2) (X : Nat × (Nat → Int32)) (d : Nat) (x1 x2 x3 x4 x5 : Int32) (al : List Nat) (D : Nat → Bool) (I : Nat → Nat → Int32) (L : Nat → Nat → Int64) : Rn X d co_Du_bestLead (20, [some (vr (9 + 5 * b)), some (vi x1), some (vi x2), some (vi x3), some (vi x4), some (vi x5)], [], pm_mm al D I L) = cond (decide ((I (9 + 5 * b) 4) ≤ x5)) (some (some (vi x4), pm_mm al D I L)) (cond (decide (((x2 >>> (x5 &&& 31)) &&& 1) = 0)) (cond (pm_in x5 6) (cond (decide (x1 < (I (10 + 5 * b) x5.toNatClampNeg))) (Rn X d co_Du_bestLead (65, [some (vr (9 + 5 * b)), some (vi x1), some (vi x2), some (vi x3), some (vi x4), some (vi x5)], [], pm_mm al D I L)) (((Cl X d 18 [vr (9 + 5 * b), vi x1, vi x2, vi x3, vi x5] (pm_mm al D I L)).bind pm_ai).bind (fun r => Rn X d co_Du_bestLead (60, [some (vr (9 + 5 * b)), some (vi x1), some (vi x2), some (vi x3), some (vi x4), some (vi x5)], [vi r.1, vi x4], r.2)))) none) (Rn X d co_Du_bestLead (65, [some (vr (9 + 5 * b)), some (vi x1), some (vi x2), some (vi x3), some (vi x4), some (vi x5)], [], pm_mm al D I L))) := by
  rcases two hb with rfl | rfl
  · exact sg_Du_bestLead_9_20 ..
  · exact sg_Du_bestLead_14_20 ..
theorem sgb_Du_bestLead_60 {b : Nat} (hb : b < 2) (X : Nat × (Nat → Int32)) (d : Nat) (x1 x2 x3 : Int32) (o4 : Option pm_V) (x5 u0 u1 : Int32) (al : List Nat) (D : Nat → Bool) (I : Nat → Nat → Int32) (L : Nat → Nat → Int64) : Rn X d co_Du_bestLead (60, [some (vr (9 + 5 * b)), some (vi x1), some (vi x2), some (vi x3), o4, some (vi x5)], [vi u1, vi u0], pm_mm al D I L) = ((Cl X d 4 [vi u0, vi u1] (pm_mm al D I L)).bind pm_ai).bind (fun r => Rn X d co_Du_bestLead (63, [some (vr (9 + 5 * b)), some (vi x1), some (vi x2), some (vi x3), o4, some (vi x5)], [vi r.1], r.2)) := by
  rcases two hb with rfl | rfl
  · exact sg_Du_bestLead_9_60 ..
  · exact sg_Du_bestLead_14_60 ..
theorem sgb_Du_bestLead_63 {b : Nat} (hb : b < 2) (X : Nat × (Nat → Int32)) (d : Nat) (x1 x2 x3 : Int32) (o4 : Option pm_V) (x5 u0 : Int32) (al : List Nat) (D : Nat → Bool) (I : Nat → Nat → Int32) (L : Nat → Nat → Int64) : Rn X d co_Du_bestLead (63, [some (vr (9 + 5 * b)), some (vi x1), some (vi x2), some (vi x3), o4, some (vi x5)], [vi u0], pm_mm al D I L) = Rn X d co_Du_bestLead (65, [some (vr (9 + 5 * b)), some (vi x1), some (vi x2), some (vi x3), some (vi u0), some (vi x5)], [], pm_mm al D I L) := by
  rcases two hb with rfl | rfl
  · exact sg_Du_bestLead_9_63 ..
  · exact sg_Du_bestLead_14_63 ..
theorem sgb_Du_bestLead_65 {b : Nat} (hb : b < 2) (X : Nat × (Nat → Int32)) (d : Nat) (x1 x2 x3 x4 x5 : Int32) (al : List Nat) (D : Nat → Bool) (I : Nat → Nat → Int32) (L : Nat → Nat → Int64) : Rn X d co_Du_bestLead (65, [some (vr (9 + 5 * b)), some (vi x1), some (vi x2), some (vi x3), some (vi x4), some (vi x5)], [], pm_mm al D I L) = Rn X d co_Du_bestLead (20, [some (vr (9 + 5 * b)), some (vi x1), some (vi x2), some (vi x3), some (vi x4), some (vi (x5 + 1))], [], pm_mm al D I L) := by
  rcases two hb with rfl | rfl
  · exact sg_Du_bestLead_9_65 ..
  · exact sg_Du_bestLead_14_65 ..
theorem sgb_Du_leadBy_0 {b : Nat} (hb : b < 2) (X : Nat × (Nat → Int32)) (d : Nat) (x1 x2 x3 x4 : Int32) (o5 : Option pm_V) (al : List Nat) (D : Nat → Bool) (I : Nat → Nat → Int32) (L : Nat → Nat → Int64) : Rn X d co_Du_leadBy (0, [some (vr (9 + 5 * b)), some (vi x1), some (vi x2), some (vi x3), some (vi x4), o5], [], pm_mm al D I L) = cond (decide (x4 = 6)) (((Cl X d 5 [vi (I (9 + 5 * b) 0), vi (x1 + (I (9 + 5 * b) 2))] (pm_mm al D I L)).bind pm_ai).bind (fun r => Rn X d co_Du_leadBy (20, [some (vr (9 + 5 * b)), some (vi x1), some (vi x2), some (vi x3), some (vi x4), o5], [vi r.1], r.2))) (cond (pm_in x4 6) (cond (pm_in x4 6) (((Cl X d 17 [vr (9 + 5 * b), vi (x1 - (I (10 + 5 * b) x4.toNatClampNeg)), vi (x2 ||| (1 <<< (x4 &&& 31))), vi (x3 - 1)] (pm_mm al D I L)).bind pm_ai).bind (fun r => Rn X d co_Du_leadBy (67, [some (vr (9 + 5 * b)), some (vi x1), some (vi x2), some (vi x3), some (vi x4), some (vi (x1 - (I (10 + 5 * b) x4.toNatClampNeg)))], [vi r.1, vi (I (11 + 5 * b) x4.toNatClampNeg)], r.2))) none) none) := by
  rcases two hb with rfl | rfl
  · exact sg_Du_leadBy_9_0 ..
  · exact sg_Du_leadBy_14_0 ..
theorem sgb_Du_leadBy_20 {b : Nat} (hb : b < 2) (X : Nat × (Nat → Int32)) (d : Nat) (o1 : Option pm_V) (x2 x3 : Int32) (o4 o5 : Option pm_V) (u0 : Int32) (al : List Nat) (D : Nat → Bool) (I : Nat → Nat → Int32) (L : Nat → Nat → Int64) : Rn X d co_Du_leadBy (20, [some (vr (9 + 5 * b)), o1, some (vi x2), some (vi x3), o4, o5], [vi u0], pm_mm al D I L) = ((Cl X d 17 [vr (9 + 5 * b), vi u0, vi x2, vi (x3 - 1)] (pm_mm al D I L)).bind pm_ai).bind (fun r => Rn X d co_Du_leadBy (32, [some (vr (9 + 5 * b)), o1, some (vi x2), some (vi x3), (pm_nl o4), some (vi u0)], [vi r.1], r.2)) := by
  rcases two hb with rfl | rfl
  · exact sg_Du_leadBy_9_20 ..
  · exact sg_Du_leadBy_14_20 ..
theorem sgb_Du_leadBy_32 (X : Nat × (Nat → Int32)) (d : Nat) (o0 o1 o2 o3 o4 o5 : Option pm_V) (u0 : Int32) (al : List Nat) (D : Nat → Bool) (I : Nat → Nat → Int32) (L : Nat → Nat → Int64) : Rn X d co_Du_leadBy (32, [o0, o1, o2, o3, o4, o5], [vi u0], pm_mm al D I L) = some (some (vi (-u0)), pm_mm al D I L) :=
  sg_Du_leadBy_9_32 ..
theorem sgb_Du_leadBy_67 (X : Nat × (Nat → Int32)) (d : Nat) (o0 o1 o2 o3 o4 o5 : Option pm_V) (u0 u1 : Int32) (al : List Nat) (D : Nat → Bool) (I : Nat → Nat → Int32) (L : Nat → Nat → Int64) : Rn X d co_Du_leadBy (67, [o0, o1, o2, o3, o4, o5], [vi u1, vi u0], pm_mm al D I L) = some (some (vi (u0 - u1)), pm_mm al D I L) :=
  sg_Du_leadBy_9_67 ..
theorem sgb_Le_lay_0 {b : Nat} (hb : b < 2) (X : Nat × (Nat → Int32)) (d : Nat) (x2 x3 x4 : Int32) (o5 o6 o7 o8 : Option pm_V) (al : List Nat) (D : Nat → Bool) (I : Nat → Nat → Int32) (L : Nat → Nat → Int64) : Rn X d co_Le_lay (0, [some (vr 73), some (vr (9 + 5 * b)), some (vi x2), some (vi x3), some (vi x4), o5, o6, o7, o8], [], pm_mm al D I L) = Rn X d co_Le_lay (3, [some (vr 73), some (vr (9 + 5 * b)), some (vi x2), some (vi x3), some (vi x4), some (vi 0), o6, o7, o8], [], pm_mm al D I L) := by
  rcases two hb with rfl | rfl
  · exact sg_Le_lay_9_0 ..
  · exact sg_Le_lay_14_0 ..
theorem sgb_Le_lay_3 {b : Nat} (hb : b < 2) (X : Nat × (Nat → Int32)) (d : Nat) (x2 x3 x4 x5 : Int32) (o6 o7 o8 : Option pm_V) (al : List Nat) (D : Nat → Bool) (I : Nat → Nat → Int32) (L : Nat → Nat → Int64) : Rn X d co_Le_lay (3, [some (vr 73), some (vr (9 + 5 * b)), some (vi x2), some (vi x3), some (vi x4), some (vi x5), o6, o7, o8], [], pm_mm al D I L) = cond (decide ((I (9 + 5 * b) 4) ≤ x5)) (Rn X d co_Le_lay (52, [some (vr 73), some (vr (9 + 5 * b)), some (vi x2), some (vi x3), some (vi x4), some (vi 0), some (vi x2), some (vi 0), o8], [], pm_mm al D I L)) (((Cl X d 13 [vr (9 + 5 * b), vi x5, vi x3, vi x4] (pm_mm al D I L)).bind pm_ai).bind (fun r => Rn X d co_Le_lay (27, [some (vr 73), some (vr (9 + 5 * b)), some (vi x2), some (vi x3), some (vi x4), some (vi x5), o6, o7, o8], [vi r.1, vi x5, vr 75], r.2))) := by
  rcases two hb with rfl | rfl
  · exact sg_Le_lay_9_3 ..
  · exact sg_Le_lay_14_3 ..
theorem sgb_Le_lay_27 {b : Nat} (hb : b < 2) (X : Nat × (Nat → Int32)) (d : Nat) (x2 x3 x4 x5 : Int32) (o6 o7 o8 : Option pm_V) (u1 u2 : Int32) (al : List Nat) (D : Nat → Bool) (I : Nat → Nat → Int32) (L : Nat → Nat → Int64) : Rn X d co_Le_lay (27, [some (vr 73), some (vr (9 + 5 * b)), some (vi x2), some (vi x3), some (vi x4), some (vi x5), o6, o7, o8], [vi u2, vi u1, vr 75], pm_mm al D I L) = cond (pm_in u1 6) (cond (pm_in x5 6) (Rn X d co_Le_lay (3, [some (vr 73), some (vr (9 + 5 * b)), some (vi x2), some (vi x3), some (vi x4), some (vi (x5 + 1)), o6, o7, o8], [], pm_mm al D (pm_up (pm_up I 75 u1.toNatClampNeg u2) 74 x5.toNatClampNeg 6) L)) none) none := by
  rcases two hb with rfl | rfl
  · exact sg_Le_lay_9_27 ..
  · exact sg_Le_lay_14_27 ..
theorem sgb_Le_lay_52 {b : Nat} (hb : b < 2) (X : Nat × (Nat → Int32)) (d : Nat) (o2 o3 o4 : Option pm_V) (x5 x6 x7 : Int32) (o8 : Option pm_V) (al : List Nat) (D : Nat → Bool) (I : Nat → Nat → Int32) (L : Nat → Nat → Int64) : Rn X d co_Le_lay (52, [some (vr 73), some (vr (9 + 5 * b)), o2, o3, o4, some (vi x5), some (vi x6), some (vi x7), o8], [], pm_mm al D I L) = cond (decide ((I (9 + 5 * b) 4) ≤ x7)) (Rn X d co_Le_lay (122, [some (vr 73), some (vr (9 + 5 * b)), o2, o3, o4, some (vi x5), some (vi x6), some (vi x7), o8], [], pm_mm al D I L)) (cond (decide (x6 = 0)) (Rn X d co_Le_lay (122, [some (vr 73), some (vr (9 + 5 * b)), o2, o3, o4, some (vi x5), some (vi x6), some (vi x7), o8], [], pm_mm al D I L)) (((Cl X d 33 [vr 73, vr (9 + 5 * b), vi x6] (pm_mm al D I L)).bind pm_ai).bind (fun r => Rn X d co_Le_lay (73, [some (vr 73), some (vr (9 + 5 * b)), o2, o3, o4, some (vi x5), some (vi x6), some (vi x7), o8], [vi r.1], r.2)))) := by
  rcases two hb with rfl | rfl
  · exact sg_Le_lay_9_52 ..
  · exact sg_Le_lay_14_52 ..
theorem sgb_Le_lay_73 {b : Nat} (hb : b < 2) (X : Nat × (Nat → Int32)) (d : Nat) (o2 o3 o4 : Option pm_V) (x5 x6 x7 : Int32) (o8 : Option pm_V) (u0 : Int32) (al : List Nat) (D : Nat → Bool) (I : Nat → Nat → Int32) (L : Nat → Nat → Int64) : Rn X d co_Le_lay (73, [some (vr 73), some (vr (9 + 5 * b)), o2, o3, o4, some (vi x5), some (vi x6), some (vi x7), o8], [vi u0], pm_mm al D I L) = cond (decide (u0 = (-1))) (some (some (vi x5), pm_mm al D I L)) (cond (pm_in u0 6) (((Cl X d 34 [vr 73, vr (9 + 5 * b), vi u0, vi (x6 &&& ((1 <<< (u0 &&& 31)) ^^^ (-1)))] (pm_mm al D I L)).bind pm_av).bind (fun r => Rn X d co_Le_lay (116, [some (vr 73), some (vr (9 + 5 * b)), o2, o3, (pm_nl o4), some (vi (x5 + (I 75 u0.toNatClampNeg))), some (vi (x6 &&& ((1 <<< (u0 &&& 31)) ^^^ (-1)))), some (vi x7), some (vi u0)], [], r))) none) := by
  rcases two hb with rfl | rfl
  · exact sg_Le_lay_9_73 ..
  · exact sg_Le_lay_14_73 ..
theorem sgb_Le_lay_116 {b : Nat} (hb : b < 2) (X : Nat × (Nat → Int32)) (d : Nat) (o2 o3 o4 : Option pm_V) (x5 x6 x7 : Int32) (o8 : Option pm_V) (al : List Nat) (D : Nat → Bool) (I : Nat → Nat → Int32) (L : Nat → Nat → Int64) : Rn X d co_Le_lay (116, [some (vr 73), some (vr (9 + 5 * b)), o2, o3, o4, some (vi x5), some (vi x6), some (vi x7), o8], [], pm_mm al D I L) = Rn X d co_Le_lay (52, [some (vr 73), some (vr (9 + 5 * b)), o2, o3, o4, some (vi x5), some (vi x6), some (vi (x7 + 1)), o8], [], pm_mm al D I L) := by
  rcases two hb with rfl | rfl
  · exact sg_Le_lay_9_116 ..
  · exact sg_Le_lay_14_116 ..
theorem sgb_Le_lay_122 (X : Nat × (Nat → Int32)) (d : Nat) (o0 o1 o2 o3 o4 : Option pm_V) (x5 : Int32) (o6 o7 o8 : Option pm_V) (al : List Nat) (D : Nat → Bool) (I : Nat → Nat → Int32) (L : Nat → Nat → Int64) : Rn X d co_Le_lay (122, [o0, o1, o2, o3, o4, some (vi x5), o6, o7, o8], [], pm_mm al D I L) = some (some (vi x5), pm_mm al D I L) :=
  sg_Le_lay_9_122 ..
theorem sgb_Le_nearest_0 {b : Nat} (hb : b < 2) (X : Nat × (Nat → Int32)) (d : Nat) (x2 : Int32) (o3 o4 : Option pm_V) (al : List Nat) (D : Nat → Bool) (I : Nat → Nat → Int32) (L : Nat → Nat → Int64) : Rn X d co_Le_nearest (0, [some (vr 73), some (vr (9 + 5 * b)), some (vi x2), o3, o4], [], pm_mm al D I L) = Rn X d co_Le_nearest (5, [some (vr 73), some (vr (9 + 5 * b)), some (vi x2), some (vi (-1)), some (vi 0)], [], pm_mm al D I L) := by
  rcases two hb with rfl | rfl
  · exact sg_Le_nearest_9_0 ..
  · exact sg_Le_nearest_14_0 ..
theorem sgb_Le_nearest_5 {b : Nat} (hb : b < 2) (X : Nat × (Nat → Int32)) (d : Nat) (x2 x3 x4 : Int32) (al : List Nat) (D : Nat → Bool) (I : Nat → Nat → Int32) (L : Nat → Nat → Int64) : Rn X d co_Le_nearest (5, [some (vr 73), some (vr (9 + 5 * b)), some (vi x2), some (vi x3), some (vi x4)], [], pm_mm al D I L) = cond (decide ((I (9 + 5 * b) 4) ≤ x4)) (some (some (vi x3), pm_mm al D I L)) (cond (decide (((x2 >>> (x4 &&& 31)) &&& 1) = 0)) (Rn X d co_Le_nearest (47, [some (vr 73), some (vr (9 + 5 * b)), some (vi x2), some (vi x3), some (vi x4)], [], pm_mm al D I L)) (cond (decide (x3 = (-1))) (Rn X d co_Le_nearest (44, [some (vr 73), some (vr (9 + 5 * b)), some (vi x2), some (vi x3), some (vi x4)], [], pm_mm al D I L)) (cond (pm_in x4 6) (cond (pm_in x3 6) (cond (decide ((I 75 x3.toNatClampNeg) ≤ (I 75 x4.toNatClampNeg))) (Rn X d co_Le_nearest (47, [some (vr 73), some (vr (9 + 5 * b)), some (vi x2), some (vi x3), some (vi x4)], [], pm_mm al D I L)) (Rn X d co_Le_nearest (44, [some (vr 73), some (vr (9 + 5 * b)), some (vi x2), some (vi x3), some (vi x4)], [], pm_mm al D I L))) none) none))) := by
  rcases two hb with rfl | rfl
  · exact sg_Le_nearest_9_5 ..
  · exact sg_Le_nearest_14_5 ..
theorem sgb_Le_nearest_44 {b : Nat} (hb : b < 2) (X : Nat × (Nat → Int32)) (d : Nat) (x2 : Int32) (o3 : Option pm_V) (x4 : Int32) (al : List Nat) (D : Nat → Bool) (I : Nat → Nat → Int32) (L : Nat → Nat → Int64) : Rn X d co_Le_nearest (44, [some (vr 73), some (vr (9 + 5 * b)), some (vi x2), o3, some (vi x4)], [], pm_mm al D I L) = Rn X d co_Le_nearest (47, [some (vr 73), some (vr (9 + 5 * b)), some (vi x2), some (vi x4), some (vi x4)], [], pm_mm al D I L) := by
  rcases two hb with rfl | rfl
  · exact sg_Le_nearest_9_44 ..
  · exact sg_Le_nearest_14_44 ..
theorem sgb_Le_nearest_47 {b : Nat} (hb : b < 2) (X : Nat × (Nat → Int32)) (d : Nat) (x2 x3 x4 : Int32) (al : List Nat) (D : Nat → Bool) (I : Nat → Nat → Int32) (L : Nat → Nat → Int64) : Rn X d co_Le_nearest (47, [some (vr 73), some (vr (9 + 5 * b)), some (vi x2), some (vi x3), some (vi x4)], [], pm_mm al D I L) = Rn X d co_Le_nearest (5, [some (vr 73), some (vr (9 + 5 * b)), some (vi x2), some (vi x3), some (vi (x4 + 1))], [], pm_mm al D I L) := by
  rcases two hb with rfl | rfl
  · exact sg_Le_nearest_9_47 ..
  · exact sg_Le_nearest_14_47 ..
theorem sgb_Le_spreadFrom_0 {b : Nat} (hb : b < 2) (X : Nat × (Nat → Int32)) (d : Nat) (x2 x3 : Int32) (o4 o5 o6 : Option pm_V) (al : List Nat) (D : Nat → Bool) (I : Nat → Nat → Int32) (L : Nat → Nat → Int64) : Rn X d co_Le_spreadFrom (0, [some (vr 73), some (vr (9 + 5 * b)), some (vi x2), some (vi x3), o4, o5, o6], [], pm_mm al D I L) = Rn X d co_Le_spreadFrom (3, [some (vr 73), some (vr (9 + 5 * b)), some (vi x2), some (vi x3), some (vi 0), o5, o6], [], pm_mm al D I L) := by
  rcases two hb with rfl | rfl
  · exact sg_Le_spreadFrom_9_0 ..
  · exact sg_Le_spreadFrom_14_0 ..
theorem sgb_Le_spreadFrom_3 {b : Nat} (hb : b < 2) (X : Nat × (Nat → Int32)) (d : Nat) (x2 x3 x4 : Int32) (o5 o6 : Option pm_V) (al : List Nat) (D : Nat → Bool) (I : Nat → Nat → Int32) (L : Nat → Nat → Int64) : Rn X d co_Le_spreadFrom (3, [some (vr 73), some (vr (9 + 5 * b)), some (vi x2), some (vi x3), some (vi x4), o5, o6], [], pm_mm al D I L) = cond (decide ((I (9 + 5 * b) 4) ≤ x4)) (some (none, pm_mm al D I L)) (cond (decide (((x3 >>> (x4 &&& 31)) &&& 1) = 0)) (Rn X d co_Le_spreadFrom (117, [some (vr 73), some (vr (9 + 5 * b)), some (vi x2), some (vi x3), some (vi x4), o5, o6], [], pm_mm al D I L)) (cond (pm_in x2 6) (cond (pm_in x2 6) (((Cl X d 13 [vr (9 + 5 * b), vi x4, vi (I (12 + 5 * b) x2.toNatClampNeg), vi (I (13 + 5 * b) x2.toNatClampNeg)] (pm_mm al D I L)).bind pm_ai).bind (fun r => Rn X d co_Le_spreadFrom (39, [some (vr 73), some (vr (9 + 5 * b)), some (vi x2), some (vi x3), some (vi x4), o5, o6], [vi r.1], r.2))) none) none)) := by
  rcases two hb with rfl | rfl
  · exact sg_Le_spreadFrom_9_3 ..
  · exact sg_Le_spreadFrom_14_3 ..
theorem sgb_Le_spreadFrom_39 {b : Nat} (hb : b < 2) (X : Nat × (Nat → Int32)) (d : Nat) (x2 x3 x4 : Int32) (o5 o6 : Option pm_V) (u0 : Int32) (al : List Nat) (D : Nat → Bool) (I : Nat → Nat → Int32) (L : Nat → Nat → Int64) : Rn X d co_Le_spreadFrom (39, [some (vr 73), some (vr (9 + 5 * b)), some (vi x2), some (vi x3), some (vi x4), o5, o6], [vi u0], pm_mm al D I L) = cond (pm_in x4 6) (cond (decide ((I 74 x4.toNatClampNeg) = 6)) (Rn X d co_Le_spreadFrom (68, [some (vr 73), some (vr (9 + 5 * b)), some (vi x2), some (vi x3), some (vi x4), some (vi u0), o6], [], pm_mm al D I L)) (cond (pm_in x4 6) (cond (decide ((I 74 x4.toNatClampNeg) ≤ x2)) (Rn X d co_Le_spreadFrom (68, [some (vr 73), some (vr (9 + 5 * b)), some (vi x2), some (vi x3), some (vi x4), some (vi u0), o6], [], pm_mm al D I L)) (Rn X d co_Le_spreadFrom (69, [some (vr 73), some (vr (9 + 5 * b)), some (vi x2), some (vi x3), some (vi x4), some (vi u0), o6], [vi 1], pm_mm al D I L))) none)) none := by
  rcases two hb with rfl | rfl
  · exact sg_Le_spreadFrom_9_39 ..
  · exact sg_Le_spreadFrom_14_39 ..
theorem sgb_Le_spreadFrom_68 {b : Nat} (hb : b < 2) (X : Nat × (Nat → Int32)) (d : Nat) (x2 x3 x4 x5 : Int32) (o6 : Option pm_V) (al : List Nat) (D : Nat → Bool) (I : Nat → Nat → Int32) (L : Nat → Nat → Int64) : Rn X d co_Le_spreadFrom (68, [some (vr 73), some (vr (9 + 5 * b)), some (vi x2), some (vi x3), some (vi x4), some (vi x5), o6], [], pm_mm al D I L) = Rn X d co_Le_spreadFrom (69, [some (vr 73), some (vr (9 + 5 * b)), some (vi x2), some (vi x3), some (vi x4), some (vi x5), o6], [vi 0], pm_mm al D I L) := by
  rcases two hb with rfl | rfl
  · exact sg_Le_spreadFrom_9_68 ..
  · exact sg_Le_spreadFrom_14_68 ..
theorem sgb_Le_spreadFrom_69 {b : Nat} (hb : b < 2) (X : Nat × (Nat → Int32)) (d : Nat) (x2 x3 x4 x5 : Int32) (o6 : Option pm_V) (u0 : Int32) (al : List Nat) (D : Nat → Bool) (I : Nat → Nat → Int32) (L : Nat → Nat → Int64) : Rn X d co_Le_spreadFrom (69, [some (vr 73), some (vr (9 + 5 * b)), some (vi x2), some (vi x3), some (vi x4), some (vi x5), o6], [vi u0], pm_mm al D I L) = cond (pm_in x4 6) (cond (decide (x5 < (I 75 x4.toNatClampNeg))) (Rn X d co_Le_spreadFrom (100, [some (vr 73), some (vr (9 + 5 * b)), some (vi x2), some (vi x3), some (vi x4), some (vi x5), some (vi u0)], [], pm_mm al D I L)) (cond (pm_in x4 6) (cond (decide (x5 = (I 75 x4.toNatClampNeg))) (cond (decide (u0 = 0)) (Rn X d co_Le_spreadFrom (117, [some (vr 73), some (vr (9 + 5 * b)), some (vi x2), some (vi x3), some (vi x4), some (vi x5), some (vi u0)], [], pm_mm al D I L)) (Rn X d co_Le_spreadFrom (100, [some (vr 73), some (vr (9 + 5 * b)), some (vi x2), some (vi x3), some (vi x4), some (vi x5), some (vi u0)], [], pm_mm al D I L))) (Rn X d co_Le_spreadFrom (117, [some (vr 73), some (vr (9 + 5 * b)), some (vi x2), some (vi x3), some (vi x4), some (vi x5), some (vi u0)], [], pm_mm al D I L))) none)) none := by
  rcases two hb with rfl | rfl
  · exact sg_Le_spreadFrom_9_69 ..
  · exact sg_Le_spreadFrom_14_69 ..
theorem sgb_Le_spreadFrom_100 {b : Nat} (hb : b < 2) (X : Nat × (Nat → Int32)) (d : Nat) (x2 x3 x4 x5 : Int32) (o6 : Option pm_V) (al : List Nat) (D : Nat → Bool) (I : Nat → Nat → Int32) (L : Nat → Nat → Int64) : Rn X d co_Le_spreadFrom (100, [some (vr 73), some (vr (9 + 5 * b)), some (vi x2), some (vi x3), some (vi x4), some (vi x5), o6], [], pm_mm al D I L) = cond (pm_in x4 6) (cond (pm_in x4 6) (Rn X d co_Le_spreadFrom (117, [some (vr 73), some (vr (9 + 5 * b)), some (vi x2), some (vi x3), some (vi x4), some (vi x5), o6], [], pm_mm al D (pm_up (pm_up I 75 x4.toNatClampNeg x5) 74 x4.toNatClampNeg x2) L)) none) none := by
  rcases two hb with rfl | rfl
  · exact sg_Le_spreadFrom_9_100 ..
  · exact sg_Le_spreadFrom_14_100 ..
theorem sgb_Le_spreadFrom_117 {b : Nat} (hb : b < 2) (X : Nat × (Nat → Int32)) (d : Nat) (x2 x3 x4 : Int32) (o5 o6 : Option pm_V) (al : List Nat) (D : Nat → Bool) (I : Nat → Nat → Int32) (L : Nat → Nat → Int64) : Rn X d co_Le_spreadFrom (117, [some (vr 73), some (vr (9 + 5 * b)), some (vi x2), some (vi x3), some (vi x4), o5, o6], [], pm_mm al D I L) = Rn X d co_Le_spreadFrom (3, [some (vr 73), some (vr (9 + 5 * b)), some (vi x2), some (vi x3), some (vi (x4 + 1)), o5, o6], [], pm_mm al D I L) := by
  rcases two hb with rfl | rfl
  · exact sg_Le_spreadFrom_9_117 ..
  · exact sg_Le_spreadFrom_14_117 ..
theorem sgb_Lo_copy_r_0 {b : Nat} (hb : b < 2) (X : Nat × (Nat → Int32)) (d : Nat) (al : List Nat) (D : Nat → Bool) (I : Nat → Nat → Int32) (L : Nat → Nat → Int64) : Rn X d co_Lo_copy (0, [some (vr (27 + 3 * b)), some (vr 44)], [], pm_mm al D I L) = some (none, pm_mm al D (pm_ups (pm_ups (pm_up I (27 + 3 * b) 0 (I 44 0)) (28 + 3 * b) (va_cpy (I 45) (I (28 + 3 * b)) 0 0 8)) (29 + 3 * b) (va_cpy (I 46) (I (29 + 3 * b)) 0 0 8)) L) := by
  rcases two hb with rfl | rfl
  · exact sg_Lo_copy_27_44_0 ..
  · exact sg_Lo_copy_30_44_0 ..
theorem sgb_Lo_copy_i_0 {b : Nat} {k : Nat} (hb : b < 2) (hk : k < 3) (X : Nat × (Nat → Int32)) (d : Nat) (al : List Nat) (D : Nat → Bool) (I : Nat → Nat → Int32) (L : Nat → Nat → Int64) : Rn X d co_Lo_copy (0, [some (vr (27 + 3 * b)), some (vr (145 + 3 * b + 31 * k))], [], pm_mm al (pm_tb k D) I L) = some (none, pm_mm al (pm_tb k D) (pm_ups (pm_ups (pm_up I (27 + 3 * b) 0 (I (145 + 3 * b + 31 * k) 0)) (28 + 3 * b) (va_cpy (I (146 + 3 * b + 31 * k)) (I (28 + 3 * b)) 0 0 8)) (29 + 3 * b) (va_cpy (I (147 + 3 * b + 31 * k)) (I (29 + 3 * b)) 0 0 8)) L) := by
  rcases two hb with rfl | rfl <;> rcases three hk with rfl | rfl | rfl
  · exact sg_Lo_copy_27_145_0 ..
  · exact sg_Lo_copy_27_176_0 ..
  · exact sg_Lo_copy_27_207_0 ..
  · exact sg_Lo_copy_30_148_0 ..
  · exact sg_Lo_copy_30_179_0 ..
  · exact sg_Lo_copy_30_210_0 ..
theorem sgb_Lo_copy_o_0 {b : Nat} {k : Nat} (hb : b < 2) (hk : k < 3) (X : Nat × (Nat → Int32)) (d : Nat) (al : List Nat) (D : Nat → Bool) (I : Nat → Nat → Int32) (L : Nat → Nat → Int64) : Rn X d co_Lo_copy (0, [some (vr (145 + 3 * b + 31 * k)), some (vr (27 + 3 * b))], [], pm_mm al (pm_tb k D) I L) = some (none, pm_mm al (pm_tb k D) (pm_ups (pm_ups (pm_up I (145 + 3 * b + 31 * k) 0 (I (27 + 3 * b) 0)) (146 + 3 * b + 31 * k) (va_cpy (I (28 + 3 * b)) (I (146 + 3 * b + 31 * k)) 0 0 8)) (147 + 3 * b + 31 * k) (va_cpy (I (29 + 3 * b)) (I (147 + 3 * b + 31 * k)) 0 0 8)) L) := by
  rcases two hb with rfl | rfl <;> rcases three hk with rfl | rfl | rfl
  · exact sg_Lo_copy_145_27_0 ..
  · exact sg_Lo_copy_176_27_0 ..
  · exact sg_Lo_copy_207_27_0 ..
  · exact sg_Lo_copy_148_30_0 ..
  · exact sg_Lo_copy_179_30_0 ..
  · exact sg_Lo_copy_210_30_0 ..
theorem sgb_Sc_copy_r_0 {b : Nat} (hb : b < 2) (X : Nat × (Nat → Int32)) (d : Nat) (al : List Nat) (D : Nat → Bool) (I : Nat → Nat → Int32) (L : Nat → Nat → Int64) : Rn X d co_Sc_copy (0, [some (vr (19 + 4 * b)), some (vr 40)], [], pm_mm al D I L) = some (none, pm_mm al D (pm_ups (pm_ups (pm_ups (pm_up I (19 + 4 * b) 0 (I 40 0)) (20 + 4 * b) (va_cpy (I 41) (I (20 + 4 * b)) 0 0 8)) (21 + 4 * b) (va_cpy (I 42) (I (21 + 4 * b)) 0 0 8)) (22 + 4 * b) (va_cpy (I 43) (I (22 + 4 * b)) 0 0 8)) L) := by
  rcases two hb with rfl | rfl
  · exact sg_Sc_copy_19_40_0 ..
  · exact sg_Sc_copy_23_40_0 ..
theorem sgb_Sc_copy_i_0 {b : Nat} {k : Nat} (hb : b < 2) (hk : k < 3) (X : Nat × (Nat → Int32)) (d : Nat) (al : List Nat) (D : Nat → Bool) (I : Nat → Nat → Int32) (L : Nat → Nat → Int64) : Rn X d co_Sc_copy (0, [some (vr (19 + 4 * b)), some (vr (137 + 4 * b + 31 * k))], [], pm_mm al (pm_tb k D) I L) = some (none, pm_mm al (pm_tb k D) (pm_ups (pm_ups (pm_ups (pm_up I (19 + 4 * b) 0 (I (137 + 4 * b + 31 * k) 0)) (20 + 4 * b) (va_cpy (I (138 + 4 * b + 31 * k)) (I (20 + 4 * b)) 0 0 8)) (21 + 4 * b) (va_cpy (I (139 + 4 * b + 31 * k)) (I (21 + 4 * b)) 0 0 8)) (22 + 4 * b) (va_cpy (I (140 + 4 * b + 31 * k)) (I (22 + 4 * b)) 0 0 8)) L) := by
  rcases two hb with rfl | rfl <;> rcases three hk with rfl | rfl | rfl
  · exact sg_Sc_copy_19_137_0 ..
  · exact sg_Sc_copy_19_168_0 ..
  · exact sg_Sc_copy_19_199_0 ..
  · exact sg_Sc_copy_23_141_0 ..
  · exact sg_Sc_copy_23_172_0 ..
  · exact sg_Sc_copy_23_203_0 ..
theorem sgb_Sc_copy_o_0 {b : Nat} {k : Nat} (hb : b < 2) (hk : k < 3) (X : Nat × (Nat → Int32)) (d : Nat) (al : List Nat) (D : Nat → Bool) (I : Nat → Nat → Int32) (L : Nat → Nat → Int64) : Rn X d co_Sc_copy (0, [some (vr (137 + 4 * b + 31 * k)), some (vr (19 + 4 * b))], [], pm_mm al (pm_tb k D) I L) = some (none, pm_mm al (pm_tb k D) (pm_ups (pm_ups (pm_ups (pm_up I (137 + 4 * b + 31 * k) 0 (I (19 + 4 * b) 0)) (138 + 4 * b + 31 * k) (va_cpy (I (20 + 4 * b)) (I (138 + 4 * b + 31 * k)) 0 0 8)) (139 + 4 * b + 31 * k) (va_cpy (I (21 + 4 * b)) (I (139 + 4 * b + 31 * k)) 0 0 8)) (140 + 4 * b + 31 * k) (va_cpy (I (22 + 4 * b)) (I (140 + 4 * b + 31 * k)) 0 0 8)) L) := by
  rcases two hb with rfl | rfl <;> rcases three hk with rfl | rfl | rfl
  · exact sg_Sc_copy_137_19_0 ..
  · exact sg_Sc_copy_168_19_0 ..
  · exact sg_Sc_copy_199_19_0 ..
  · exact sg_Sc_copy_141_23_0 ..
  · exact sg_Sc_copy_172_23_0 ..
  · exact sg_Sc_copy_203_23_0 ..
theorem sgb_Sc_lastBeat_0 {b : Nat} (hb : b < 2) (X : Nat × (Nat → Int32)) (d : Nat) (o1 o2 : Option pm_V) (al : List Nat) (D : Nat → Bool) (I : Nat → Nat → Int32) (L : Nat → Nat → Int64) : Rn X d co_Sc_lastBeat (0, [some (vr (19 + 4 * b)), o1, o2], [], pm_mm al D I L) = Rn X d co_Sc_lastBeat (4, [some (vr (19 + 4 * b)), some (vi (-1)), some (vi 0)], [], pm_mm al D I L) := by
  rcases two hb with rfl | rfl
  · exact sg_Sc_lastBeat_19_0 ..
  · exact sg_Sc_lastBeat_23_0 ..
theorem sgb_Sc_lastBeat_4 {b : Nat} (hb : b < 2) (X : Nat × (Nat → Int32)) (d : Nat) (x1 x2 : Int32) (al : List Nat) (D : Nat → Bool) (I : Nat → Nat → Int32) (L : Nat → Nat → Int64) : Rn X d co_Sc_lastBeat (4, [some (vr (19 + 4 * b)), some (vi x1), some (vi x2)], [], pm_mm al D I L) = cond (decide ((I (19 + 4 * b) 0) ≤ x2)) (some (some (vi x1), pm_mm al D I L)) (cond (pm_in x2 8) (cond (pm_in x2 8) (((Cl X d 4 [vi x1, vi (((I (21 + 4 * b) x2.toNatClampNeg) + (I (22 + 4 * b) x2.toNatClampNeg)) - 1)] (pm_mm al D I L)).bind pm_ai).bind (fun r => Rn X d co_Sc_lastBeat (31, [some (vr (19 + 4 * b)), some (vi x1), some (vi x2)], [vi r.1], r.2))) none) none) := by
  rcases two hb with rfl | rfl
  · exact sg_Sc_lastBeat_19_4 ..
  · exact sg_Sc_lastBeat_23_4 ..
theorem sgb_Sc_lastBeat_31 {b : Nat} (hb : b < 2) (X : Nat × (Nat → Int32)) (d : Nat) (o1 : Option pm_V) (x2 u0 : Int32) (al : List Nat) (D : Nat → Bool) (I : Nat → Nat → Int32) (L : Nat → Nat → Int64) : Rn X d co_Sc_lastBeat (31, [some (vr (19 + 4 * b)), o1, some (vi x2)], [vi u0], pm_mm al D I L) = Rn X d co_Sc_lastBeat (4, [some (vr (19 + 4 * b)), some (vi u0), some (vi (x2 + 1))], [], pm_mm al D I L) := by
  rcases two hb with rfl | rfl
  · exact sg_Sc_lastBeat_19_31 ..
  · exact sg_Sc_lastBeat_23_31 ..
theorem sgb_Sc_wanted_0 {b : Nat} (hb : b < 2) (X : Nat × (Nat → Int32)) (d : Nat) (x1 : Int32) (o2 o3 : Option pm_V) (al : List Nat) (D : Nat → Bool) (I : Nat → Nat → Int32) (L : Nat → Nat → Int64) : Rn X d co_Sc_wanted (0, [some (vr (19 + 4 * b)), some (vi x1), o2, o3], [], pm_mm al D I L) = Rn X d co_Sc_wanted (4, [some (vr (19 + 4 * b)), some (vi x1), some (vi 0), some (vi 0)], [], pm_mm al D I L) := by
  rcases two hb with rfl | rfl
  · exact sg_Sc_wanted_19_0 ..
  · exact sg_Sc_wanted_23_0 ..
theorem sgb_Sc_wanted_4 {b : Nat} (hb : b < 2) (X : Nat × (Nat → Int32)) (d : Nat) (x1 x2 x3 : Int32) (al : List Nat) (D : Nat → Bool) (I : Nat → Nat → Int32) (L : Nat → Nat → Int64) : Rn X d co_Sc_wanted (4, [some (vr (19 + 4 * b)), some (vi x1), some (vi x2), some (vi x3)], [], pm_mm al D I L) = cond (decide ((I (19 + 4 * b) 0) ≤ x3)) (some (some (vi x2), pm_mm al D I L)) (cond (pm_in x3 8) (cond (decide (x1 < (I (21 + 4 * b) x3.toNatClampNeg))) (Rn X d co_Sc_wanted (50, [some (vr (19 + 4 * b)), some (vi x1), some (vi x2), some (vi x3)], [], pm_mm al D I L)) (cond (pm_in x3 8) (cond (pm_in x3 8) (cond (decide (((I (21 + 4 * b) x3.toNatClampNeg) + (I (22 + 4 * b) x3.toNatClampNeg)) ≤ x1)) (Rn X d co_Sc_wanted (50, [some (vr (19 + 4 * b)), some (vi x1), some (vi x2), some (vi x3)], [], pm_mm al D I L)) (cond (pm_in x3 8) (Rn X d co_Sc_wanted (50, [some (vr (19 + 4 * b)), some (vi x1), some (vi (x2 ||| (1 <<< ((I (20 + 4 * b) x3.toNatClampNeg) &&& 31)))), some (vi x3)], [], pm_mm al D I L)) none)) none) none)) none) := by
  rcases two hb with rfl | rfl
  · exact sg_Sc_wanted_19_4 ..
  · exact sg_Sc_wanted_23_4 ..
theorem sgb_Sc_wanted_50 {b : Nat} (hb : b < 2) (X : Nat × (Nat → Int32)) (d : Nat) (x1 x2 x3 : Int32) (al : List Nat) (D : Nat → Bool) (I : Nat → Nat → Int32) (L : Nat → Nat → Int64) : Rn X d co_Sc_wanted (50, [some (vr (19 + 4 * b)), some (vi x1), some (vi x2), some (vi x3)], [], pm_mm al D I L) = Rn X d co_Sc_wanted (4, [some (vr (19 + 4 * b)), some (vi x1), some (vi x2), some (vi (x3 + 1))], [], pm_mm al D I L) := by
  rcases two hb with rfl | rfl
  · exact sg_Sc_wanted_19_50 ..
  · exact sg_Sc_wanted_23_50 ..
theorem sgb_Sc_wantedInAll_0 {b : Nat} (hb : b < 2) (X : Nat × (Nat → Int32)) (d : Nat) (o1 o2 : Option pm_V) (al : List Nat) (D : Nat → Bool) (I : Nat → Nat → Int32) (L : Nat → Nat → Int64) : Rn X d co_Sc_wantedInAll (0, [some (vr (19 + 4 * b)), o1, o2], [], pm_mm al D I L) = Rn X d co_Sc_wantedInAll (4, [some (vr (19 + 4 * b)), some (vi 0), some (vi 0)], [], pm_mm al D I L) := by
  rcases two hb with rfl | rfl
  · exact sg_Sc_wantedInAll_19_0 ..
  · exact sg_Sc_wantedInAll_23_0 ..
theorem sgb_Sc_wantedInAll_4 {b : Nat} (hb : b < 2) (X : Nat × (Nat → Int32)) (d : Nat) (x1 x2 : Int32) (al : List Nat) (D : Nat → Bool) (I : Nat → Nat → Int32) (L : Nat → Nat → Int64) : Rn X d co_Sc_wantedInAll (4, [some (vr (19 + 4 * b)), some (vi x1), some (vi x2)], [], pm_mm al D I L) = cond (decide ((I (19 + 4 * b) 0) ≤ x2)) (some (some (vi x1), pm_mm al D I L)) (cond (pm_in x2 8) (Rn X d co_Sc_wantedInAll (4, [some (vr (19 + 4 * b)), some (vi (x1 ||| (1 <<< ((I (20 + 4 * b) x2.toNatClampNeg) &&& 31)))), some (vi (x2 + 1))], [], pm_mm al D I L)) none) := by
  rcases two hb with rfl | rfl
  · exact sg_Sc_wantedInAll_19_4 ..
  · exact sg_Sc_wantedInAll_23_4 ..
theorem sgb_Sc_densest_0 {b : Nat} (hb : b < 2) (X : Nat × (Nat → Int32)) (d : Nat) (o1 o2 o3 o4 : Option pm_V) (al : List Nat) (D : Nat → Bool) (I : Nat → Nat → Int32) (L : Nat → Nat → Int64) : Rn X d co_Sc_densest (0, [some (vr (19 + 4 * b)), o1, o2, o3, o4], [], pm_mm al D I L) = Rn X d co_Sc_densest (6, [some (vr (19 + 4 * b)), some (vi (-1)), some (vi 0), some (vi 0), o4], [], pm_mm al D I L) := by
  rcases two hb with rfl | rfl
  · exact sg_Sc_densest_19_0 ..
  · exact sg_Sc_densest_23_0 ..
theorem sgb_Sc_densest_6 {b : Nat} (hb : b < 2) (X : Nat × (Nat → Int32)) (d : Nat) (x1 x2 x3 : Int32) (o4 : Option pm_V) (al : List Nat) (D : Nat → Bool) (I : Nat → Nat → Int32) (L : Nat → Nat → Int64) : Rn X d co_Sc_densest (6, [some (vr (19 + 4 * b)), some (vi x1), some (vi x2), some (vi x3), o4], [], pm_mm al D I L) = cond (decide (12 ≤ x3)) (some (some (vi x2), pm_mm al D I L)) (((Cl X d 81 [vr (19 + 4 * b), vi x3] (pm_mm al D I L)).bind pm_ai).bind (fun r => Rn X d co_Sc_densest (17, [some (vr (19 + 4 * b)), some (vi x1), some (vi x2), some (vi x3), o4], [vi r.1], r.2))) := by
  rcases two hb with rfl | rfl
  · exact sg_Sc_densest_19_6 ..
  · exact sg_Sc_densest_23_6 ..
theorem sgb_Sc_densest_17 {b : Nat} (hb : b < 2) (X : Nat × (Nat → Int32)) (d : Nat) (x1 x2 x3 : Int32) (o4 : Option pm_V) (u0 : Int32) (al : List Nat) (D : Nat → Bool) (I : Nat → Nat → Int32) (L : Nat → Nat → Int64) : Rn X d co_Sc_densest (17, [some (vr (19 + 4 * b)), some (vi x1), some (vi x2), some (vi x3), o4], [vi u0], pm_mm al D I L) = ((Cl X d 1 [vi u0] (pm_mm al D I L)).bind pm_ai).bind (fun r => Rn X d co_Sc_densest (20, [some (vr (19 + 4 * b)), some (vi x1), some (vi x2), some (vi x3), o4], [vi r.1], r.2)) := by
  rcases two hb with rfl | rfl
  · exact sg_Sc_densest_19_17 ..
  · exact sg_Sc_densest_23_17 ..
theorem sgb_Sc_densest_20 {b : Nat} (hb : b < 2) (X : Nat × (Nat → Int32)) (d : Nat) (x1 x2 x3 : Int32) (o4 : Option pm_V) (u0 : Int32) (al : List Nat) (D : Nat → Bool) (I : Nat → Nat → Int32) (L : Nat → Nat → Int64) : Rn X d co_Sc_densest (20, [some (vr (19 + 4 * b)), some (vi x1), some (vi x2), some (vi x3), o4], [vi u0], pm_mm al D I L) = cond (decide (u0 ≤ x1)) (Rn X d co_Sc_densest (33, [some (vr (19 + 4 * b)), some (vi x1), some (vi x2), some (vi x3), some (vi u0)], [], pm_mm al D I L)) (Rn X d co_Sc_densest (33, [some (vr (19 + 4 * b)), some (vi u0), some (vi x3), some (vi x3), some (vi u0)], [], pm_mm al D I L)) := by
  rcases two hb with rfl | rfl
  · exact sg_Sc_densest_19_20 ..
  · exact sg_Sc_densest_23_20 ..
theorem sgb_Sc_densest_33 {b : Nat} (hb : b < 2) (X : Nat × (Nat → Int32)) (d : Nat) (x1 x2 x3 : Int32) (o4 : Option pm_V) (al : List Nat) (D : Nat → Bool) (I : Nat → Nat → Int32) (L : Nat → Nat → Int64) : Rn X d co_Sc_densest (33, [some (vr (19 + 4 * b)), some (vi x1), some (vi x2), some (vi x3), o4], [], pm_mm al D I L) = Rn X d co_Sc_densest (6, [some (vr (19 + 4 * b)), some (vi x1), some (vi x2), some (vi (x3 + 1)), o4], [], pm_mm al D I L) := by
  rcases two hb with rfl | rfl
  · exact sg_Sc_densest_19_33 ..
  · exact sg_Sc_densest_23_33 ..
theorem sgb_Sc_couples_0 {b : Nat} (hb : b < 2) (X : Nat × (Nat → Int32)) (d : Nat) (o1 o2 o3 o4 : Option pm_V) (al : List Nat) (D : Nat → Bool) (I : Nat → Nat → Int32) (L : Nat → Nat → Int64) : Rn X d co_Sc_couples (0, [some (vr (19 + 4 * b)), o1, o2, o3, o4], [], pm_mm al D I L) = Rn X d co_Sc_couples (4, [some (vr (19 + 4 * b)), some (vi 0), some (vi 0), o3, o4], [], pm_mm al D I L) := by
  rcases two hb with rfl | rfl
  · exact sg_Sc_couples_19_0 ..
  · exact sg_Sc_couples_23_0 ..
theorem sgb_Sc_couples_4 {b : Nat} (hb : b < 2) (X : Nat × (Nat → Int32)) (d : Nat) (x1 x2 : Int32) (o3 o4 : Option pm_V) (al : List Nat) (D : Nat → Bool) (I : Nat → Nat → Int32) (L : Nat → Nat → Int64) : Rn X d co_Sc_couples (4, [some (vr (19 + 4 * b)), some (vi x1), some (vi x2), o3, o4], [], pm_mm al D I L) = cond (decide ((I (19 + 4 * b) 0) ≤ x2)) (some (some (vi x1), pm_mm al D I L)) (Rn X d co_Sc_couples (16, [some (vr (19 + 4 * b)), some (vi x1), some (vi x2), some (vi (x2 + 1)), o4], [], pm_mm al D I L)) := by
  rcases two hb with rfl | rfl
  · exact sg_Sc_couples_19_4 ..
  · exact sg_Sc_couples_23_4 ..
theorem sgb_Sc_couples_16 {b : Nat} (hb : b < 2) (X : Nat × (Nat → Int32)) (d : Nat) (x1 x2 x3 : Int32) (o4 : Option pm_V) (al : List Nat) (D : Nat → Bool) (I : Nat → Nat → Int32) (L : Nat → Nat → Int64) : Rn X d co_Sc_couples (16, [some (vr (19 + 4 * b)), some (vi x1), some (vi x2), some (vi x3), o4], [], pm_mm al D I L) = cond (decide ((I (19 + 4 * b) 0) ≤ x3)) (Rn X d co_Sc_couples (4, [some (vr (19 + 4 * b)), some (vi x1), some (vi (x2 + 1)), some (vi x3), o4], [], pm_mm al D I L)) (cond (pm_in x2 8) (cond (pm_in x3 8) (cond (pm_in x3 8) (cond (decide (((I (21 + 4 * b) x3.toNatClampNeg) + (I (22 + 4 * b) x3.toNatClampNeg)) ≤ (I (21 + 4 * b) x2.toNatClampNeg))) (Rn X d co_Sc_couples (72, [some (vr (19 + 4 * b)), some (vi x1), some (vi x2), some (vi x3), o4], [], pm_mm al D I L)) (cond (pm_in x3 8) (cond (pm_in x2 8) (cond (pm_in x2 8) (cond (decide (((I (21 + 4 * b) x2.toNatClampNeg) + (I (22 + 4 * b) x2.toNatClampNeg)) ≤ (I (21 + 4 * b) x3.toNatClampNeg))) (Rn X d co_Sc_couples (72, [some (vr (19 + 4 * b)), some (vi x1), some (vi x2), some (vi x3), o4], [], pm_mm al D I L)) (Rn X d co_Sc_couples (73, [some (vr (19 + 4 * b)), some (vi x1), some (vi x2), some (vi x3), o4], [vi 1], pm_mm al D I L))) none) none) none)) none) none) none) := by
  rcases two hb with rfl | rfl
  · exact sg_Sc_couples_19_16 ..
  · exact sg_Sc_couples_23_16 ..
theorem sgb_Sc_couples_72 {b : Nat} (hb : b < 2) (X : Nat × (Nat → Int32)) (d : Nat) (x1 x2 x3 : Int32) (o4 : Option pm_V) (al : List Nat) (D : Nat → Bool) (I : Nat → Nat → Int32) (L : Nat → Nat → Int64) : Rn X d co_Sc_couples (72, [some (vr (19 + 4 * b)), some (vi x1), some (vi x2), some (vi x3), o4], [], pm_mm al D I L) = Rn X d co_Sc_couples (73, [some (vr (19 + 4 * b)), some (vi x1), some (vi x2), some (vi x3), o4], [vi 0], pm_mm al D I L) := by
  rcases two hb with rfl | rfl
  · exact sg_Sc_couples_19_72 ..
  · exact sg_Sc_couples_23_72 ..
theorem sgb_Sc_couples_73 {b : Nat} (hb : b < 2) (X : Nat × (Nat → Int32)) (d : Nat) (x1 x2 x3 : Int32) (o4 : Option pm_V) (u0 : Int32) (al : List Nat) (D : Nat → Bool) (I : Nat → Nat → Int32) (L : Nat → Nat → Int64) : Rn X d co_Sc_couples (73, [some (vr (19 + 4 * b)), some (vi x1), some (vi x2), some (vi x3), o4], [vi u0], pm_mm al D I L) = cond (decide (u0 = 0)) (Rn X d co_Sc_couples (98, [some (vr (19 + 4 * b)), some (vi x1), some (vi x2), some (vi x3), some (vi u0)], [], pm_mm al D I L)) (cond (pm_in x2 8) (cond (pm_in x3 8) (cond (decide ((I (20 + 4 * b) x2.toNatClampNeg) = (I (20 + 4 * b) x3.toNatClampNeg))) (Rn X d co_Sc_couples (98, [some (vr (19 + 4 * b)), some (vi (x1 + 1)), some (vi x2), some (vi x3), some (vi u0)], [], pm_mm al D I L)) (Rn X d co_Sc_couples (98, [some (vr (19 + 4 * b)), some (vi x1), some (vi x2), some (vi x3), some (vi u0)], [], pm_mm al D I L))) none) none) := by
  rcases two hb with rfl | rfl
  · exact sg_Sc_couples_19_73 ..
  · exact sg_Sc_couples_23_73 ..
theorem sgb_Sc_couples_98 {b : Nat} (hb : b < 2) (X : Nat × (Nat → Int32)) (d : Nat) (x1 x2 x3 : Int32) (o4 : Option pm_V) (al : List Nat) (D : Nat → Bool) (I : Nat → Nat → Int32) (L : Nat → Nat → Int64) : Rn X d co_Sc_couples (98, [some (vr (19 + 4 * b)), some (vi x1), some (vi x2), some (vi x3), o4], [], pm_mm al D I L) = Rn X d co_Sc_couples (16, [some (vr (19 + 4 * b)), some (vi x1), some (vi x2), some (vi (x3 + 1)), o4], [], pm_mm al D I L) := by
  rcases two hb with rfl | rfl
  · exact sg_Sc_couples_19_98 ..
  · exact sg_Sc_couples_23_98 ..
theorem sgb_Sc_worthLeft_0 {b : Nat} {s : Nat} (hb : b < 2) (hs : s < 2) (X : Nat × (Nat → Int32)) (d : Nat) (x2 : Int32) (o3 o4 : Option pm_V) (al : List Nat) (D : Nat → Bool) (I : Nat → Nat → Int32) (L : Nat → Nat → Int64) : Rn X d co_Sc_worthLeft (0, [some (vr (19 + 4 * s)), some (vr (9 + 5 * b)), some (vi x2), o3, o4], [], pm_mm al D I L) = Rn X d co_Sc_worthLeft (5, [some (vr (19 + 4 * s)), some (vr (9 + 5 * b)), some (vi x2), some (vi 0), some (vi 0)], [], pm_mm al D I L) := by
  rcases two hb with rfl | rfl <;> rcases two hs with rfl | rfl
  · exact sg_Sc_worthLeft_19_9_0 ..
  · exact sg_Sc_worthLeft_23_9_0 ..
  · exact sg_Sc_worthLeft_19_14_0 ..
  · exact sg_Sc_worthLeft_23_14_0 ..
theorem sgb_Sc_worthLeft_5 {b : Nat} {s : Nat} (hb : b < 2) (hs : s < 2) (X : Nat × (Nat → Int32)) (d : Nat) (x2 x3 x4 : Int32) (al : List Nat) (D : Nat → Bool) (I : Nat → Nat → Int32) (L : Nat → Nat → Int64) : Rn X d co_Sc_worthLeft (5, [some (vr (19 + 4 * s)), some (vr (9 + 5 * b)), some (vi x2), some (vi x3), some (vi x4)], [], pm_mm al D I L) = cond (decide ((I (19 + 4 * s) 0) ≤ x4)) (some (some (vi x3), pm_mm al D I L)) (cond (decide (((x2 >>> (x4 &&& 31)) &&& 1) = 0)) (cond (pm_in x4 8) (cond (decide ((I (9 + 5 * b) 4) ≤ (I (20 + 4 * s) x4.toNatClampNeg))) (Rn X d co_Sc_worthLeft (60, [some (vr (19 + 4 * s)), some (vr (9 + 5 * b)), some (vi x2), some (vi x3), some (vi x4)], [], pm_mm al D I L)) (cond (pm_in x4 8) (cond (pm_in (I (20 + 4 * s) x4.toNatClampNeg) 6) (cond (pm_in x4 8) (Rn X d co_Sc_worthLeft (60, [some (vr (19 + 4 * s)), some (vr (9 + 5 * b)), some (vi x2), some (vi (x3 + ((I (11 + 5 * b) ((I (20 + 4 * s) x4.toNatClampNeg).toNatClampNeg)) * (I (22 + 4 * s) x4.toNatClampNeg)))), some (vi x4)], [], pm_mm al D I L)) none) none) none)) none) (Rn X d co_Sc_worthLeft (60, [some (vr (19 + 4 * s)), some (vr (9 + 5 * b)), some (vi x2), some (vi x3), some (vi x4)], [], pm_mm al D I L))) := by
  rcases two hb with rfl | rfl <;> rcases two hs with rfl | rfl
  · exact sg_Sc_worthLeft_19_9_5 ..
  · exact sg_Sc_worthLeft_23_9_5 ..
  · exact sg_Sc_worthLeft_19_14_5 ..
  · exact sg_Sc_worthLeft_23_14_5 ..
theorem sgb_Sc_worthLeft_60 {b : Nat} {s : Nat} (hb : b < 2) (hs : s < 2) (X : Nat × (Nat → Int32)) (d : Nat) (x2 x3 x4 : Int32) (al : List Nat) (D : Nat → Bool) (I : Nat → Nat → Int32) (L : Nat → Nat → Int64) : Rn X d co_Sc_worthLeft (60, [some (vr (19 + 4 * s)), some (vr (9 + 5 * b)), some (vi x2), some (vi x3), some (vi x4)], [], pm_mm al D I L) = Rn X d co_Sc_worthLeft (5, [some (vr (19 + 4 * s)), some (vr (9 + 5 * b)), some (vi x2), some (vi x3), some (vi (x4 + 1))], [], pm_mm al D I L) := by
  rcases two hb with rfl | rfl <;> rcases two hs with rfl | rfl
  · exact sg_Sc_worthLeft_19_9_60 ..
  · exact sg_Sc_worthLeft_23_9_60 ..
  · exact sg_Sc_worthLeft_19_14_60 ..
  · exact sg_Sc_worthLeft_23_14_60 ..
theorem sgb_To_keep_0 {b : Nat} (hb : b < 2) (X : Nat × (Nat → Int32)) (d : Nat) (x2 : Int32) (al : List Nat) (D : Nat → Bool) (I : Nat → Nat → Int32) (L : Nat → Nat → Int64) : Rn X d co_To_keep (0, [some (vr 2), some (vr 34), some (vi x2), some (vi (Int32.ofNat b))], [], pm_mm al D I L) = cond (decide (x2 = 0)) (((Cl X d 9 [vr (9 + 5 * b), vr 35] (pm_mm al D I L)).bind pm_av).bind (fun r => Rn X d co_To_keep (41, [some (vr 2), some (vr 34), some (vi x2), some (vi (Int32.ofNat b))], [], r))) (cond (decide (x2 = 1)) (((Cl X d 78 [vr (19 + 4 * b), vr 40] (pm_mm al D I L)).bind pm_av).bind (fun r => Rn X d co_To_keep (57, [some (vr 2), some (vr 34), some (vi x2), some (vi (Int32.ofNat b))], [], r))) (cond (decide (x2 = 2)) (Rn X d co_To_keep (86, [some (vr 2), some (vr 34), some (vi x2), some (vi (Int32.ofNat b))], [], pm_mm al D (pm_up I 7 b (I 34 3)) L)) (((Cl X d 37 [vr (27 + 3 * b), vr 44] (pm_mm al D I L)).bind pm_av).bind (fun r => Rn X d co_To_keep (86, [some (vr 2), some (vr 34), some (vi x2), some (vi (Int32.ofNat b))], [], r))))) := by
  rcases two hb with rfl | rfl
  · exact sg_To_keep_2_34_0_0 ..
  · exact sg_To_keep_2_34_1_0 ..
theorem sgb_To_keep_41 {b : Nat} (hb : b < 2) (X : Nat × (Nat → Int32)) (d : Nat) (o1 : Option pm_V) (x2 : Int32) (al : List Nat) (D : Nat → Bool) (I : Nat → Nat → Int32) (L : Nat → Nat → Int64) : Rn X d co_To_keep (41, [some (vr 2), o1, some (vi x2), some (vi (Int32.ofNat b))], [], pm_mm al D I L) = Rn X d co_To_keep (86, [some (vr 2), o1, some (vi x2), some (vi (Int32.ofNat b))], [], pm_mm al D I L) := by
  rcases two hb with rfl | rfl
  · exact sg_To_keep_2_34_0_41 ..
  · exact sg_To_keep_2_34_1_41 ..
theorem sgb_To_keep_57 {b : Nat} (hb : b < 2) (X : Nat × (Nat → Int32)) (d : Nat) (o1 : Option pm_V) (x2 : Int32) (al : List Nat) (D : Nat → Bool) (I : Nat → Nat → Int32) (L : Nat → Nat → Int64) : Rn X d co_To_keep (57, [some (vr 2), o1, some (vi x2), some (vi (Int32.ofNat b))], [], pm_mm al D I L) = Rn X d co_To_keep (86, [some (vr 2), o1, some (vi x2), some (vi (Int32.ofNat b))], [], pm_mm al D I L) := by
  rcases two hb with rfl | rfl
  · exact sg_To_keep_2_34_0_57 ..
  · exact sg_To_keep_2_34_1_57 ..
theorem sgb_To_keep_86 {b : Nat} (hb : b < 2) (X : Nat × (Nat → Int32)) (d : Nat) (o1 : Option pm_V) (x2 : Int32) (al : List Nat) (D : Nat → Bool) (I : Nat → Nat → Int32) (L : Nat → Nat → Int64) : Rn X d co_To_keep (86, [some (vr 2), o1, some (vi x2), some (vi (Int32.ofNat b))], [], pm_mm al D I L) = cond (pm_in x2 4) (((Cl X d 4 [vi (I 4 x2.toNatClampNeg), vi ((Int32.ofNat b : Int32) + 1)] (pm_mm al D I L)).bind pm_ai).bind (fun r => Rn X d co_To_keep (103, [some (vr 2), o1, some (vi x2), some (vi (Int32.ofNat b))], [vi r.1, vi x2, vr 4], r.2))) none := by
  rcases two hb with rfl | rfl
  · exact sg_To_keep_2_34_0_86 ..
  · exact sg_To_keep_2_34_1_86 ..
theorem sgb_To_keep_103 (X : Nat × (Nat → Int32)) (d : Nat) (o0 o1 o2 o3 : Option pm_V) (u1 u2 : Int32) (al : List Nat) (D : Nat → Bool) (I : Nat → Nat → Int32) (L : Nat → Nat → Int64) : Rn X d co_To_keep (103, [o0, o1, o2, o3], [vi u2, vi u1, vr 4], pm_mm al D I L) = cond (pm_in u1 4) (some (none, pm_mm al D (pm_up I 4 u1.toNatClampNeg u2) L)) none :=
  sg_To_keep_2_34_0_103 ..
theorem sgb_To_copy_i_0 {k : Nat} (hk : k < 3) (X : Nat × (Nat → Int32)) (d : Nat) (o2 : Option pm_V) (al : List Nat) (D : Nat → Bool) (I : Nat → Nat → Int32) (L : Nat → Nat → Int64) : Rn X d co_To_copy (0, [some (vr 2), some (vr (120 + 31 * k)), o2], [], pm_mm al (pm_tb k D) I L) = Rn X d co_To_copy (56, [some (vr 2), some (vr (120 + 31 * k)), some (vi 0)], [], pm_mm al (pm_tb k D) (pm_ups (pm_up (pm_up (pm_up (pm_ups I 3 (va_cpy (I (121 + 31 * k)) (I 3) 0 0 600)) 2 1 (I (120 + 31 * k) 1)) 2 2 (I (120 + 31 * k) 2)) 2 3 (I (120 + 31 * k) 3)) 4 (va_cpy (I (122 + 31 * k)) (I 4) 0 0 4)) L) := by
  rcases three hk with rfl | rfl | rfl
  · exact sg_To_copy_2_120_0 ..
  · exact sg_To_copy_2_151_0 ..
  · exact sg_To_copy_2_182_0 ..
theorem sgb_To_copy_i_56 {k : Nat} (hk : k < 3) (X : Nat × (Nat → Int32)) (d : Nat) (x2 : Int32) (al : List Nat) (D : Nat → Bool) (I : Nat → Nat → Int32) (L : Nat → Nat → Int64) : Rn X d co_To_copy (56, [some (vr 2), some (vr (120 + 31 * k)), some (vi x2)], [], pm_mm al (pm_tb k D) I L) = cond (decide (2 ≤ x2)) (some (none, pm_mm al (pm_tb k D) I L)) (cond (pm_in x2 2) (cond (pm_in x2 2) (cond (pm_is (pm_mm al (pm_tb k D) I L) (pm_dM (pm_tb k D) 5 x2.toNatClampNeg) 10) (((Cl X d 9 [vr (pm_dM (pm_tb k D) 5 x2.toNatClampNeg), vr (pm_dM (pm_tb k D) (123 + 31 * k) x2.toNatClampNeg)] (pm_mm al (pm_tb k D) I L)).bind pm_av).bind (fun r => Rn X d co_To_copy (76, [some (vr 2), some (vr (120 + 31 * k)), some (vi x2)], [], r))) none) none) none) := by
  rcases three hk with rfl | rfl | rfl
  · exact sg_To_copy_2_120_56 ..
  · exact sg_To_copy_2_151_56 ..
  · exact sg_To_copy_2_182_56 ..
theorem sgb_To_copy_i_76 {k : Nat} (hk : k < 3) (X : Nat × (Nat → Int32)) (d : Nat) (x2 : Int32) (al : List Nat) (D : Nat → Bool) (I : Nat → Nat → Int32) (L : Nat → Nat → Int64) : Rn X d co_To_copy (76, [some (vr 2), some (vr (120 + 31 * k)), some (vi x2)], [], pm_mm al (pm_tb k D) I L) = cond (pm_in x2 2) (cond (pm_in x2 2) (cond (pm_is (pm_mm al (pm_tb k D) I L) (pm_dM (pm_tb k D) 6 x2.toNatClampNeg) 16) (((Cl X d 78 [vr (pm_dM (pm_tb k D) 6 x2.toNatClampNeg), vr (pm_dM (pm_tb k D) (124 + 31 * k) x2.toNatClampNeg)] (pm_mm al (pm_tb k D) I L)).bind pm_av).bind (fun r => Rn X d co_To_copy (91, [some (vr 2), some (vr (120 + 31 * k)), some (vi x2)], [], r))) none) none) none := by
  rcases three hk with rfl | rfl | rfl
  · exact sg_To_copy_2_120_76 ..
  · exact sg_To_copy_2_151_76 ..
  · exact sg_To_copy_2_182_76 ..
theorem sgb_To_copy_i_91 {k : Nat} (hk : k < 3) (X : Nat × (Nat → Int32)) (d : Nat) (x2 : Int32) (al : List Nat) (D : Nat → Bool) (I : Nat → Nat → Int32) (L : Nat → Nat → Int64) : Rn X d co_To_copy (91, [some (vr 2), some (vr (120 + 31 * k)), some (vi x2)], [], pm_mm al (pm_tb k D) I L) = cond (pm_in x2 2) (cond (pm_in x2 2) (cond (pm_in x2 2) (cond (pm_in x2 2) (cond (pm_is (pm_mm al (pm_tb k D) (pm_up I 7 x2.toNatClampNeg (I (125 + 31 * k) x2.toNatClampNeg)) L) (pm_dM (pm_tb k D) 8 x2.toNatClampNeg) 13) (((Cl X d 37 [vr (pm_dM (pm_tb k D) 8 x2.toNatClampNeg), vr (pm_dM (pm_tb k D) (126 + 31 * k) x2.toNatClampNeg)] (pm_mm al (pm_tb k D) (pm_up I 7 x2.toNatClampNeg (I (125 + 31 * k) x2.toNatClampNeg)) L)).bind pm_av).bind (fun r => Rn X d co_To_copy (118, [some (vr 2), some (vr (120 + 31 * k)), some (vi x2)], [], r))) none) none) none) none) none := by
  rcases three hk with rfl | rfl | rfl
  · exact sg_To_copy_2_120_91 ..
  · exact sg_To_copy_2_151_91 ..
  · exact sg_To_copy_2_182_91 ..
theorem sgb_To_copy_i_118 {k : Nat} (hk : k < 3) (X : Nat × (Nat → Int32)) (d : Nat) (x2 : Int32) (al : List Nat) (D : Nat → Bool) (I : Nat → Nat → Int32) (L : Nat → Nat → Int64) : Rn X d co_To_copy (118, [some (vr 2), some (vr (120 + 31 * k)), some (vi x2)], [], pm_mm al (pm_tb k D) I L) = Rn X d co_To_copy (56, [some (vr 2), some (vr (120 + 31 * k)), some (vi (x2 + 1))], [], pm_mm al (pm_tb k D) I L) := by
  rcases three hk with rfl | rfl | rfl
  · exact sg_To_copy_2_120_118 ..
  · exact sg_To_copy_2_151_118 ..
  · exact sg_To_copy_2_182_118 ..
theorem sgb_To_copy_o_0 {k : Nat} (hk : k < 3) (X : Nat × (Nat → Int32)) (d : Nat) (o2 : Option pm_V) (al : List Nat) (D : Nat → Bool) (I : Nat → Nat → Int32) (L : Nat → Nat → Int64) : Rn X d co_To_copy (0, [some (vr (120 + 31 * k)), some (vr 2), o2], [], pm_mm al (pm_tb k D) I L) = Rn X d co_To_copy (56, [some (vr (120 + 31 * k)), some (vr 2), some (vi 0)], [], pm_mm al (pm_tb k D) (pm_ups (pm_up (pm_up (pm_up (pm_ups I (121 + 31 * k) (va_cpy (I 3) (I (121 + 31 * k)) 0 0 600)) (120 + 31 * k) 1 (I 2 1)) (120 + 31 * k) 2 (I 2 2)) (120 + 31 * k) 3 (I 2 3)) (122 + 31 * k) (va_cpy (I 4) (I (122 + 31 * k)) 0 0 4)) L) := by
  rcases three hk with rfl | rfl | rfl
  · exact sg_To_copy_120_2_0 ..
  · exact sg_To_copy_151_2_0 ..
  · exact sg_To_copy_182_2_0 ..
theorem sgb_To_copy_o_56 {k : Nat} (hk : k < 3) (X : Nat × (Nat → Int32)) (d : Nat) (x2 : Int32) (al : List Nat) (D : Nat → Bool) (I : Nat → Nat → Int32) (L : Nat → Nat → Int64) : Rn X d co_To_copy (56, [some (vr (120 + 31 * k)), some (vr 2), some (vi x2)], [], pm_mm al (pm_tb k D) I L) = cond (decide (2 ≤ x2)) (some (none, pm_mm al (pm_tb k D) I L)) (cond (pm_in x2 2) (cond (pm_in x2 2) (cond (pm_is (pm_mm al (pm_tb k D) I L) (pm_dM (pm_tb k D) (123 + 31 * k) x2.toNatClampNeg) 10) (((Cl X d 9 [vr (pm_dM (pm_tb k D) (123 + 31 * k) x2.toNatClampNeg), vr (pm_dM (pm_tb k D) 5 x2.toNatClampNeg)] (pm_mm al (pm_tb k D) I L)).bind pm_av).bind (fun r => Rn X d co_To_copy (76, [some (vr (120 + 31 * k)), some (vr 2), some (vi x2)], [], r))) none) none) none) := by
  rcases three hk with rfl | rfl | rfl
  · exact sg_To_copy_120_2_56 ..
  · exact sg_To_copy_151_2_56 ..
  · exact sg_To_copy_182_2_56 ..
theorem sgb_To_copy_o_76 {k : Nat} (hk : k < 3) (X : Nat × (Nat → Int32)) (d : Nat) (x2 : Int32) (al : List Nat) (D : Nat → Bool) (I : Nat → Nat → Int32) (L : Nat → Nat → Int64) : Rn X d co_To_copy (76, [some (vr (120 + 31 * k)), some (vr 2), some (vi x2)], [], pm_mm al (pm_tb k D) I L) = cond (pm_in x2 2) (cond (pm_in x2 2) (cond (pm_is (pm_mm al (pm_tb k D) I L) (pm_dM (pm_tb k D) (124 + 31 * k) x2.toNatClampNeg) 16) (((Cl X d 78 [vr (pm_dM (pm_tb k D) (124 + 31 * k) x2.toNatClampNeg), vr (pm_dM (pm_tb k D) 6 x2.toNatClampNeg)] (pm_mm al (pm_tb k D) I L)).bind pm_av).bind (fun r => Rn X d co_To_copy (91, [some (vr (120 + 31 * k)), some (vr 2), some (vi x2)], [], r))) none) none) none := by
  rcases three hk with rfl | rfl | rfl
  · exact sg_To_copy_120_2_76 ..
  · exact sg_To_copy_151_2_76 ..
  · exact sg_To_copy_182_2_76 ..
theorem sgb_To_copy_o_91 {k : Nat} (hk : k < 3) (X : Nat × (Nat → Int32)) (d : Nat) (x2 : Int32) (al : List Nat) (D : Nat → Bool) (I : Nat → Nat → Int32) (L : Nat → Nat → Int64) : Rn X d co_To_copy (91, [some (vr (120 + 31 * k)), some (vr 2), some (vi x2)], [], pm_mm al (pm_tb k D) I L) = cond (pm_in x2 2) (cond (pm_in x2 2) (cond (pm_in x2 2) (cond (pm_in x2 2) (cond (pm_is (pm_mm al (pm_tb k D) (pm_up I (125 + 31 * k) x2.toNatClampNeg (I 7 x2.toNatClampNeg)) L) (pm_dM (pm_tb k D) (126 + 31 * k) x2.toNatClampNeg) 13) (((Cl X d 37 [vr (pm_dM (pm_tb k D) (126 + 31 * k) x2.toNatClampNeg), vr (pm_dM (pm_tb k D) 8 x2.toNatClampNeg)] (pm_mm al (pm_tb k D) (pm_up I (125 + 31 * k) x2.toNatClampNeg (I 7 x2.toNatClampNeg)) L)).bind pm_av).bind (fun r => Rn X d co_To_copy (118, [some (vr (120 + 31 * k)), some (vr 2), some (vi x2)], [], r))) none) none) none) none) none := by
  rcases three hk with rfl | rfl | rfl
  · exact sg_To_copy_120_2_91 ..
  · exact sg_To_copy_151_2_91 ..
  · exact sg_To_copy_182_2_91 ..
theorem sgb_To_copy_o_118 {k : Nat} (hk : k < 3) (X : Nat × (Nat → Int32)) (d : Nat) (x2 : Int32) (al : List Nat) (D : Nat → Bool) (I : Nat → Nat → Int32) (L : Nat → Nat → Int64) : Rn X d co_To_copy (118, [some (vr (120 + 31 * k)), some (vr 2), some (vi x2)], [], pm_mm al (pm_tb k D) I L) = Rn X d co_To_copy (56, [some (vr (120 + 31 * k)), some (vr 2), some (vi (x2 + 1))], [], pm_mm al (pm_tb k D) I L) := by
  rcases three hk with rfl | rfl | rfl
  · exact sg_To_copy_120_2_118 ..
  · exact sg_To_copy_151_2_118 ..
  · exact sg_To_copy_182_2_118 ..
theorem sgb_He_take_0 {b : Nat} (hb : b < 2) (X : Nat × (Nat → Int32)) (d : Nat) (o2 o3 o4 o5 o6 : Option pm_V) (al : List Nat) (D : Nat → Bool) (I : Nat → Nat → Int32) (L : Nat → Nat → Int64) : Rn X d co_He_take (0, [some (vr 76), some (vr (27 + 3 * b)), o2, o3, o4, o5, o6], [], pm_mm al D I L) = Rn X d co_He_take (17, [some (vr 76), some (vr (27 + 3 * b)), some (vi 0), o3, o4, o5, o6], [], pm_mm al D (pm_up I 76 2 0) (pm_up (pm_up L 76 0 0) 76 1 0)) := by
  rcases two hb with rfl | rfl
  · exact sg_He_take_27_0 ..
  · exact sg_He_take_30_0 ..
theorem sgb_He_take_17 {b : Nat} (hb : b < 2) (X : Nat × (Nat → Int32)) (d : Nat) (x2 : Int32) (o3 o4 o5 o6 : Option pm_V) (al : List Nat) (D : Nat → Bool) (I : Nat → Nat → Int32) (L : Nat → Nat → Int64) : Rn X d co_He_take (17, [some (vr 76), some (vr (27 + 3 * b)), some (vi x2), o3, o4, o5, o6], [], pm_mm al D I L) = cond (decide ((I (27 + 3 * b) 0) ≤ x2)) (some (none, pm_mm al D I L)) (cond (pm_in x2 8) (((Cl X d 104 [vi 7, vi (I (28 + 3 * b) x2.toNatClampNeg)] (pm_mm al D I L)).bind pm_al).bind (fun r => Rn X d co_He_take (36, [some (vr 76), some (vr (27 + 3 * b)), some (vi x2), o3, o4, o5, o6], [vl r.1], r.2))) none) := by
  rcases two hb with rfl | rfl
  · exact sg_He_take_27_17 ..
  · exact sg_He_take_30_17 ..
theorem sgb_He_take_36 {b : Nat} (hb : b < 2) (X : Nat × (Nat → Int32)) (d : Nat) (x2 : Int32) (o3 o4 o5 o6 : Option pm_V) (w0 : Int64) (al : List Nat) (D : Nat → Bool) (I : Nat → Nat → Int32) (L : Nat → Nat → Int64) : Rn X d co_He_take (36, [some (vr 76), some (vr (27 + 3 * b)), some (vi x2), o3, o4, o5, o6], [vl w0], pm_mm al D I L) = cond (pm_in x2 8) (cond (pm_in x2 8) (((Cl X d 104 [vi (I (29 + 3 * b) x2.toNatClampNeg), vi (I (28 + 3 * b) x2.toNatClampNeg)] (pm_mm al D I L)).bind pm_al).bind (fun r => Rn X d co_He_take (52, [some (vr 76), some (vr (27 + 3 * b)), some (vi x2), some (vl w0), none, o5, o6], [vl r.1], r.2))) none) none := by
  rcases two hb with rfl | rfl
  · exact sg_He_take_27_36 ..
  · exact sg_He_take_30_36 ..
theorem sgb_He_take_52 {b : Nat} (hb : b < 2) (X : Nat × (Nat → Int32)) (d : Nat) (x2 : Int32) (y3 : Int64) (o5 o6 : Option pm_V) (w0 : Int64) (al : List Nat) (D : Nat → Bool) (I : Nat → Nat → Int32) (L : Nat → Nat → Int64) : Rn X d co_He_take (52, [some (vr 76), some (vr (27 + 3 * b)), some (vi x2), some (vl y3), none, o5, o6], [vl w0], pm_mm al D I L) = cond (decide ((lg_cmp ((L 76 0) &&& y3) 0) = 0)) (Rn X d co_He_take (82, [some (vr 76), some (vr (27 + 3 * b)), some (vi x2), some (vl y3), none, some (vl w0), none], [], pm_mm al D I L)) (cond (decide ((lg_cmp ((L 76 1) &&& y3) w0) = 0)) (Rn X d co_He_take (82, [some (vr 76), some (vr (27 + 3 * b)), some (vi x2), some (vl y3), none, some (vl w0), none], [], pm_mm al D I L)) (Rn X d co_He_take (82, [some (vr 76), some (vr (27 + 3 * b)), some (vi x2), some (vl y3), none, some (vl w0), none], [], pm_mm al D (pm_up I 76 2 1) L))) := by
  rcases two hb with rfl | rfl
  · exact sg_He_take_27_52 ..
  · exact sg_He_take_30_52 ..
theorem sgb_He_take_82 {b : Nat} (hb : b < 2) (X : Nat × (Nat → Int32)) (d : Nat) (x2 : Int32) (y3 y5 : Int64) (al : List Nat) (D : Nat → Bool) (I : Nat → Nat → Int32) (L : Nat → Nat → Int64) : Rn X d co_He_take (82, [some (vr 76), some (vr (27 + 3 * b)), some (vi x2), some (vl y3), none, some (vl y5), none], [], pm_mm al D I L) = Rn X d co_He_take (17, [some (vr 76), some (vr (27 + 3 * b)), some (vi (x2 + 1)), some (vl y3), none, some (vl y5), none], [], pm_mm al D I (pm_up (pm_up L 76 0 ((L 76 0) ||| y3)) 76 1 ((L 76 1) ||| y5))) := by
  rcases two hb with rfl | rfl
  · exact sg_He_take_27_82 ..
  · exact sg_He_take_30_82 ..
theorem sgb_He_ways_0 {b : Nat} (hb : b < 4) (X : Nat × (Nat → Int32)) (d : Nat) (o2 o3 : Option pm_V) (al : List Nat) (D : Nat → Bool) (I : Nat → Nat → Int32) (L : Nat → Nat → Int64) : Rn X d co_He_ways (0, [some (vr 76), some (vr (221 + 3 * b)), o2, o3], [], pm_mm al (pm_tb (3 + b) D) I L) = Rn X d co_He_ways (4, [some (vr 76), some (vr (221 + 3 * b)), some (vi 0), some (vi 0)], [], pm_mm al (pm_tb (3 + b) D) I L) := by
  rcases four hb with rfl | rfl | rfl | rfl
  · exact sg_He_ways_221_0 ..
  · exact sg_He_ways_224_0 ..
  · exact sg_He_ways_227_0 ..
  · exact sg_He_ways_230_0 ..
theorem sgb_He_ways_4 {b : Nat} (hb : b < 4) (X : Nat × (Nat → Int32)) (d : Nat) (x2 x3 : Int32) (al : List Nat) (D : Nat → Bool) (I : Nat → Nat → Int32) (L : Nat → Nat → Int64) : Rn X d co_He_ways (4, [some (vr 76), some (vr (221 + 3 * b)), some (vi x2), some (vi x3)], [], pm_mm al (pm_tb (3 + b) D) I L) = cond (decide (4096 ≤ x3)) (some (some (vi x2), pm_mm al (pm_tb (3 + b) D) I L)) (cond (pm_in x3 4096) (((Cl X d 21 [vr 76, vl (L (221 + 3 * b) x3.toNatClampNeg)] (pm_mm al (pm_tb (3 + b) D) I L)).bind pm_ai).bind (fun r => Rn X d co_He_ways (17, [some (vr 76), some (vr (221 + 3 * b)), some (vi x2), some (vi x3)], [vi r.1], r.2))) none) := by
  rcases four hb with rfl | rfl | rfl | rfl
  · exact sg_He_ways_221_4 ..
  · exact sg_He_ways_224_4 ..
  · exact sg_He_ways_227_4 ..
  · exact sg_He_ways_230_4 ..
theorem sgb_He_ways_17 {b : Nat} (hb : b < 4) (X : Nat × (Nat → Int32)) (d : Nat) (x2 x3 u0 : Int32) (al : List Nat) (D : Nat → Bool) (I : Nat → Nat → Int32) (L : Nat → Nat → Int64) : Rn X d co_He_ways (17, [some (vr 76), some (vr (221 + 3 * b)), some (vi x2), some (vi x3)], [vi u0], pm_mm al (pm_tb (3 + b) D) I L) = cond (decide (u0 = 0)) (Rn X d co_He_ways (23, [some (vr 76), some (vr (221 + 3 * b)), some (vi x2), some (vi x3)], [], pm_mm al (pm_tb (3 + b) D) I L)) (Rn X d co_He_ways (23, [some (vr 76), some (vr (221 + 3 * b)), some (vi (x2 + 1)), some (vi x3)], [], pm_mm al (pm_tb (3 + b) D) I L)) := by
  rcases four hb with rfl | rfl | rfl | rfl
  · exact sg_He_ways_221_17 ..
  · exact sg_He_ways_224_17 ..
  · exact sg_He_ways_227_17 ..
  · exact sg_He_ways_230_17 ..
theorem sgb_He_ways_23 {b : Nat} (hb : b < 4) (X : Nat × (Nat → Int32)) (d : Nat) (x2 x3 : Int32) (al : List Nat) (D : Nat → Bool) (I : Nat → Nat → Int32) (L : Nat → Nat → Int64) : Rn X d co_He_ways (23, [some (vr 76), some (vr (221 + 3 * b)), some (vi x2), some (vi x3)], [], pm_mm al (pm_tb (3 + b) D) I L) = Rn X d co_He_ways (4, [some (vr 76), some (vr (221 + 3 * b)), some (vi x2), some (vi (x3 + 1))], [], pm_mm al (pm_tb (3 + b) D) I L) := by
  rcases four hb with rfl | rfl | rfl | rfl
  · exact sg_He_ways_221_23 ..
  · exact sg_He_ways_224_23 ..
  · exact sg_He_ways_227_23 ..
  · exact sg_He_ways_230_23 ..
theorem sgb_He_waysOn_0 {b : Nat} (hb : b < 4) (X : Nat × (Nat → Int32)) (d : Nat) (x2 : Int32) (o3 o4 : Option pm_V) (al : List Nat) (D : Nat → Bool) (I : Nat → Nat → Int32) (L : Nat → Nat → Int64) : Rn X d co_He_waysOn (0, [some (vr 76), some (vr (221 + 3 * b)), some (vi x2), o3, o4], [], pm_mm al (pm_tb (3 + b) D) I L) = Rn X d co_He_waysOn (5, [some (vr 76), some (vr (221 + 3 * b)), some (vi x2), some (vi 0), some (vi 0)], [], pm_mm al (pm_tb (3 + b) D) I L) := by
  rcases four hb with rfl | rfl | rfl | rfl
  · exact sg_He_waysOn_221_0 ..
  · exact sg_He_waysOn_224_0 ..
  · exact sg_He_waysOn_227_0 ..
  · exact sg_He_waysOn_230_0 ..
theorem sgb_He_waysOn_5 {b : Nat} (hb : b < 4) (X : Nat × (Nat → Int32)) (d : Nat) (x2 x3 x4 : Int32) (al : List Nat) (D : Nat → Bool) (I : Nat → Nat → Int32) (L : Nat → Nat → Int64) : Rn X d co_He_waysOn (5, [some (vr 76), some (vr (221 + 3 * b)), some (vi x2), some (vi x3), some (vi x4)], [], pm_mm al (pm_tb (3 + b) D) I L) = cond (decide (4096 ≤ x4)) (some (some (vi x3), pm_mm al (pm_tb (3 + b) D) I L)) (cond (decide (((x4 >>> (x2 &&& 31)) &&& 1) = 0)) (Rn X d co_He_waysOn (35, [some (vr 76), some (vr (221 + 3 * b)), some (vi x2), some (vi x3), some (vi x4)], [], pm_mm al (pm_tb (3 + b) D) I L)) (cond (pm_in x4 4096) (((Cl X d 21 [vr 76, vl (L (221 + 3 * b) x4.toNatClampNeg)] (pm_mm al (pm_tb (3 + b) D) I L)).bind pm_ai).bind (fun r => Rn X d co_He_waysOn (29, [some (vr 76), some (vr (221 + 3 * b)), some (vi x2), some (vi x3), some (vi x4)], [vi r.1], r.2))) none)) := by
  rcases four hb with rfl | rfl | rfl | rfl
  · exact sg_He_waysOn_221_5 ..
  · exact sg_He_waysOn_224_5 ..
  · exact sg_He_waysOn_227_5 ..
  · exact sg_He_waysOn_230_5 ..
theorem sgb_He_waysOn_29 {b : Nat} (hb : b < 4) (X : Nat × (Nat → Int32)) (d : Nat) (x2 x3 x4 u0 : Int32) (al : List Nat) (D : Nat → Bool) (I : Nat → Nat → Int32) (L : Nat → Nat → Int64) : Rn X d co_He_waysOn (29, [some (vr 76), some (vr (221 + 3 * b)), some (vi x2), some (vi x3), some (vi x4)], [vi u0], pm_mm al (pm_tb (3 + b) D) I L) = cond (decide (u0 = 0)) (Rn X d co_He_waysOn (35, [some (vr 76), some (vr (221 + 3 * b)), some (vi x2), some (vi x3), some (vi x4)], [], pm_mm al (pm_tb (3 + b) D) I L)) (Rn X d co_He_waysOn (35, [some (vr 76), some (vr (221 + 3 * b)), some (vi x2), some (vi (x3 + 1)), some (vi x4)], [], pm_mm al (pm_tb (3 + b) D) I L)) := by
  rcases four hb with rfl | rfl | rfl | rfl
  · exact sg_He_waysOn_221_29 ..
  · exact sg_He_waysOn_224_29 ..
  · exact sg_He_waysOn_227_29 ..
  · exact sg_He_waysOn_230_29 ..
theorem sgb_He_waysOn_35 {b : Nat} (hb : b < 4) (X : Nat × (Nat → Int32)) (d : Nat) (x2 x3 x4 : Int32) (al : List Nat) (D : Nat → Bool) (I : Nat → Nat → Int32) (L : Nat → Nat → Int64) : Rn X d co_He_waysOn (35, [some (vr 76), some (vr (221 + 3 * b)), some (vi x2), some (vi x3), some (vi x4)], [], pm_mm al (pm_tb (3 + b) D) I L) = Rn X d co_He_waysOn (5, [some (vr 76), some (vr (221 + 3 * b)), some (vi x2), some (vi x3), some (vi (x4 + 1))], [], pm_mm al (pm_tb (3 + b) D) I L) := by
  rcases four hb with rfl | rfl | rfl | rfl
  · exact sg_He_waysOn_221_35 ..
  · exact sg_He_waysOn_224_35 ..
  · exact sg_He_waysOn_227_35 ..
  · exact sg_He_waysOn_230_35 ..
theorem sgb_He_wayAt_0 {b : Nat} (hb : b < 4) (X : Nat × (Nat → Int32)) (d : Nat) (x2 : Int32) (o3 o4 : Option pm_V) (al : List Nat) (D : Nat → Bool) (I : Nat → Nat → Int32) (L : Nat → Nat → Int64) : Rn X d co_He_wayAt (0, [some (vr 76), some (vr (221 + 3 * b)), some (vi x2), o3, o4], [], pm_mm al (pm_tb (3 + b) D) I L) = Rn X d co_He_wayAt (5, [some (vr 76), some (vr (221 + 3 * b)), some (vi x2), some (vi x2), some (vi 0)], [], pm_mm al (pm_tb (3 + b) D) I L) := by
  rcases four hb with rfl | rfl | rfl | rfl
  · exact sg_He_wayAt_221_0 ..
  · exact sg_He_wayAt_224_0 ..
  · exact sg_He_wayAt_227_0 ..
  · exact sg_He_wayAt_230_0 ..
theorem sgb_He_wayAt_5 {b : Nat} (hb : b < 4) (X : Nat × (Nat → Int32)) (d : Nat) (o2 : Option pm_V) (x3 x4 : Int32) (al : List Nat) (D : Nat → Bool) (I : Nat → Nat → Int32) (L : Nat → Nat → Int64) : Rn X d co_He_wayAt (5, [some (vr 76), some (vr (221 + 3 * b)), o2, some (vi x3), some (vi x4)], [], pm_mm al (pm_tb (3 + b) D) I L) = cond (decide (4096 ≤ x4)) (some (some (vi (-2)), pm_mm al (pm_tb (3 + b) D) I L)) (cond (pm_in x4 4096) (((Cl X d 21 [vr 76, vl (L (221 + 3 * b) x4.toNatClampNeg)] (pm_mm al (pm_tb (3 + b) D) I L)).bind pm_ai).bind (fun r => Rn X d co_He_wayAt (20, [some (vr 76), some (vr (221 + 3 * b)), o2, some (vi x3), some (vi x4)], [vi r.1], r.2))) none) := by
  rcases four hb with rfl | rfl | rfl | rfl
  · exact sg_He_wayAt_221_5 ..
  · exact sg_He_wayAt_224_5 ..
  · exact sg_He_wayAt_227_5 ..
  · exact sg_He_wayAt_230_5 ..
theorem sgb_He_wayAt_20 {b : Nat} (hb : b < 4) (X : Nat × (Nat → Int32)) (d : Nat) (o2 : Option pm_V) (x3 x4 u0 : Int32) (al : List Nat) (D : Nat → Bool) (I : Nat → Nat → Int32) (L : Nat → Nat → Int64) : Rn X d co_He_wayAt (20, [some (vr 76), some (vr (221 + 3 * b)), o2, some (vi x3), some (vi x4)], [vi u0], pm_mm al (pm_tb (3 + b) D) I L) = cond (decide (u0 = 0)) (Rn X d co_He_wayAt (33, [some (vr 76), some (vr (221 + 3 * b)), o2, some (vi x3), some (vi x4)], [], pm_mm al (pm_tb (3 + b) D) I L)) (cond (decide (x3 = 0)) (some (some (vi x4), pm_mm al (pm_tb (3 + b) D) I L)) (Rn X d co_He_wayAt (33, [some (vr 76), some (vr (221 + 3 * b)), (pm_nl o2), some (vi (x3 + (-1))), some (vi x4)], [], pm_mm al (pm_tb (3 + b) D) I L))) := by
  rcases four hb with rfl | rfl | rfl | rfl
  · exact sg_He_wayAt_221_20 ..
  · exact sg_He_wayAt_224_20 ..
  · exact sg_He_wayAt_227_20 ..
  · exact sg_He_wayAt_230_20 ..
theorem sgb_He_wayAt_33 {b : Nat} (hb : b < 4) (X : Nat × (Nat → Int32)) (d : Nat) (o2 : Option pm_V) (x3 x4 : Int32) (al : List Nat) (D : Nat → Bool) (I : Nat → Nat → Int32) (L : Nat → Nat → Int64) : Rn X d co_He_wayAt (33, [some (vr 76), some (vr (221 + 3 * b)), o2, some (vi x3), some (vi x4)], [], pm_mm al (pm_tb (3 + b) D) I L) = Rn X d co_He_wayAt (5, [some (vr 76), some (vr (221 + 3 * b)), o2, some (vi x3), some (vi (x4 + 1))], [], pm_mm al (pm_tb (3 + b) D) I L) := by
  rcases four hb with rfl | rfl | rfl | rfl
  · exact sg_He_wayAt_221_33 ..
  · exact sg_He_wayAt_224_33 ..
  · exact sg_He_wayAt_227_33 ..
  · exact sg_He_wayAt_230_33 ..
theorem sgb_He_sure_0 {b : Nat} (hb : b < 4) (X : Nat × (Nat → Int32)) (d : Nat) (o2 o3 : Option pm_V) (al : List Nat) (D : Nat → Bool) (I : Nat → Nat → Int32) (L : Nat → Nat → Int64) : Rn X d co_He_sure (0, [some (vr 76), some (vr (221 + 3 * b)), o2, o3], [], pm_mm al (pm_tb (3 + b) D) I L) = Rn X d co_He_sure (4, [some (vr 76), some (vr (221 + 3 * b)), some (vi (-1)), some (vi 0)], [], pm_mm al (pm_tb (3 + b) D) I L) := by
  rcases four hb with rfl | rfl | rfl | rfl
  · exact sg_He_sure_221_0 ..
  · exact sg_He_sure_224_0 ..
  · exact sg_He_sure_227_0 ..
  · exact sg_He_sure_230_0 ..
theorem sgb_He_sure_4 {b : Nat} (hb : b < 4) (X : Nat × (Nat → Int32)) (d : Nat) (x2 x3 : Int32) (al : List Nat) (D : Nat → Bool) (I : Nat → Nat → Int32) (L : Nat → Nat → Int64) : Rn X d co_He_sure (4, [some (vr 76), some (vr (221 + 3 * b)), some (vi x2), some (vi x3)], [], pm_mm al (pm_tb (3 + b) D) I L) = cond (decide (4096 ≤ x3)) (some (some (vi x2), pm_mm al (pm_tb (3 + b) D) I L)) (cond (pm_in x3 4096) (((Cl X d 21 [vr 76, vl (L (221 + 3 * b) x3.toNatClampNeg)] (pm_mm al (pm_tb (3 + b) D) I L)).bind pm_ai).bind (fun r => Rn X d co_He_sure (17, [some (vr 76), some (vr (221 + 3 * b)), some (vi x2), some (vi x3)], [vi r.1], r.2))) none) := by
  rcases four hb with rfl | rfl | rfl | rfl
  · exact sg_He_sure_221_4 ..
  · exact sg_He_sure_224_4 ..
  · exact sg_He_sure_227_4 ..
  · exact sg_He_sure_230_4 ..
theorem sgb_He_sure_17 {b : Nat} (hb : b < 4) (X : Nat × (Nat → Int32)) (d : Nat) (x2 x3 u0 : Int32) (al : List Nat) (D : Nat → Bool) (I : Nat → Nat → Int32) (L : Nat → Nat → Int64) : Rn X d co_He_sure (17, [some (vr 76), some (vr (221 + 3 * b)), some (vi x2), some (vi x3)], [vi u0], pm_mm al (pm_tb (3 + b) D) I L) = cond (decide (u0 = 0)) (Rn X d co_He_sure (24, [some (vr 76), some (vr (221 + 3 * b)), some (vi x2), some (vi x3)], [], pm_mm al (pm_tb (3 + b) D) I L)) (Rn X d co_He_sure (24, [some (vr 76), some (vr (221 + 3 * b)), some (vi (x2 &&& x3)), some (vi x3)], [], pm_mm al (pm_tb (3 + b) D) I L)) := by
  rcases four hb with rfl | rfl | rfl | rfl
  · exact sg_He_sure_221_17 ..
  · exact sg_He_sure_224_17 ..
  · exact sg_He_sure_227_17 ..
  · exact sg_He_sure_230_17 ..
theorem sgb_He_sure_24 {b : Nat} (hb : b < 4) (X : Nat × (Nat → Int32)) (d : Nat) (x2 x3 : Int32) (al : List Nat) (D : Nat → Bool) (I : Nat → Nat → Int32) (L : Nat → Nat → Int64) : Rn X d co_He_sure (24, [some (vr 76), some (vr (221 + 3 * b)), some (vi x2), some (vi x3)], [], pm_mm al (pm_tb (3 + b) D) I L) = Rn X d co_He_sure (4, [some (vr 76), some (vr (221 + 3 * b)), some (vi x2), some (vi (x3 + 1))], [], pm_mm al (pm_tb (3 + b) D) I L) := by
  rcases four hb with rfl | rfl | rfl | rfl
  · exact sg_He_sure_221_24 ..
  · exact sg_He_sure_224_24 ..
  · exact sg_He_sure_227_24 ..
  · exact sg_He_sure_230_24 ..
theorem sgb_He_fewestTrodden_0 {b : Nat} (hb : b < 4) (X : Nat × (Nat → Int32)) (d : Nat) (o2 o3 : Option pm_V) (al : List Nat) (D : Nat → Bool) (I : Nat → Nat → Int32) (L : Nat → Nat → Int64) : Rn X d co_He_fewestTrodden (0, [some (vr 76), some (vr (221 + 3 * b)), o2, o3], [], pm_mm al (pm_tb (3 + b) D) I L) = Rn X d co_He_fewestTrodden (4, [some (vr 76), some (vr (221 + 3 * b)), some (vi (-1)), some (vi 0)], [], pm_mm al (pm_tb (3 + b) D) I L) := by
  rcases four hb with rfl | rfl | rfl | rfl
  · exact sg_He_fewestTrodden_221_0 ..
  · exact sg_He_fewestTrodden_224_0 ..
  · exact sg_He_fewestTrodden_227_0 ..
  · exact sg_He_fewestTrodden_230_0 ..
theorem sgb_He_fewestTrodden_4 {b : Nat} (hb : b < 4) (X : Nat × (Nat → Int32)) (d : Nat) (x2 x3 : Int32) (al : List Nat) (D : Nat → Bool) (I : Nat → Nat → Int32) (L : Nat → Nat → Int64) : Rn X d co_He_fewestTrodden (4, [some (vr 76), some (vr (221 + 3 * b)), some (vi x2), some (vi x3)], [], pm_mm al (pm_tb (3 + b) D) I L) = cond (decide (4096 ≤ x3)) (some (some (vi x2), pm_mm al (pm_tb (3 + b) D) I L)) (cond (pm_in x3 4096) (((Cl X d 21 [vr 76, vl (L (221 + 3 * b) x3.toNatClampNeg)] (pm_mm al (pm_tb (3 + b) D) I L)).bind pm_ai).bind (fun r => Rn X d co_He_fewestTrodden (17, [some (vr 76), some (vr (221 + 3 * b)), some (vi x2), some (vi x3)], [vi r.1], r.2))) none) := by
  rcases four hb with rfl | rfl | rfl | rfl
  · exact sg_He_fewestTrodden_221_4 ..
  · exact sg_He_fewestTrodden_224_4 ..
  · exact sg_He_fewestTrodden_227_4 ..
  · exact sg_He_fewestTrodden_230_4 ..
theorem sgb_He_fewestTrodden_17 {b : Nat} (hb : b < 4) (X : Nat × (Nat → Int32)) (d : Nat) (x2 x3 u0 : Int32) (al : List Nat) (D : Nat → Bool) (I : Nat → Nat → Int32) (L : Nat → Nat → Int64) : Rn X d co_He_fewestTrodden (17, [some (vr 76), some (vr (221 + 3 * b)), some (vi x2), some (vi x3)], [vi u0], pm_mm al (pm_tb (3 + b) D) I L) = cond (decide (u0 = 0)) (Rn X d co_He_fewestTrodden (38, [some (vr 76), some (vr (221 + 3 * b)), some (vi x2), some (vi x3)], [], pm_mm al (pm_tb (3 + b) D) I L)) (cond (decide (x2 = (-1))) (Rn X d co_He_fewestTrodden (33, [some (vr 76), some (vr (221 + 3 * b)), some (vi x2), some (vi x3)], [], pm_mm al (pm_tb (3 + b) D) I L)) (((Cl X d 1 [vi x3] (pm_mm al (pm_tb (3 + b) D) I L)).bind pm_ai).bind (fun r => Rn X d co_He_fewestTrodden (29, [some (vr 76), some (vr (221 + 3 * b)), some (vi x2), some (vi x3)], [vi r.1], r.2)))) := by
  rcases four hb with rfl | rfl | rfl | rfl
  · exact sg_He_fewestTrodden_221_17 ..
  · exact sg_He_fewestTrodden_224_17 ..
  · exact sg_He_fewestTrodden_227_17 ..
  · exact sg_He_fewestTrodden_230_17 ..
theorem sgb_He_fewestTrodden_29 {b : Nat} (hb : b < 4) (X : Nat × (Nat → Int32)) (d : Nat) (x2 x3 u0 : Int32) (al : List Nat) (D : Nat → Bool) (I : Nat → Nat → Int32) (L : Nat → Nat → Int64) : Rn X d co_He_fewestTrodden (29, [some (vr 76), some (vr (221 + 3 * b)), some (vi x2), some (vi x3)], [vi u0], pm_mm al (pm_tb (3 + b) D) I L) = cond (decide (x2 ≤ u0)) (Rn X d co_He_fewestTrodden (38, [some (vr 76), some (vr (221 + 3 * b)), some (vi x2), some (vi x3)], [], pm_mm al (pm_tb (3 + b) D) I L)) (Rn X d co_He_fewestTrodden (33, [some (vr 76), some (vr (221 + 3 * b)), some (vi x2), some (vi x3)], [], pm_mm al (pm_tb (3 + b) D) I L)) := by
  rcases four hb with rfl | rfl | rfl | rfl
  · exact sg_He_fewestTrodden_221_29 ..
  · exact sg_He_fewestTrodden_224_29 ..
  · exact sg_He_fewestTrodden_227_29 ..
  · exact sg_He_fewestTrodden_230_29 ..
theorem sgb_He_fewestTrodden_33 {b : Nat} (hb : b < 4) (X : Nat × (Nat → Int32)) (d : Nat) (o2 : Option pm_V) (x3 : Int32) (al : List Nat) (D : Nat → Bool) (I : Nat → Nat → Int32) (L : Nat → Nat → Int64) : Rn X d co_He_fewestTrodden (33, [some (vr 76), some (vr (221 + 3 * b)), o2, some (vi x3)], [], pm_mm al (pm_tb (3 + b) D) I L) = ((Cl X d 1 [vi x3] (pm_mm al (pm_tb (3 + b) D) I L)).bind pm_ai).bind (fun r => Rn X d co_He_fewestTrodden (37, [some (vr 76), some (vr (221 + 3 * b)), o2, some (vi x3)], [vi r.1], r.2)) := by
  rcases four hb with rfl | rfl | rfl | rfl
  · exact sg_He_fewestTrodden_221_33 ..
  · exact sg_He_fewestTrodden_224_33 ..
  · exact sg_He_fewestTrodden_227_33 ..
  · exact sg_He_fewestTrodden_230_33 ..
theorem sgb_He_fewestTrodden_37 {b : Nat} (hb : b < 4) (X : Nat × (Nat → Int32)) (d : Nat) (o2 : Option pm_V) (x3 u0 : Int32) (al : List Nat) (D : Nat → Bool) (I : Nat → Nat → Int32) (L : Nat → Nat → Int64) : Rn X d co_He_fewestTrodden (37, [some (vr 76), some (vr (221 + 3 * b)), o2, some (vi x3)], [vi u0], pm_mm al (pm_tb (3 + b) D) I L) = Rn X d co_He_fewestTrodden (38, [some (vr 76), some (vr (221 + 3 * b)), some (vi u0), some (vi x3)], [], pm_mm al (pm_tb (3 + b) D) I L) := by
  rcases four hb with rfl | rfl | rfl | rfl
  · exact sg_He_fewestTrodden_221_37 ..
  · exact sg_He_fewestTrodden_224_37 ..
  · exact sg_He_fewestTrodden_227_37 ..
  · exact sg_He_fewestTrodden_230_37 ..
theorem sgb_He_fewestTrodden_38 {b : Nat} (hb : b < 4) (X : Nat × (Nat → Int32)) (d : Nat) (x2 x3 : Int32) (al : List Nat) (D : Nat → Bool) (I : Nat → Nat → Int32) (L : Nat → Nat → Int64) : Rn X d co_He_fewestTrodden (38, [some (vr 76), some (vr (221 + 3 * b)), some (vi x2), some (vi x3)], [], pm_mm al (pm_tb (3 + b) D) I L) = Rn X d co_He_fewestTrodden (4, [some (vr 76), some (vr (221 + 3 * b)), some (vi x2), some (vi (x3 + 1))], [], pm_mm al (pm_tb (3 + b) D) I L) := by
  rcases four hb with rfl | rfl | rfl | rfl
  · exact sg_He_fewestTrodden_221_38 ..
  · exact sg_He_fewestTrodden_224_38 ..
  · exact sg_He_fewestTrodden_227_38 ..
  · exact sg_He_fewestTrodden_230_38 ..
theorem sgb_He_mostTrodden_0 {b : Nat} (hb : b < 4) (X : Nat × (Nat → Int32)) (d : Nat) (o2 o3 : Option pm_V) (al : List Nat) (D : Nat → Bool) (I : Nat → Nat → Int32) (L : Nat → Nat → Int64) : Rn X d co_He_mostTrodden (0, [some (vr 76), some (vr (221 + 3 * b)), o2, o3], [], pm_mm al (pm_tb (3 + b) D) I L) = Rn X d co_He_mostTrodden (4, [some (vr 76), some (vr (221 + 3 * b)), some (vi (-1)), some (vi 0)], [], pm_mm al (pm_tb (3 + b) D) I L) := by
  rcases four hb with rfl | rfl | rfl | rfl
  · exact sg_He_mostTrodden_221_0 ..
  · exact sg_He_mostTrodden_224_0 ..
  · exact sg_He_mostTrodden_227_0 ..
  · exact sg_He_mostTrodden_230_0 ..
theorem sgb_He_mostTrodden_4 {b : Nat} (hb : b < 4) (X : Nat × (Nat → Int32)) (d : Nat) (x2 x3 : Int32) (al : List Nat) (D : Nat → Bool) (I : Nat → Nat → Int32) (L : Nat → Nat → Int64) : Rn X d co_He_mostTrodden (4, [some (vr 76), some (vr (221 + 3 * b)), some (vi x2), some (vi x3)], [], pm_mm al (pm_tb (3 + b) D) I L) = cond (decide (4096 ≤ x3)) (some (some (vi x2), pm_mm al (pm_tb (3 + b) D) I L)) (cond (pm_in x3 4096) (((Cl X d 21 [vr 76, vl (L (221 + 3 * b) x3.toNatClampNeg)] (pm_mm al (pm_tb (3 + b) D) I L)).bind pm_ai).bind (fun r => Rn X d co_He_mostTrodden (17, [some (vr 76), some (vr (221 + 3 * b)), some (vi x2), some (vi x3)], [vi r.1], r.2))) none) := by
  rcases four hb with rfl | rfl | rfl | rfl
  · exact sg_He_mostTrodden_221_4 ..
  · exact sg_He_mostTrodden_224_4 ..
  · exact sg_He_mostTrodden_227_4 ..
  · exact sg_He_mostTrodden_230_4 ..
theorem sgb_He_mostTrodden_17 {b : Nat} (hb : b < 4) (X : Nat × (Nat → Int32)) (d : Nat) (x2 x3 u0 : Int32) (al : List Nat) (D : Nat → Bool) (I : Nat → Nat → Int32) (L : Nat → Nat → Int64) : Rn X d co_He_mostTrodden (17, [some (vr 76), some (vr (221 + 3 * b)), some (vi x2), some (vi x3)], [vi u0], pm_mm al (pm_tb (3 + b) D) I L) = cond (decide (u0 = 0)) (Rn X d co_He_mostTrodden (29, [some (vr 76), some (vr (221 + 3 * b)), some (vi x2), some (vi x3)], [], pm_mm al (pm_tb (3 + b) D) I L)) (((Cl X d 1 [vi x3] (pm_mm al (pm_tb (3 + b) D) I L)).bind pm_ai).bind (fun r => Rn X d co_He_mostTrodden (25, [some (vr 76), some (vr (221 + 3 * b)), some (vi x2), some (vi x3)], [vi r.1, vi x2], r.2))) := by
  rcases four hb with rfl | rfl | rfl | rfl
  · exact sg_He_mostTrodden_221_17 ..
  · exact sg_He_mostTrodden_224_17 ..
  · exact sg_He_mostTrodden_227_17 ..
  · exact sg_He_mostTrodden_230_17 ..
theorem sgb_He_mostTrodden_25 {b : Nat} (hb : b < 4) (X : Nat × (Nat → Int32)) (d : Nat) (o2 : Option pm_V) (x3 u0 u1 : Int32) (al : List Nat) (D : Nat → Bool) (I : Nat → Nat → Int32) (L : Nat → Nat → Int64) : Rn X d co_He_mostTrodden (25, [some (vr 76), some (vr (221 + 3 * b)), o2, some (vi x3)], [vi u1, vi u0], pm_mm al (pm_tb (3 + b) D) I L) = ((Cl X d 4 [vi u0, vi u1] (pm_mm al (pm_tb (3 + b) D) I L)).bind pm_ai).bind (fun r => Rn X d co_He_mostTrodden (28, [some (vr 76), some (vr (221 + 3 * b)), o2, some (vi x3)], [vi r.1], r.2)) := by
  rcases four hb with rfl | rfl | rfl | rfl
  · exact sg_He_mostTrodden_221_25 ..
  · exact sg_He_mostTrodden_224_25 ..
  · exact sg_He_mostTrodden_227_25 ..
  · exact sg_He_mostTrodden_230_25 ..
theorem sgb_He_mostTrodden_28 {b : Nat} (hb : b < 4) (X : Nat × (Nat → Int32)) (d : Nat) (o2 : Option pm_V) (x3 u0 : Int32) (al : List Nat) (D : Nat → Bool) (I : Nat → Nat → Int32) (L : Nat → Nat → Int64) : Rn X d co_He_mostTrodden (28, [some (vr 76), some (vr (221 + 3 * b)), o2, some (vi x3)], [vi u0], pm_mm al (pm_tb (3 + b) D) I L) = Rn X d co_He_mostTrodden (29, [some (vr 76), some (vr (221 + 3 * b)), some (vi u0), some (vi x3)], [], pm_mm al (pm_tb (3 + b) D) I L) := by
  rcases four hb with rfl | rfl | rfl | rfl
  · exact sg_He_mostTrodden_221_28 ..
  · exact sg_He_mostTrodden_224_28 ..
  · exact sg_He_mostTrodden_227_28 ..
  · exact sg_He_mostTrodden_230_28 ..
theorem sgb_He_mostTrodden_29 {b : Nat} (hb : b < 4) (X : Nat × (Nat → Int32)) (d : Nat) (x2 x3 : Int32) (al : List Nat) (D : Nat → Bool) (I : Nat → Nat → Int32) (L : Nat → Nat → Int64) : Rn X d co_He_mostTrodden (29, [some (vr 76), some (vr (221 + 3 * b)), some (vi x2), some (vi x3)], [], pm_mm al (pm_tb (3 + b) D) I L) = Rn X d co_He_mostTrodden (4, [some (vr 76), some (vr (221 + 3 * b)), some (vi x2), some (vi (x3 + 1))], [], pm_mm al (pm_tb (3 + b) D) I L) := by
  rcases four hb with rfl | rfl | rfl | rfl
  · exact sg_He_mostTrodden_221_29 ..
  · exact sg_He_mostTrodden_224_29 ..
  · exact sg_He_mostTrodden_227_29 ..
  · exact sg_He_mostTrodden_230_29 ..
theorem sgb_He_nextToHear_0 {b : Nat} (hb : b < 4) (X : Nat × (Nat → Int32)) (d : Nat) (o2 o3 o4 o5 : Option pm_V) (al : List Nat) (D : Nat → Bool) (I : Nat → Nat → Int32) (L : Nat → Nat → Int64) : Rn X d co_He_nextToHear (0, [some (vr 76), some (vr (221 + 3 * b)), o2, o3, o4, o5], [], pm_mm al (pm_tb (3 + b) D) I L) = ((Cl X d 29 [vr 76, vr (221 + 3 * b)] (pm_mm al (pm_tb (3 + b) D) I L)).bind pm_av).bind (fun r => Rn X d co_He_nextToHear (5, [some (vr 76), some (vr (221 + 3 * b)), o2, o3, o4, o5], [], r)) := by
  rcases four hb with rfl | rfl | rfl | rfl
  · exact sg_He_nextToHear_221_0 ..
  · exact sg_He_nextToHear_224_0 ..
  · exact sg_He_nextToHear_227_0 ..
  · exact sg_He_nextToHear_230_0 ..
theorem sgb_He_nextToHear_5 (X : Nat × (Nat → Int32)) (d : Nat) (o1 o2 o3 o4 o5 : Option pm_V) (al : List Nat) (D : Nat → Bool) (I : Nat → Nat → Int32) (L : Nat → Nat → Int64) : Rn X d co_He_nextToHear (5, [some (vr 76), o1, o2, o3, o4, o5], [], pm_mm al D I L) = Rn X d co_He_nextToHear (13, [some (vr 76), (pm_nl o1), some (vi 1000000), some (vi (-1)), some (vi 0), o5], [], pm_mm al D I L) :=
  sg_He_nextToHear_221_5 ..
theorem sgb_He_nextToHear_13 (X : Nat × (Nat → Int32)) (d : Nat) (o1 : Option pm_V) (x2 x3 x4 : Int32) (o5 : Option pm_V) (al : List Nat) (D : Nat → Bool) (I : Nat → Nat → Int32) (L : Nat → Nat → Int64) : Rn X d co_He_nextToHear (13, [some (vr 76), o1, some (vi x2), some (vi x3), some (vi x4), o5], [], pm_mm al D I L) = cond (decide (12 ≤ x4)) (some (some (vi x3), pm_mm al D I L)) (((Cl X d 30 [vr 76, vi x4] (pm_mm al D I L)).bind pm_ai).bind (fun r => Rn X d co_He_nextToHear (26, [some (vr 76), o1, some (vi x2), some (vi x3), some (vi x4), o5], [vi r.1], r.2))) :=
  sg_He_nextToHear_221_13 ..
theorem sgb_He_nextToHear_26 (X : Nat × (Nat → Int32)) (d : Nat) (o1 : Option pm_V) (x2 x3 x4 : Int32) (o5 : Option pm_V) (u0 : Int32) (al : List Nat) (D : Nat → Bool) (I : Nat → Nat → Int32) (L : Nat → Nat → Int64) : Rn X d co_He_nextToHear (26, [some (vr 76), o1, some (vi x2), some (vi x3), some (vi x4), o5], [vi u0], pm_mm al D I L) = cond (decide (u0 ≤ 0)) (Rn X d co_He_nextToHear (45, [some (vr 76), o1, some (vi x2), some (vi x3), some (vi x4), some (vi u0)], [], pm_mm al D I L)) (cond (decide (x2 ≤ u0)) (Rn X d co_He_nextToHear (45, [some (vr 76), o1, some (vi x2), some (vi x3), some (vi x4), some (vi u0)], [], pm_mm al D I L)) (Rn X d co_He_nextToHear (45, [some (vr 76), (pm_nl o1), some (vi u0), some (vi x4), some (vi x4), some (vi u0)], [], pm_mm al D I L))) :=
  sg_He_nextToHear_221_26 ..
theorem sgb_He_nextToHear_45 (X : Nat × (Nat → Int32)) (d : Nat) (o1 : Option pm_V) (x2 x3 x4 : Int32) (o5 : Option pm_V) (al : List Nat) (D : Nat → Bool) (I : Nat → Nat → Int32) (L : Nat → Nat → Int64) : Rn X d co_He_nextToHear (45, [some (vr 76), o1, some (vi x2), some (vi x3), some (vi x4), o5], [], pm_mm al D I L) = Rn X d co_He_nextToHear (13, [some (vr 76), o1, some (vi x2), some (vi x3), some (vi (x4 + 1)), o5], [], pm_mm al D I L) :=
  sg_He_nextToHear_221_45 ..
theorem sgb_He_countAlike_0 {b : Nat} (hb : b < 4) (X : Nat × (Nat → Int32)) (d : Nat) (o2 o3 : Option pm_V) (al : List Nat) (D : Nat → Bool) (I : Nat → Nat → Int32) (L : Nat → Nat → Int64) : Rn X d co_He_countAlike (0, [some (vr 76), some (vr (221 + 3 * b)), o2, o3], [], pm_mm al (pm_tb (3 + b) D) I L) = Rn X d co_He_countAlike (2, [some (vr 76), some (vr (221 + 3 * b)), some (vi 0), o3], [], pm_mm al (pm_tb (3 + b) D) I L) := by
  rcases four hb with rfl | rfl | rfl | rfl
  · exact sg_He_countAlike_221_0 ..
  · exact sg_He_countAlike_224_0 ..
  · exact sg_He_countAlike_227_0 ..
  · exact sg_He_countAlike_230_0 ..
theorem sgb_He_countAlike_2 {b : Nat} (hb : b < 4) (X : Nat × (Nat → Int32)) (d : Nat) (x2 : Int32) (o3 : Option pm_V) (al : List Nat) (D : Nat → Bool) (I : Nat → Nat → Int32) (L : Nat → Nat → Int64) : Rn X d co_He_countAlike (2, [some (vr 76), some (vr (221 + 3 * b)), some (vi x2), o3], [], pm_mm al (pm_tb (3 + b) D) I L) = cond (decide (96 ≤ x2)) (Rn X d co_He_countAlike (26, [some (vr 76), some (vr (221 + 3 * b)), some (vi 0), o3], [], pm_mm al (pm_tb (3 + b) D) I L)) (cond (pm_in x2 96) (Rn X d co_He_countAlike (2, [some (vr 76), some (vr (221 + 3 * b)), some (vi (x2 + 1)), o3], [], pm_mm al (pm_tb (3 + b) D) (pm_up I 77 x2.toNatClampNeg 0) L)) none) := by
  rcases four hb with rfl | rfl | rfl | rfl
  · exact sg_He_countAlike_221_2 ..
  · exact sg_He_countAlike_224_2 ..
  · exact sg_He_countAlike_227_2 ..
  · exact sg_He_countAlike_230_2 ..
theorem sgb_He_countAlike_26 {b : Nat} (hb : b < 4) (X : Nat × (Nat → Int32)) (d : Nat) (x2 : Int32) (o3 : Option pm_V) (al : List Nat) (D : Nat → Bool) (I : Nat → Nat → Int32) (L : Nat → Nat → Int64) : Rn X d co_He_countAlike (26, [some (vr 76), some (vr (221 + 3 * b)), some (vi x2), o3], [], pm_mm al (pm_tb (3 + b) D) I L) = cond (decide (4096 ≤ x2)) (some (none, pm_mm al (pm_tb (3 + b) D) I L)) (cond (pm_in x2 4096) (((Cl X d 21 [vr 76, vl (L (221 + 3 * b) x2.toNatClampNeg)] (pm_mm al (pm_tb (3 + b) D) I L)).bind pm_ai).bind (fun r => Rn X d co_He_countAlike (39, [some (vr 76), some (vr (221 + 3 * b)), some (vi x2), o3], [vi r.1], r.2))) none) := by
  rcases four hb with rfl | rfl | rfl | rfl
  · exact sg_He_countAlike_221_26 ..
  · exact sg_He_countAlike_224_26 ..
  · exact sg_He_countAlike_227_26 ..
  · exact sg_He_countAlike_230_26 ..
theorem sgb_He_countAlike_39 {b : Nat} (hb : b < 4) (X : Nat × (Nat → Int32)) (d : Nat) (x2 : Int32) (o3 : Option pm_V) (u0 : Int32) (al : List Nat) (D : Nat → Bool) (I : Nat → Nat → Int32) (L : Nat → Nat → Int64) : Rn X d co_He_countAlike (39, [some (vr 76), some (vr (221 + 3 * b)), some (vi x2), o3], [vi u0], pm_mm al (pm_tb (3 + b) D) I L) = cond (decide (u0 = 0)) (Rn X d co_He_countAlike (77, [some (vr 76), some (vr (221 + 3 * b)), some (vi x2), o3], [], pm_mm al (pm_tb (3 + b) D) I L)) (Rn X d co_He_countAlike (44, [some (vr 76), some (vr (221 + 3 * b)), some (vi x2), some (vi 0)], [], pm_mm al (pm_tb (3 + b) D) I L)) := by
  rcases four hb with rfl | rfl | rfl | rfl
  · exact sg_He_countAlike_221_39 ..
  · exact sg_He_countAlike_224_39 ..
  · exact sg_He_countAlike_227_39 ..
  · exact sg_He_countAlike_230_39 ..
theorem sgb_He_countAlike_44 {b : Nat} (hb : b < 4) (X : Nat × (Nat → Int32)) (d : Nat) (x2 x3 : Int32) (al : List Nat) (D : Nat → Bool) (I : Nat → Nat → Int32) (L : Nat → Nat → Int64) : Rn X d co_He_countAlike (44, [some (vr 76), some (vr (221 + 3 * b)), some (vi x2), some (vi x3)], [], pm_mm al (pm_tb (3 + b) D) I L) = cond (decide (12 ≤ x3)) (Rn X d co_He_countAlike (77, [some (vr 76), some (vr (221 + 3 * b)), some (vi x2), some (vi x3)], [], pm_mm al (pm_tb (3 + b) D) I L)) (cond (pm_in x2 4096) (((Cl X d 103 [vl (L (221 + 3 * b) x2.toNatClampNeg), vi x3] (pm_mm al (pm_tb (3 + b) D) I L)).bind pm_ai).bind (fun r => Rn X d co_He_countAlike (65, [some (vr 76), some (vr (221 + 3 * b)), some (vi x2), some (vi x3)], [vi r.1, vi (x3 * 8), vr 77], r.2))) none) := by
  rcases four hb with rfl | rfl | rfl | rfl
  · exact sg_He_countAlike_221_44 ..
  · exact sg_He_countAlike_224_44 ..
  · exact sg_He_countAlike_227_44 ..
  · exact sg_He_countAlike_230_44 ..
theorem sgb_He_countAlike_65 {b : Nat} (hb : b < 4) (X : Nat × (Nat → Int32)) (d : Nat) (x2 x3 u1 u2 : Int32) (al : List Nat) (D : Nat → Bool) (I : Nat → Nat → Int32) (L : Nat → Nat → Int64) : Rn X d co_He_countAlike (65, [some (vr 76), some (vr (221 + 3 * b)), some (vi x2), some (vi x3)], [vi u2, vi u1, vr 77], pm_mm al (pm_tb (3 + b) D) I L) = cond (pm_in (u1 + u2) 96) (cond (pm_in (u1 + u2) 96) (Rn X d co_He_countAlike (44, [some (vr 76), some (vr (221 + 3 * b)), some (vi x2), some (vi (x3 + 1))], [], pm_mm al (pm_tb (3 + b) D) (pm_up I 77 ((u1 + u2).toNatClampNeg) ((I 77 ((u1 + u2).toNatClampNeg)) + 1)) L)) none) none := by
  rcases four hb with rfl | rfl | rfl | rfl
  · exact sg_He_countAlike_221_65 ..
  · exact sg_He_countAlike_224_65 ..
  · exact sg_He_countAlike_227_65 ..
  · exact sg_He_countAlike_230_65 ..
theorem sgb_He_countAlike_77 {b : Nat} (hb : b < 4) (X : Nat × (Nat → Int32)) (d : Nat) (x2 : Int32) (o3 : Option pm_V) (al : List Nat) (D : Nat → Bool) (I : Nat → Nat → Int32) (L : Nat → Nat → Int64) : Rn X d co_He_countAlike (77, [some (vr 76), some (vr (221 + 3 * b)), some (vi x2), o3], [], pm_mm al (pm_tb (3 + b) D) I L) = Rn X d co_He_countAlike (26, [some (vr 76), some (vr (221 + 3 * b)), some (vi (x2 + 1)), o3], [], pm_mm al (pm_tb (3 + b) D) I L) := by
  rcases four hb with rfl | rfl | rfl | rfl
  · exact sg_He_countAlike_221_77 ..
  · exact sg_He_countAlike_224_77 ..
  · exact sg_He_countAlike_227_77 ..
  · exact sg_He_countAlike_230_77 ..
theorem sgb_Pl_takeBand_0 {b : Nat} (hb : b < 2) (X : Nat × (Nat → Int32)) (d : Nat) (al : List Nat) (D : Nat → Bool) (I : Nat → Nat → Int32) (L : Nat → Nat → Int64) : Rn X d co_Pl_takeBand (0, [some (vr 49), some (vr (9 + 5 * b))], [], pm_mm al D I L) = ((Cl X d 161 [vr 51] (pm_mm al D (pm_ups (pm_up (pm_up (pm_up (pm_up (pm_up I 49 0 (I (9 + 5 * b) 0)) 49 4 (I (9 + 5 * b) 1)) 49 1 (I (9 + 5 * b) 2)) 49 2 (I (9 + 5 * b) 3)) 49 3 (I (9 + 5 * b) 4)) 50 (va_cpy (I (10 + 5 * b)) (I 50) 0 0 6)) L)).bind pm_av).bind (fun r => Rn X d co_Pl_takeBand (62, [some (vr 49), some (vr (9 + 5 * b))], [], r)) := by
  rcases two hb with rfl | rfl
  · exact sg_Pl_takeBand_9_0 ..
  · exact sg_Pl_takeBand_14_0 ..
theorem sgb_Pl_takeBand_62 (X : Nat × (Nat → Int32)) (d : Nat) (o0 o1 : Option pm_V) (al : List Nat) (D : Nat → Bool) (I : Nat → Nat → Int32) (L : Nat → Nat → Int64) : Rn X d co_Pl_takeBand (62, [o0, o1], [], pm_mm al D I L) = some (none, pm_mm al D I L) :=
  sg_Pl_takeBand_9_62 ..
theorem sgb_Pl_takeScore_0 {b : Nat} (hb : b < 2) (X : Nat × (Nat → Int32)) (d : Nat) (o2 : Option pm_V) (al : List Nat) (D : Nat → Bool) (I : Nat → Nat → Int32) (L : Nat → Nat → Int64) : Rn X d co_Pl_takeScore (0, [some (vr 49), some (vr (19 + 4 * b)), o2], [], pm_mm al D I L) = Rn X d co_Pl_takeScore (2, [some (vr 49), some (vr (19 + 4 * b)), some (vi 0)], [], pm_mm al D I L) := by
  rcases two hb with rfl | rfl
  · exact sg_Pl_takeScore_19_0 ..
  · exact sg_Pl_takeScore_23_0 ..
theorem sgb_Pl_takeScore_2 {b : Nat} (hb : b < 2) (X : Nat × (Nat → Int32)) (d : Nat) (x2 : Int32) (al : List Nat) (D : Nat → Bool) (I : Nat → Nat → Int32) (L : Nat → Nat → Int64) : Rn X d co_Pl_takeScore (2, [some (vr 49), some (vr (19 + 4 * b)), some (vi x2)], [], pm_mm al D I L) = cond (decide (12 ≤ x2)) (some (none, pm_mm al D I L)) (((Cl X d 81 [vr (19 + 4 * b), vi x2] (pm_mm al D I L)).bind pm_ai).bind (fun r => Rn X d co_Pl_takeScore (18, [some (vr 49), some (vr (19 + 4 * b)), some (vi x2)], [vi r.1, vi x2, vr 52], r.2))) := by
  rcases two hb with rfl | rfl
  · exact sg_Pl_takeScore_19_2 ..
  · exact sg_Pl_takeScore_23_2 ..
theorem sgb_Pl_takeScore_18 {b : Nat} (hb : b < 2) (X : Nat × (Nat → Int32)) (d : Nat) (x2 u1 u2 : Int32) (al : List Nat) (D : Nat → Bool) (I : Nat → Nat → Int32) (L : Nat → Nat → Int64) : Rn X d co_Pl_takeScore (18, [some (vr 49), some (vr (19 + 4 * b)), some (vi x2)], [vi u2, vi u1, vr 52], pm_mm al D I L) = cond (pm_in u1 12) (Rn X d co_Pl_takeScore (2, [some (vr 49), some (vr (19 + 4 * b)), some (vi (x2 + 1))], [], pm_mm al D (pm_up I 52 u1.toNatClampNeg (u2 &&& ((1 <<< ((I 49 3) &&& 31)) - 1))) L)) none := by
  rcases two hb with rfl | rfl
  · exact sg_Pl_takeScore_19_18 ..
  · exact sg_Pl_takeScore_23_18 ..
theorem sgb_Pl_takeNotesLeft_0 {b : Nat} (hb : b < 2) (X : Nat × (Nat → Int32)) (d : Nat) (x2 : Int32) (o3 : Option pm_V) (al : List Nat) (D : Nat → Bool) (I : Nat → Nat → Int32) (L : Nat → Nat → Int64) : Rn X d co_Pl_takeNotesLeft (0, [some (vr 49), some (vr (19 + 4 * b)), some (vi x2), o3], [], pm_mm al D I L) = ((Cl X d 42 [vr 49] (pm_mm al D I L)).bind pm_av).bind (fun r => Rn X d co_Pl_takeNotesLeft (4, [some (vr 49), some (vr (19 + 4 * b)), some (vi x2), o3], [], r)) := by
  rcases two hb with rfl | rfl
  · exact sg_Pl_takeNotesLeft_19_0 ..
  · exact sg_Pl_takeNotesLeft_23_0 ..
theorem sgb_Pl_takeNotesLeft_4 {b : Nat} (hb : b < 2) (X : Nat × (Nat → Int32)) (d : Nat) (x2 : Int32) (o3 : Option pm_V) (al : List Nat) (D : Nat → Bool) (I : Nat → Nat → Int32) (L : Nat → Nat → Int64) : Rn X d co_Pl_takeNotesLeft (4, [some (vr 49), some (vr (19 + 4 * b)), some (vi x2), o3], [], pm_mm al D I L) = Rn X d co_Pl_takeNotesLeft (6, [some (vr 49), some (vr (19 + 4 * b)), some (vi x2), some (vi 0)], [], pm_mm al D I L) := by
  rcases two hb with rfl | rfl
  · exact sg_Pl_takeNotesLeft_19_4 ..
  · exact sg_Pl_takeNotesLeft_23_4 ..
theorem sgb_Pl_takeNotesLeft_6 {b : Nat} (hb : b < 2) (X : Nat × (Nat → Int32)) (d : Nat) (x2 x3 : Int32) (al : List Nat) (D : Nat → Bool) (I : Nat → Nat → Int32) (L : Nat → Nat → Int64) : Rn X d co_Pl_takeNotesLeft (6, [some (vr 49), some (vr (19 + 4 * b)), some (vi x2), some (vi x3)], [], pm_mm al D I L) = cond (decide ((I (19 + 4 * b) 0) ≤ x3)) (some (none, pm_mm al D I L)) (cond (decide (((x2 >>> (x3 &&& 31)) &&& 1) = 0)) (((Cl X d 43 [vr 49, vr (19 + 4 * b), vi x3, vi 0] (pm_mm al D I L)).bind pm_av).bind (fun r => Rn X d co_Pl_takeNotesLeft (29, [some (vr 49), some (vr (19 + 4 * b)), some (vi x2), some (vi x3)], [], r))) (Rn X d co_Pl_takeNotesLeft (29, [some (vr 49), some (vr (19 + 4 * b)), some (vi x2), some (vi x3)], [], pm_mm al D I L))) := by
  rcases two hb with rfl | rfl
  · exact sg_Pl_takeNotesLeft_19_6 ..
  · exact sg_Pl_takeNotesLeft_23_6 ..
theorem sgb_Pl_takeNotesLeft_29 {b : Nat} (hb : b < 2) (X : Nat × (Nat → Int32)) (d : Nat) (x2 x3 : Int32) (al : List Nat) (D : Nat → Bool) (I : Nat → Nat → Int32) (L : Nat → Nat → Int64) : Rn X d co_Pl_takeNotesLeft (29, [some (vr 49), some (vr (19 + 4 * b)), some (vi x2), some (vi x3)], [], pm_mm al D I L) = Rn X d co_Pl_takeNotesLeft (6, [some (vr 49), some (vr (19 + 4 * b)), some (vi x2), some (vi (x3 + 1))], [], pm_mm al D I L) := by
  rcases two hb with rfl | rfl
  · exact sg_Pl_takeNotesLeft_19_29 ..
  · exact sg_Pl_takeNotesLeft_23_29 ..
theorem sgb_Pl_addNote_0 {b : Nat} (hb : b < 2) (X : Nat × (Nat → Int32)) (d : Nat) (x2 x3 : Int32) (o4 o5 o6 : Option pm_V) (al : List Nat) (D : Nat → Bool) (I : Nat → Nat → Int32) (L : Nat → Nat → Int64) : Rn X d co_Pl_addNote (0, [some (vr 49), some (vr (19 + 4 * b)), some (vi x2), some (vi x3), o4, o5, o6], [], pm_mm al D I L) = cond (pm_in x2 8) (cond (decide ((I (20 + 4 * b) x2.toNatClampNeg) < (I 49 3))) (cond (pm_in x2 8) (cond (pm_in x2 8) (((Cl X d 5 [vi 12, vi (((I (21 + 4 * b) x2.toNatClampNeg) + x3) + (I (22 + 4 * b) x2.toNatClampNeg))] (pm_mm al D I L)).bind pm_ai).bind (fun r => Rn X d co_Pl_addNote (38, [some (vr 49), some (vr (19 + 4 * b)), some (vi x2), some (vi x3), some (vi ((I (21 + 4 * b) x2.toNatClampNeg) + x3)), o5, o6], [vi r.1], r.2))) none) none) (some (none, pm_mm al D I L))) none := by
  rcases two hb with rfl | rfl
  · exact sg_Pl_addNote_19_0 ..
  · exact sg_Pl_addNote_23_0 ..
theorem sgb_Pl_addNote_38 {b : Nat} (hb : b < 2) (X : Nat × (Nat → Int32)) (d : Nat) (x2 : Int32) (o3 : Option pm_V) (x4 : Int32) (o5 o6 : Option pm_V) (u0 : Int32) (al : List Nat) (D : Nat → Bool) (I : Nat → Nat → Int32) (L : Nat → Nat → Int64) : Rn X d co_Pl_addNote (38, [some (vr 49), some (vr (19 + 4 * b)), some (vi x2), o3, some (vi x4), o5, o6], [vi u0], pm_mm al D I L) = Rn X d co_Pl_addNote (44, [some (vr 49), some (vr (19 + 4 * b)), some (vi x2), o3, some (vi x4), some (vi u0), some (vi x4)], [], pm_mm al D I L) := by
  rcases two hb with rfl | rfl
  · exact sg_Pl_addNote_19_38 ..
  · exact sg_Pl_addNote_23_38 ..
theorem sgb_Pl_addNote_44 {b : Nat} (hb : b < 2) (X : Nat × (Nat → Int32)) (d : Nat) (x2 : Int32) (o3 o4 : Option pm_V) (x5 x6 : Int32) (al : List Nat) (D : Nat → Bool) (I : Nat → Nat → Int32) (L : Nat → Nat → Int64) : Rn X d co_Pl_addNote (44, [some (vr 49), some (vr (19 + 4 * b)), some (vi x2), o3, o4, some (vi x5), some (vi x6)], [], pm_mm al D I L) = cond (decide (x5 ≤ x6)) (some (none, pm_mm al D I L)) (cond (pm_in x6 12) (cond (pm_in x2 8) (cond (pm_in x6 12) (Rn X d co_Pl_addNote (44, [some (vr 49), some (vr (19 + 4 * b)), some (vi x2), o3, o4, some (vi x5), some (vi (x6 + 1))], [], pm_mm al D (pm_up I 52 x6.toNatClampNeg ((I 52 x6.toNatClampNeg) ||| (1 <<< ((I (20 + 4 * b) x2.toNatClampNeg) &&& 31)))) L)) none) none) none) := by
  rcases two hb with rfl | rfl
  · exact sg_Pl_addNote_19_44 ..
  · exact sg_Pl_addNote_23_44 ..
theorem sgb_Pl_worthInAll_0 {b : Nat} (hb : b < 2) (X : Nat × (Nat → Int32)) (d : Nat) (o2 o3 o4 : Option pm_V) (al : List Nat) (D : Nat → Bool) (I : Nat → Nat → Int32) (L : Nat → Nat → Int64) : Rn X d co_Pl_worthInAll (0, [some (vr 49), some (vr (11 + 5 * b)), o2, o3, o4], [], pm_mm al D I L) = Rn X d co_Pl_worthInAll (4, [some (vr 49), some (vr (11 + 5 * b)), some (vi 0), some (vi 0), o4], [], pm_mm al D I L) := by
  rcases two hb with rfl | rfl
  · exact sg_Pl_worthInAll_11_0 ..
  · exact sg_Pl_worthInAll_16_0 ..
theorem sgb_Pl_worthInAll_4 {b : Nat} (hb : b < 2) (X : Nat × (Nat → Int32)) (d : Nat) (x2 x3 : Int32) (o4 : Option pm_V) (al : List Nat) (D : Nat → Bool) (I : Nat → Nat → Int32) (L : Nat → Nat → Int64) : Rn X d co_Pl_worthInAll (4, [some (vr 49), some (vr (11 + 5 * b)), some (vi x2), some (vi x3), o4], [], pm_mm al D I L) = cond (decide (12 ≤ x3)) (some (some (vi x2), pm_mm al D I L)) (Rn X d co_Pl_worthInAll (13, [some (vr 49), some (vr (11 + 5 * b)), some (vi x2), some (vi x3), some (vi 0)], [], pm_mm al D I L)) := by
  rcases two hb with rfl | rfl
  · exact sg_Pl_worthInAll_11_4 ..
  · exact sg_Pl_worthInAll_16_4 ..
theorem sgb_Pl_worthInAll_13 {b : Nat} (hb : b < 2) (X : Nat × (Nat → Int32)) (d : Nat) (x2 x3 x4 : Int32) (al : List Nat) (D : Nat → Bool) (I : Nat → Nat → Int32) (L : Nat → Nat → Int64) : Rn X d co_Pl_worthInAll (13, [some (vr 49), some (vr (11 + 5 * b)), some (vi x2), some (vi x3), some (vi x4)], [], pm_mm al D I L) = cond (decide ((I 49 3) ≤ x4)) (Rn X d co_Pl_worthInAll (4, [some (vr 49), some (vr (11 + 5 * b)), some (vi x2), some (vi (x3 + 1)), some (vi x4)], [], pm_mm al D I L)) (cond (pm_in (x3 + 1) 13) (cond (decide ((((I 57 ((x3 + 1).toNatClampNeg)) >>> (x4 &&& 31)) &&& 1) = 0)) (Rn X d co_Pl_worthInAll (45, [some (vr 49), some (vr (11 + 5 * b)), some (vi x2), some (vi x3), some (vi x4)], [], pm_mm al D I L)) (cond (pm_in x4 6) (Rn X d co_Pl_worthInAll (45, [some (vr 49), some (vr (11 + 5 * b)), some (vi (x2 + (I (11 + 5 * b) x4.toNatClampNeg))), some (vi x3), some (vi x4)], [], pm_mm al D I L)) none)) none) := by
  rcases two hb with rfl | rfl
  · exact sg_Pl_worthInAll_11_13 ..
  · exact sg_Pl_worthInAll_16_13 ..
theorem sgb_Pl_worthInAll_45 {b : Nat} (hb : b < 2) (X : Nat × (Nat → Int32)) (d : Nat) (x2 x3 x4 : Int32) (al : List Nat) (D : Nat → Bool) (I : Nat → Nat → Int32) (L : Nat → Nat → Int64) : Rn X d co_Pl_worthInAll (45, [some (vr 49), some (vr (11 + 5 * b)), some (vi x2), some (vi x3), some (vi x4)], [], pm_mm al D I L) = Rn X d co_Pl_worthInAll (13, [some (vr 49), some (vr (11 + 5 * b)), some (vi x2), some (vi x3), some (vi (x4 + 1))], [], pm_mm al D I L) := by
  rcases two hb with rfl | rfl
  · exact sg_Pl_worthInAll_11_45 ..
  · exact sg_Pl_worthInAll_16_45 ..
theorem sgb_Sh_search_0 {b : Nat} (hb : b < 2) (X : Nat × (Nat → Int32)) (d : Nat) (x3 x4 : Int32) (al : List Nat) (D : Nat → Bool) (I : Nat → Nat → Int32) (L : Nat → Nat → Int64) : Rn X d co_Sh_search (0, [some (vr 60), some (vr 49), some (vr (19 + 4 * b)), some (vi x3), some (vi x4)], [], pm_mm al D I L) = ((Cl X d 88 [vr 60, vr 49, vr (19 + 4 * b), vi 0, vi 0] (pm_mm al D (pm_up (pm_up (pm_up (pm_up I 60 2 0) 60 0 0) 60 3 x3) 60 4 x4) L)).bind pm_av).bind (fun r => Rn X d co_Sh_search (29, [some (vr 60), some (vr 49), some (vr (19 + 4 * b)), some (vi x3), some (vi x4)], [], r)) := by
  rcases two hb with rfl | rfl
  · exact sg_Sh_search_49_19_0 ..
  · exact sg_Sh_search_49_23_0 ..
theorem sgb_Sh_search_29 (X : Nat × (Nat → Int32)) (d : Nat) (o1 o2 o3 o4 : Option pm_V) (al : List Nat) (D : Nat → Bool) (I : Nat → Nat → Int32) (L : Nat → Nat → Int64) : Rn X d co_Sh_search (29, [some (vr 60), o1, o2, o3, o4], [], pm_mm al D I L) = cond (pm_01 (I 60 2)) (some (some (vi (I 60 2)), pm_mm al D I L)) none :=
  sg_Sh_search_49_19_29 ..
theorem sgb_Sh_layFrom_0 {b : Nat} (hb : b < 2) (X : Nat × (Nat → Int32)) (d : Nat) (x3 x4 : Int32) (o5 o6 : Option pm_V) (al : List Nat) (D : Nat → Bool) (I : Nat → Nat → Int32) (L : Nat → Nat → Int64) : Rn X d co_Sh_layFrom (0, [some (vr 60), some (vr 49), some (vr (19 + 4 * b)), some (vi x3), some (vi x4), o5, o6], [], pm_mm al D I L) = cond (decide (x3 < (I (19 + 4 * b) 0))) (cond (pm_in x3 8) (cond (pm_in x3 8) (((Cl X d 5 [vi (I 60 4), vi ((12 - (I (21 + 4 * b) x3.toNatClampNeg)) - (I (22 + 4 * b) x3.toNatClampNeg))] (pm_mm al D I L)).bind pm_ai).bind (fun r => Rn X d co_Sh_layFrom (38, [some (vr 60), some (vr 49), some (vr (19 + 4 * b)), some (vi x3), some (vi x4), o5, o6], [vi r.1], r.2))) none) none) (((Cl X d 89 [vr 60, vi x4] (pm_mm al D I L)).bind pm_av).bind (fun r => Rn X d co_Sh_layFrom (14, [some (vr 60), some (vr 49), some (vr (19 + 4 * b)), some (vi x3), some (vi x4), o5, o6], [], r))) := by
  rcases two hb with rfl | rfl
  · exact sg_Sh_layFrom_60_49_19_0 ..
  · exact sg_Sh_layFrom_60_49_23_0 ..
theorem sgb_Sh_layFrom_14 (X : Nat × (Nat → Int32)) (d : Nat) (o0 o1 o2 o3 o4 o5 o6 : Option pm_V) (al : List Nat) (D : Nat → Bool) (I : Nat → Nat → Int32) (L : Nat → Nat → Int64) : Rn X d co_Sh_layFrom (14, [o0, o1, o2, o3, o4, o5, o6], [], pm_mm al D I L) = some (none, pm_mm al D I L) :=
  sg_Sh_layFrom_60_49_19_14 ..
theorem sgb_Sh_layFrom_38 {b : Nat} (hb : b < 2) (X : Nat × (Nat → Int32)) (d : Nat) (x3 x4 : Int32) (o5 o6 : Option pm_V) (u0 : Int32) (al : List Nat) (D : Nat → Bool) (I : Nat → Nat → Int32) (L : Nat → Nat → Int64) : Rn X d co_Sh_layFrom (38, [some (vr 60), some (vr 49), some (vr (19 + 4 * b)), some (vi x3), some (vi x4), o5, o6], [vi u0], pm_mm al D I L) = Rn X d co_Sh_layFrom (43, [some (vr 60), some (vr 49), some (vr (19 + 4 * b)), some (vi x3), some (vi x4), some (vi u0), some (vi 0)], [], pm_mm al D I L) := by
  rcases two hb with rfl | rfl
  · exact sg_Sh_layFrom_60_49_19_38 ..
  · exact sg_Sh_layFrom_60_49_23_38 ..
theorem sgb_Sh_layFrom_43 {b : Nat} (hb : b < 2) (X : Nat × (Nat → Int32)) (d : Nat) (x3 x4 x5 x6 : Int32) (al : List Nat) (D : Nat → Bool) (I : Nat → Nat → Int32) (L : Nat → Nat → Int64) : Rn X d co_Sh_layFrom (43, [some (vr 60), some (vr 49), some (vr (19 + 4 * b)), some (vi x3), some (vi x4), some (vi x5), some (vi x6)], [], pm_mm al D I L) = cond (decide (x5 < x6)) (Rn X d co_Sh_layFrom (94, [some (vr 60), some (vr 49), some (vr (19 + 4 * b)), some (vi x3), some (vi x4), some (vi x5), some (vi x6)], [], pm_mm al D I L)) (((Cl X d 90 [vr 60, vi (x4 + x6)] (pm_mm al D I L)).bind pm_ai).bind (fun r => Rn X d co_Sh_layFrom (59, [some (vr 60), some (vr 49), some (vr (19 + 4 * b)), some (vi x3), some (vi x4), some (vi x5), some (vi x6)], [vi r.1], r.2))) := by
  rcases two hb with rfl | rfl
  · exact sg_Sh_layFrom_60_49_19_43 ..
  · exact sg_Sh_layFrom_60_49_23_43 ..
theorem sgb_Sh_layFrom_59 {b : Nat} (hb : b < 2) (X : Nat × (Nat → Int32)) (d : Nat) (x3 x4 x5 x6 u0 : Int32) (al : List Nat) (D : Nat → Bool) (I : Nat → Nat → Int32) (L : Nat → Nat → Int64) : Rn X d co_Sh_layFrom (59, [some (vr 60), some (vr 49), some (vr (19 + 4 * b)), some (vi x3), some (vi x4), some (vi x5), some (vi x6)], [vi u0], pm_mm al D I L) = cond (decide (u0 = 0)) (Rn X d co_Sh_layFrom (94, [some (vr 60), some (vr 49), some (vr (19 + 4 * b)), some (vi x3), some (vi x4), some (vi x5), some (vi x6)], [], pm_mm al D I L)) (((Cl X d 91 [vr 60, vr 49, vr (19 + 4 * b), vi x3, vi x6] (pm_mm al D I L)).bind pm_ai).bind (fun r => Rn X d co_Sh_layFrom (71, [some (vr 60), some (vr 49), some (vr (19 + 4 * b)), some (vi x3), some (vi x4), some (vi x5), some (vi x6)], [vi r.1], r.2))) := by
  rcases two hb with rfl | rfl
  · exact sg_Sh_layFrom_60_49_19_59 ..
  · exact sg_Sh_layFrom_60_49_23_59 ..
theorem sgb_Sh_layFrom_71 {b : Nat} (hb : b < 2) (X : Nat × (Nat → Int32)) (d : Nat) (x3 x4 x5 x6 u0 : Int32) (al : List Nat) (D : Nat → Bool) (I : Nat → Nat → Int32) (L : Nat → Nat → Int64) : Rn X d co_Sh_layFrom (71, [some (vr 60), some (vr 49), some (vr (19 + 4 * b)), some (vi x3), some (vi x4), some (vi x5), some (vi x6)], [vi u0], pm_mm al D I L) = cond (decide (u0 = 0)) (Rn X d co_Sh_layFrom (88, [some (vr 60), some (vr 49), some (vr (19 + 4 * b)), some (vi x3), some (vi x4), some (vi x5), some (vi x6)], [], pm_mm al D I L)) (((Cl X d 88 [vr 60, vr 49, vr (19 + 4 * b), vi (x3 + 1), vi (x4 + x6)] (pm_mm al D I L)).bind pm_av).bind (fun r => Rn X d co_Sh_layFrom (88, [some (vr 60), some (vr 49), some (vr (19 + 4 * b)), some (vi x3), some (vi x4), some (vi x5), some (vi x6)], [], r))) := by
  rcases two hb with rfl | rfl
  · exact sg_Sh_layFrom_60_49_19_71 ..
  · exact sg_Sh_layFrom_60_49_23_71 ..
theorem sgb_Sh_layFrom_88 {b : Nat} (hb : b < 2) (X : Nat × (Nat → Int32)) (d : Nat) (x3 x4 x5 x6 : Int32) (al : List Nat) (D : Nat → Bool) (I : Nat → Nat → Int32) (L : Nat → Nat → Int64) : Rn X d co_Sh_layFrom (88, [some (vr 60), some (vr 49), some (vr (19 + 4 * b)), some (vi x3), some (vi x4), some (vi x5), some (vi x6)], [], pm_mm al D I L) = Rn X d co_Sh_layFrom (43, [some (vr 60), some (vr 49), some (vr (19 + 4 * b)), some (vi x3), some (vi x4), some (vi x5), some (vi (x6 + 1))], [], pm_mm al D I L) := by
  rcases two hb with rfl | rfl
  · exact sg_Sh_layFrom_60_49_19_88 ..
  · exact sg_Sh_layFrom_60_49_23_88 ..
theorem sgb_Sh_layFrom_94 (X : Nat × (Nat → Int32)) (d : Nat) (o0 o1 o2 o3 o4 o5 o6 : Option pm_V) (al : List Nat) (D : Nat → Bool) (I : Nat → Nat → Int32) (L : Nat → Nat → Int64) : Rn X d co_Sh_layFrom (94, [o0, o1, o2, o3, o4, o5, o6], [], pm_mm al D I L) = some (none, pm_mm al D I L) :=
  sg_Sh_layFrom_60_49_19_94 ..
theorem sgb_Sh_goesOn_0 {b : Nat} {k : Nat} (hb : b < 2) (hk : k < 8) (X : Nat × (Nat → Int32)) (d : Nat) (x4 : Int32) (al : List Nat) (D : Nat → Bool) (I : Nat → Nat → Int32) (L : Nat → Nat → Int64) : Rn X d co_Sh_goesOn (0, [some (vr 60), some (vr 49), some (vr (19 + 4 * b)), some (vi (Int32.ofNat k)), some (vi x4)], [], pm_mm al D I L) = ((Cl X d 43 [vr 49, vr (19 + 4 * b), vi (Int32.ofNat k), vi x4] (pm_mm al D (pm_ups I 52 (va_cpy (I (64 + k)) (I 52) 0 0 12)) L)).bind pm_av).bind (fun r => Rn X d co_Sh_goesOn (25, [some (vr 60), some (vr 49), some (vr (19 + 4 * b)), some (vi (Int32.ofNat k)), some (vi x4)], [], r)) := by
  rcases two hb with rfl | rfl <;> rcases eight hk with rfl | rfl | rfl | rfl | rfl | rfl | rfl | rfl
  · exact sg_Sh_goesOn_49_19_0_0 ..
  · exact sg_Sh_goesOn_49_19_1_0 ..
  · exact sg_Sh_goesOn_49_19_2_0 ..
  · exact sg_Sh_goesOn_49_19_3_0 ..
  · exact sg_Sh_goesOn_49_19_4_0 ..
  · exact sg_Sh_goesOn_49_19_5_0 ..
  · exact sg_Sh_goesOn_49_19_6_0 ..
  · exact sg_Sh_goesOn_49_19_7_0 ..
  · exact sg_Sh_goesOn_49_23_0_0 ..
  · exact sg_Sh_goesOn_49_23_1_0 ..
  · exact sg_Sh_goesOn_49_23_2_0 ..
  · exact sg_Sh_goesOn_49_23_3_0 ..
  · exact sg_Sh_goesOn_49_23_4_0 ..
  · exact sg_Sh_goesOn_49_23_5_0 ..
  · exact sg_Sh_goesOn_49_23_6_0 ..
  · exact sg_Sh_goesOn_49_23_7_0 ..
theorem sgb_Sh_goesOn_25 {b : Nat} {k : Nat} (hb : b < 2) (hk : k < 8) (X : Nat × (Nat → Int32)) (d : Nat) (o2 : Option pm_V) (x4 : Int32) (al : List Nat) (D : Nat → Bool) (I : Nat → Nat → Int32) (L : Nat → Nat → Int64) : Rn X d co_Sh_goesOn (25, [some (vr 60), some (vr 49), o2, some (vi (Int32.ofNat k)), some (vi x4)], [], pm_mm al D I L) = ((Cl X d 49 [vr 49, vi (I 60 3), vi 0] (pm_mm al D (pm_up (pm_ups I (65 + k) (va_cpy (I 52) (I (65 + k)) 0 0 12)) 62 k x4) L)).bind pm_ai).bind (fun r => Rn X d co_Sh_goesOn (61, [some (vr 60), some (vr 49), o2, some (vi (Int32.ofNat k)), some (vi x4)], [vi r.1], r.2)) := by
  rcases two hb with rfl | rfl <;> rcases eight hk with rfl | rfl | rfl | rfl | rfl | rfl | rfl | rfl
  · exact sg_Sh_goesOn_49_19_0_25 ..
  · exact sg_Sh_goesOn_49_19_1_25 ..
  · exact sg_Sh_goesOn_49_19_2_25 ..
  · exact sg_Sh_goesOn_49_19_3_25 ..
  · exact sg_Sh_goesOn_49_19_4_25 ..
  · exact sg_Sh_goesOn_49_19_5_25 ..
  · exact sg_Sh_goesOn_49_19_6_25 ..
  · exact sg_Sh_goesOn_49_19_7_25 ..
  · exact sg_Sh_goesOn_49_23_0_25 ..
  · exact sg_Sh_goesOn_49_23_1_25 ..
  · exact sg_Sh_goesOn_49_23_2_25 ..
  · exact sg_Sh_goesOn_49_23_3_25 ..
  · exact sg_Sh_goesOn_49_23_4_25 ..
  · exact sg_Sh_goesOn_49_23_5_25 ..
  · exact sg_Sh_goesOn_49_23_6_25 ..
  · exact sg_Sh_goesOn_49_23_7_25 ..
theorem sgb_Sh_goesOn_61 (X : Nat × (Nat → Int32)) (d : Nat) (o0 o1 o2 o3 o4 : Option pm_V) (u0 : Int32) (al : List Nat) (D : Nat → Bool) (I : Nat → Nat → Int32) (L : Nat → Nat → Int64) : Rn X d co_Sh_goesOn (61, [o0, o1, o2, o3, o4], [vi u0], pm_mm al D I L) = cond (pm_01 u0) (some (some (vi u0), pm_mm al D I L)) none :=
  sg_Sh_goesOn_49_19_0_61 ..
theorem sgb_Wa_learn_0 {b : Nat} (hb : b < 4) (X : Nat × (Nat → Int32)) (d : Nat) (o2 : Option pm_V) (al : List Nat) (D : Nat → Bool) (I : Nat → Nat → Int32) (L : Nat → Nat → Int64) : Rn X d co_Wa_learn (0, [some (vr (220 + 3 * b)), some (vr 49), o2], [], pm_mm al (pm_tb (3 + b) D) I L) = Rn X d co_Wa_learn (2, [some (vr (220 + 3 * b)), some (vr 49), some (vi 0)], [], pm_mm al (pm_tb (3 + b) D) I L) := by
  rcases four hb with rfl | rfl | rfl | rfl
  · exact sg_Wa_learn_220_49_0 ..
  · exact sg_Wa_learn_223_49_0 ..
  · exact sg_Wa_learn_226_49_0 ..
  · exact sg_Wa_learn_229_49_0 ..
theorem sgb_Wa_learn_2 {b : Nat} (hb : b < 4) (X : Nat × (Nat → Int32)) (d : Nat) (x2 : Int32) (al : List Nat) (D : Nat → Bool) (I : Nat → Nat → Int32) (L : Nat → Nat → Int64) : Rn X d co_Wa_learn (2, [some (vr (220 + 3 * b)), some (vr 49), some (vi x2)], [], pm_mm al (pm_tb (3 + b) D) I L) = cond (decide (12 < x2)) (((Cl X d 45 [vr 49] (pm_mm al (pm_tb (3 + b) D) I (pm_up L (220 + 3 * b) 2 0))).bind pm_av).bind (fun r => Rn X d co_Wa_learn (30, [some (vr (220 + 3 * b)), some (vr 49), some (vi x2)], [], r))) (cond (pm_in x2 13) (Rn X d co_Wa_learn (2, [some (vr (220 + 3 * b)), some (vr 49), some (vi (x2 + 1))], [], pm_mm al (pm_tb (3 + b) D) (pm_up I (222 + 3 * b) x2.toNatClampNeg 0) L)) none) := by
  rcases four hb with rfl | rfl | rfl | rfl
  · exact sg_Wa_learn_220_49_2 ..
  · exact sg_Wa_learn_223_49_2 ..
  · exact sg_Wa_learn_226_49_2 ..
  · exact sg_Wa_learn_229_49_2 ..
theorem sgb_Wa_learn_30 {b : Nat} (hb : b < 4) (X : Nat × (Nat → Int32)) (d : Nat) (o2 : Option pm_V) (al : List Nat) (D : Nat → Bool) (I : Nat → Nat → Int32) (L : Nat → Nat → Int64) : Rn X d co_Wa_learn (30, [some (vr (220 + 3 * b)), some (vr 49), o2], [], pm_mm al (pm_tb (3 + b) D) I L) = ((Cl X d 99 [vr (220 + 3 * b), vr 49, vi 0, vi 0, vl 0] (pm_mm al (pm_tb (3 + b) D) I L)).bind pm_av).bind (fun r => Rn X d co_Wa_learn (38, [some (vr (220 + 3 * b)), some (vr 49), o2], [], r)) := by
  rcases four hb with rfl | rfl | rfl | rfl
  · exact sg_Wa_learn_220_49_30 ..
  · exact sg_Wa_learn_223_49_30 ..
  · exact sg_Wa_learn_226_49_30 ..
  · exact sg_Wa_learn_229_49_30 ..
theorem sgb_Wa_learn_38 {b : Nat} (hb : b < 4) (X : Nat × (Nat → Int32)) (d : Nat) (o1 o2 : Option pm_V) (al : List Nat) (D : Nat → Bool) (I : Nat → Nat → Int32) (L : Nat → Nat → Int64) : Rn X d co_Wa_learn (38, [some (vr (220 + 3 * b)), o1, o2], [], pm_mm al (pm_tb (3 + b) D) I L) = some (none, pm_mm al (pm_tb (3 + b) D) (pm_up I (220 + 3 * b) 3 1) L) := by
  rcases four hb with rfl | rfl | rfl | rfl
  · exact sg_Wa_learn_220_49_38 ..
  · exact sg_Wa_learn_223_49_38 ..
  · exact sg_Wa_learn_226_49_38 ..
  · exact sg_Wa_learn_229_49_38 ..
theorem sgb_Wa_spread_0 {b : Nat} (hb : b < 4) (X : Nat × (Nat → Int32)) (d : Nat) (x2 x3 : Int32) (y4 : Int64) (al : List Nat) (D : Nat → Bool) (I : Nat → Nat → Int32) (L : Nat → Nat → Int64) : Rn X d co_Wa_spread (0, [some (vr (220 + 3 * b)), some (vr 49), some (vi x2), some (vi x3), some (vl y4), none], [], pm_mm al (pm_tb (3 + b) D) I L) = cond (decide (x2 < 12)) (((Cl X d 46 [vr 49, vi x2, vi 0] (pm_mm al (pm_tb (3 + b) D) I L)).bind pm_av).bind (fun r => Rn X d co_Wa_spread (20, [some (vr (220 + 3 * b)), some (vr 49), some (vi x2), some (vi x3), some (vl y4), none], [], r))) (((Cl X d 100 [vr (220 + 3 * b), vi x3, vl y4] (pm_mm al (pm_tb (3 + b) D) I L)).bind pm_av).bind (fun r => Rn X d co_Wa_spread (13, [some (vr (220 + 3 * b)), some (vr 49), some (vi x2), some (vi x3), some (vl y4), none], [], r))) := by
  rcases four hb with rfl | rfl | rfl | rfl
  · exact sg_Wa_spread_220_49_0 ..
  · exact sg_Wa_spread_223_49_0 ..
  · exact sg_Wa_spread_226_49_0 ..
  · exact sg_Wa_spread_229_49_0 ..
theorem sgb_Wa_spread_13 (X : Nat × (Nat → Int32)) (d : Nat) (o0 o1 o2 o3 o4 o5 : Option pm_V) (al : List Nat) (D : Nat → Bool) (I : Nat → Nat → Int32) (L : Nat → Nat → Int64) : Rn X d co_Wa_spread (13, [o0, o1, o2, o3, o4, o5], [], pm_mm al D I L) = some (none, pm_mm al D I L) :=
  sg_Wa_spread_220_49_13 ..
theorem sgb_Wa_spread_20 {b : Nat} (hb : b < 4) (X : Nat × (Nat → Int32)) (d : Nat) (x2 x3 : Int32) (y4 : Int64) (al : List Nat) (D : Nat → Bool) (I : Nat → Nat → Int32) (L : Nat → Nat → Int64) : Rn X d co_Wa_spread (20, [some (vr (220 + 3 * b)), some (vr 49), some (vi x2), some (vi x3), some (vl y4), none], [], pm_mm al (pm_tb (3 + b) D) I L) = ((Cl X d 101 [vr 49, vi x2] (pm_mm al (pm_tb (3 + b) D) I L)).bind pm_al).bind (fun r => Rn X d co_Wa_spread (33, [some (vr (220 + 3 * b)), some (vr 49), some (vi x2), some (vi x3), some (vl y4), none], [vl r.1, vl y4, vi x3, vi (x2 + 1), vr 49, vr (220 + 3 * b)], r.2)) := by
  rcases four hb with rfl | rfl | rfl | rfl
  · exact sg_Wa_spread_220_49_20 ..
  · exact sg_Wa_spread_223_49_20 ..
  · exact sg_Wa_spread_226_49_20 ..
  · exact sg_Wa_spread_229_49_20 ..
theorem sgb_Wa_spread_33 {b : Nat} (hb : b < 4) (X : Nat × (Nat → Int32)) (d : Nat) (x2 x3 : Int32) (y4 : Int64) (u2 u3 : Int32) (w4 w5 : Int64) (al : List Nat) (D : Nat → Bool) (I : Nat → Nat → Int32) (L : Nat → Nat → Int64) : Rn X d co_Wa_spread (33, [some (vr (220 + 3 * b)), some (vr 49), some (vi x2), some (vi x3), some (vl y4), none], [vl w5, vl w4, vi u3, vi u2, vr 49, vr (220 + 3 * b)], pm_mm al (pm_tb (3 + b) D) I L) = ((Cl X d 99 [vr (220 + 3 * b), vr 49, vi u2, vi u3, vl (w4 + w5)] (pm_mm al (pm_tb (3 + b) D) I L)).bind pm_av).bind (fun r => Rn X d co_Wa_spread (37, [some (vr (220 + 3 * b)), some (vr 49), some (vi x2), some (vi x3), some (vl y4), none], [], r)) := by
  rcases four hb with rfl | rfl | rfl | rfl
  · exact sg_Wa_spread_220_49_33 ..
  · exact sg_Wa_spread_223_49_33 ..
  · exact sg_Wa_spread_226_49_33 ..
  · exact sg_Wa_spread_229_49_33 ..
theorem sgb_Wa_spread_37 {b : Nat} (hb : b < 4) (X : Nat × (Nat → Int32)) (d : Nat) (x2 x3 : Int32) (y4 : Int64) (al : List Nat) (D : Nat → Bool) (I : Nat → Nat → Int32) (L : Nat → Nat → Int64) : Rn X d co_Wa_spread (37, [some (vr (220 + 3 * b)), some (vr 49), some (vi x2), some (vi x3), some (vl y4), none], [], pm_mm al (pm_tb (3 + b) D) I L) = ((Cl X d 46 [vr 49, vi x2, vi 1] (pm_mm al (pm_tb (3 + b) D) I L)).bind pm_av).bind (fun r => Rn X d co_Wa_spread (43, [some (vr (220 + 3 * b)), some (vr 49), some (vi x2), some (vi x3), some (vl y4), none], [], r)) := by
  rcases four hb with rfl | rfl | rfl | rfl
  · exact sg_Wa_spread_220_49_37 ..
  · exact sg_Wa_spread_223_49_37 ..
  · exact sg_Wa_spread_226_49_37 ..
  · exact sg_Wa_spread_229_49_37 ..
theorem sgb_Wa_spread_43 {b : Nat} (hb : b < 4) (X : Nat × (Nat → Int32)) (d : Nat) (x2 x3 : Int32) (y4 : Int64) (al : List Nat) (D : Nat → Bool) (I : Nat → Nat → Int32) (L : Nat → Nat → Int64) : Rn X d co_Wa_spread (43, [some (vr (220 + 3 * b)), some (vr 49), some (vi x2), some (vi x3), some (vl y4), none], [], pm_mm al (pm_tb (3 + b) D) I L) = ((Cl X d 101 [vr 49, vi x2] (pm_mm al (pm_tb (3 + b) D) I L)).bind pm_al).bind (fun r => Rn X d co_Wa_spread (60, [some (vr (220 + 3 * b)), some (vr 49), some (vi x2), some (vi x3), some (vl y4), none], [vl r.1, vl y4, vi (x3 ||| (1 <<< (x2 &&& 31))), vi (x2 + 1), vr 49, vr (220 + 3 * b)], r.2)) := by
  rcases four hb with rfl | rfl | rfl | rfl
  · exact sg_Wa_spread_220_49_43 ..
  · exact sg_Wa_spread_223_49_43 ..
  · exact sg_Wa_spread_226_49_43 ..
  · exact sg_Wa_spread_229_49_43 ..
theorem sgb_Wa_spread_60 {b : Nat} (hb : b < 4) (X : Nat × (Nat → Int32)) (d : Nat) (o0 o1 o2 o3 o4 o5 : Option pm_V) (u2 u3 : Int32) (w4 w5 : Int64) (al : List Nat) (D : Nat → Bool) (I : Nat → Nat → Int32) (L : Nat → Nat → Int64) : Rn X d co_Wa_spread (60, [o0, o1, o2, o3, o4, o5], [vl w5, vl w4, vi u3, vi u2, vr 49, vr (220 + 3 * b)], pm_mm al (pm_tb (3 + b) D) I L) = ((Cl X d 99 [vr (220 + 3 * b), vr 49, vi u2, vi u3, vl (w4 + w5)] (pm_mm al (pm_tb (3 + b) D) I L)).bind pm_av).bind (fun r => Rn X d co_Wa_spread (64, [o0, o1, o2, o3, o4, o5], [], r)) := by
  rcases four hb with rfl | rfl | rfl | rfl
  · exact sg_Wa_spread_220_49_60 ..
  · exact sg_Wa_spread_223_49_60 ..
  · exact sg_Wa_spread_226_49_60 ..
  · exact sg_Wa_spread_229_49_60 ..
theorem sgb_Wa_spread_64 (X : Nat × (Nat → Int32)) (d : Nat) (o0 o1 o2 o3 o4 o5 : Option pm_V) (al : List Nat) (D : Nat → Bool) (I : Nat → Nat → Int32) (L : Nat → Nat → Int64) : Rn X d co_Wa_spread (64, [o0, o1, o2, o3, o4, o5], [], pm_mm al D I L) = some (none, pm_mm al D I L) :=
  sg_Wa_spread_220_49_64 ..
theorem sgb_Wa_keepWay_0 {b : Nat} (hb : b < 4) (X : Nat × (Nat → Int32)) (d : Nat) (x1 : Int32) (y2 : Int64) (al : List Nat) (D : Nat → Bool) (I : Nat → Nat → Int32) (L : Nat → Nat → Int64) : Rn X d co_Wa_keepWay (0, [some (vr (220 + 3 * b)), some (vi x1), some (vl y2), none], [], pm_mm al (pm_tb (3 + b) D) I L) = cond (pm_in x1 4096) (((Cl X d 102 [vl y2] (pm_mm al (pm_tb (3 + b) D) I (pm_up L (221 + 3 * b) x1.toNatClampNeg y2))).bind pm_ai).bind (fun r => Rn X d co_Wa_keepWay (16, [some (vr (220 + 3 * b)), some (vi x1), some (vl y2), none], [vi r.1, vl (L (220 + 3 * b) 2), vr (220 + 3 * b)], r.2))) none := by
  rcases four hb with rfl | rfl | rfl | rfl
  · exact sg_Wa_keepWay_220_0 ..
  · exact sg_Wa_keepWay_223_0 ..
  · exact sg_Wa_keepWay_226_0 ..
  · exact sg_Wa_keepWay_229_0 ..
theorem sgb_Wa_keepWay_16 {b : Nat} (hb : b < 4) (X : Nat × (Nat → Int32)) (d : Nat) (x1 : Int32) (y2 w1 : Int64) (u2 : Int32) (al : List Nat) (D : Nat → Bool) (I : Nat → Nat → Int32) (L : Nat → Nat → Int64) : Rn X d co_Wa_keepWay (16, [some (vr (220 + 3 * b)), some (vi x1), some (vl y2), none], [vi u2, vl w1, vr (220 + 3 * b)], pm_mm al (pm_tb (3 + b) D) I L) = ((Cl X d 102 [vl y2] (pm_mm al (pm_tb (3 + b) D) I (pm_up L (220 + 3 * b) 2 (w1 + u2.toInt64)))).bind pm_ai).bind (fun r => Rn X d co_Wa_keepWay (25, [some (vr (220 + 3 * b)), some (vi x1), some (vl y2), none], [vi r.1], r.2)) := by
  rcases four hb with rfl | rfl | rfl | rfl
  · exact sg_Wa_keepWay_220_16 ..
  · exact sg_Wa_keepWay_223_16 ..
  · exact sg_Wa_keepWay_226_16 ..
  · exact sg_Wa_keepWay_229_16 ..
theorem sgb_Wa_keepWay_25 {b : Nat} (hb : b < 4) (X : Nat × (Nat → Int32)) (d : Nat) (x1 : Int32) (o2 o3 : Option pm_V) (u0 : Int32) (al : List Nat) (D : Nat → Bool) (I : Nat → Nat → Int32) (L : Nat → Nat → Int64) : Rn X d co_Wa_keepWay (25, [some (vr (220 + 3 * b)), some (vi x1), o2, o3], [vi u0], pm_mm al (pm_tb (3 + b) D) I L) = cond (decide (u0 = 0)) (((Cl X d 1 [vi x1] (pm_mm al (pm_tb (3 + b) D) I L)).bind pm_ai).bind (fun r => Rn X d co_Wa_keepWay (36, [some (vr (220 + 3 * b)), some (vi x1), o2, o3], [vi r.1, vr (222 + 3 * b)], r.2))) (Rn X d co_Wa_keepWay (41, [some (vr (220 + 3 * b)), some (vi x1), o2, o3], [], pm_mm al (pm_tb (3 + b) D) I L)) := by
  rcases four hb with rfl | rfl | rfl | rfl
  · exact sg_Wa_keepWay_220_25 ..
  · exact sg_Wa_keepWay_223_25 ..
  · exact sg_Wa_keepWay_226_25 ..
  · exact sg_Wa_keepWay_229_25 ..
theorem sgb_Wa_keepWay_36 {b : Nat} (hb : b < 4) (X : Nat × (Nat → Int32)) (d : Nat) (o0 o1 o2 o3 : Option pm_V) (u1 : Int32) (al : List Nat) (D : Nat → Bool) (I : Nat → Nat → Int32) (L : Nat → Nat → Int64) : Rn X d co_Wa_keepWay (36, [o0, o1, o2, o3], [vi u1, vr (222 + 3 * b)], pm_mm al (pm_tb (3 + b) D) I L) = cond (pm_in u1 13) (cond (pm_in u1 13) (Rn X d co_Wa_keepWay (41, [o0, o1, o2, o3], [], pm_mm al (pm_tb (3 + b) D) (pm_up I (222 + 3 * b) u1.toNatClampNeg ((I (222 + 3 * b) u1.toNatClampNeg) + 1)) L)) none) none := by
  rcases four hb with rfl | rfl | rfl | rfl
  · exact sg_Wa_keepWay_220_36 ..
  · exact sg_Wa_keepWay_223_36 ..
  · exact sg_Wa_keepWay_226_36 ..
  · exact sg_Wa_keepWay_229_36 ..
theorem sgb_Wa_keepWay_41 (X : Nat × (Nat → Int32)) (d : Nat) (o0 o1 o2 o3 : Option pm_V) (al : List Nat) (D : Nat → Bool) (I : Nat → Nat → Int32) (L : Nat → Nat → Int64) : Rn X d co_Wa_keepWay (41, [o0, o1, o2, o3], [], pm_mm al D I L) = some (none, pm_mm al D I L) :=
  sg_Wa_keepWay_220_41 ..
