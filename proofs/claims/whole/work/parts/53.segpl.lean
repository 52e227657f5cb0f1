def st_He_init (pc : Nat) : Bool := cond (Nat.beq pc 0) (true) (false)
def st_He_take (pc : Nat) : Bool := cond (Nat.ble 36 pc) (cond (Nat.ble 52 pc) (cond (Nat.ble 82 pc) (cond (Nat.beq pc 82) (true) (false)) (cond (Nat.beq pc 52) (true) (false))) (cond (Nat.beq pc 36) (true) (false))) (cond (Nat.ble 17 pc) (cond (Nat.beq pc 17) (true) (false)) (cond (Nat.beq pc 0) (true) (false)))
set_option maxRecDepth 20000 in
theorem sg_He_take_27_0 (X : Nat × (Nat → Int32)) (d : Nat) (o2 o3 o4 o5 o6 : Option pm_V) (al : List Nat) (D : Nat → Bool) (I : Nat → Nat → Int32) (L : Nat → Nat → Int64) : Rn X d co_He_take (0, [some (vr 76), some (vr 27), o2, o3, o4, o5, o6], [], pm_mm al D I L) = Rn X d co_He_take (17, [some (vr 76), some (vr 27), some (vi 0), o3, o4, o5, o6], [], pm_mm al D (pm_up I 76 2 0) (pm_up (pm_up L 76 0 0) 76 1 0)) :=
  (Sg_eq X d co_He_take st_He_take 12 _).trans rfl
set_option maxRecDepth 20000 in
theorem sg_He_take_27_17 (X : Nat × (Nat → Int32)) (d : Nat) (x2 : Int32) (o3 o4 o5 o6 : Option pm_V) (al : List Nat) (D : Nat → Bool) (I : Nat → Nat → Int32) (L : Nat → Nat → Int64) : Rn X d co_He_take (17, [some (vr 76), some (vr 27), some (vi x2), o3, o4, o5, o6], [], pm_mm al D I L) = cond (decide ((I 27 0) ≤ x2)) (some (none, pm_mm al D I L)) (cond (pm_in x2 8) (((Cl X d 104 [vi 7, vi (I 28 x2.toNatClampNeg)] (pm_mm al D I L)).bind pm_al).bind (fun r => Rn X d co_He_take (36, [some (vr 76), some (vr 27), some (vi x2), o3, o4, o5, o6], [vl r.1], r.2))) none) :=
  (Sg_eq X d co_He_take st_He_take 10 _).trans rfl
set_option maxRecDepth 20000 in
theorem sg_He_take_27_36 (X : Nat × (Nat → Int32)) (d : Nat) (x2 : Int32) (o3 o4 o5 o6 : Option pm_V) (w0 : Int64) (al : List Nat) (D : Nat → Bool) (I : Nat → Nat → Int32) (L : Nat → Nat → Int64) : Rn X d co_He_take (36, [some (vr 76), some (vr 27), some (vi x2), o3, o4, o5, o6], [vl w0], pm_mm al D I L) = cond (pm_in x2 8) (cond (pm_in x2 8) (((Cl X d 104 [vi (I 29 x2.toNatClampNeg), vi (I 28 x2.toNatClampNeg)] (pm_mm al D I L)).bind pm_al).bind (fun r => Rn X d co_He_take (52, [some (vr 76), some (vr 27), some (vi x2), some (vl w0), none, o5, o6], [vl r.1], r.2))) none) none :=
  (Sg_eq X d co_He_take st_He_take 10 _).trans rfl
set_option maxRecDepth 20000 in
theorem sg_He_take_27_52 (X : Nat × (Nat → Int32)) (d : Nat) (x2 : Int32) (y3 : Int64) (o5 o6 : Option pm_V) (w0 : Int64) (al : List Nat) (D : Nat → Bool) (I : Nat → Nat → Int32) (L : Nat → Nat → Int64) : Rn X d co_He_take (52, [some (vr 76), some (vr 27), some (vi x2), some (vl y3), none, o5, o6], [vl w0], pm_mm al D I L) = cond (decide ((lg_cmp ((L 76 0) &&& y3) 0) = 0)) (Rn X d co_He_take (82, [some (vr 76), some (vr 27), some (vi x2), some (vl y3), none, some (vl w0), none], [], pm_mm al D I L)) (cond (decide ((lg_cmp ((L 76 1) &&& y3) w0) = 0)) (Rn X d co_He_take (82, [some (vr 76), some (vr 27), some (vi x2), some (vl y3), none, some (vl w0), none], [], pm_mm al D I L)) (Rn X d co_He_take (82, [some (vr 76), some (vr 27), some (vi x2), some (vl y3), none, some (vl w0), none], [], pm_mm al D (pm_up I 76 2 1) L))) :=
  (Sg_eq X d co_He_take st_He_take 19 _).trans rfl
set_option maxRecDepth 20000 in
theorem sg_He_take_27_82 (X : Nat × (Nat → Int32)) (d : Nat) (x2 : Int32) (y3 y5 : Int64) (al : List Nat) (D : Nat → Bool) (I : Nat → Nat → Int32) (L : Nat → Nat → Int64) : Rn X d co_He_take (82, [some (vr 76), some (vr 27), some (vi x2), some (vl y3), none, some (vl y5), none], [], pm_mm al D I L) = Rn X d co_He_take (17, [some (vr 76), some (vr 27), some (vi (x2 + 1)), some (vl y3), none, some (vl y5), none], [], pm_mm al D I (pm_up (pm_up L 76 0 ((L 76 0) ||| y3)) 76 1 ((L 76 1) ||| y5))) :=
  (Sg_eq X d co_He_take st_He_take 15 _).trans rfl
set_option maxRecDepth 20000 in
theorem sg_He_take_30_0 (X : Nat × (Nat → Int32)) (d : Nat) (o2 o3 o4 o5 o6 : Option pm_V) (al : List Nat) (D : Nat → Bool) (I : Nat → Nat → Int32) (L : Nat → Nat → Int64) : Rn X d co_He_take (0, [some (vr 76), some (vr 30), o2, o3, o4, o5, o6], [], pm_mm al D I L) = Rn X d co_He_take (17, [some (vr 76), some (vr 30), some (vi 0), o3, o4, o5, o6], [], pm_mm al D (pm_up I 76 2 0) (pm_up (pm_up L 76 0 0) 76 1 0)) :=
  (Sg_eq X d co_He_take st_He_take 12 _).trans rfl
set_option maxRecDepth 20000 in
theorem sg_He_take_30_17 (X : Nat × (Nat → Int32)) (d : Nat) (x2 : Int32) (o3 o4 o5 o6 : Option pm_V) (al : List Nat) (D : Nat → Bool) (I : Nat → Nat → Int32) (L : Nat → Nat → Int64) : Rn X d co_He_take (17, [some (vr 76), some (vr 30), some (vi x2), o3, o4, o5, o6], [], pm_mm al D I L) = cond (decide ((I 30 0) ≤ x2)) (some (none, pm_mm al D I L)) (cond (pm_in x2 8) (((Cl X d 104 [vi 7, vi (I 31 x2.toNatClampNeg)] (pm_mm al D I L)).bind pm_al).bind (fun r => Rn X d co_He_take (36, [some (vr 76), some (vr 30), some (vi x2), o3, o4, o5, o6], [vl r.1], r.2))) none) :=
  (Sg_eq X d co_He_take st_He_take 10 _).trans rfl
set_option maxRecDepth 20000 in
theorem sg_He_take_30_36 (X : Nat × (Nat → Int32)) (d : Nat) (x2 : Int32) (o3 o4 o5 o6 : Option pm_V) (w0 : Int64) (al : List Nat) (D : Nat → Bool) (I : Nat → Nat → Int32) (L : Nat → Nat → Int64) : Rn X d co_He_take (36, [some (vr 76), some (vr 30), some (vi x2), o3, o4, o5, o6], [vl w0], pm_mm al D I L) = cond (pm_in x2 8) (cond (pm_in x2 8) (((Cl X d 104 [vi (I 32 x2.toNatClampNeg), vi (I 31 x2.toNatClampNeg)] (pm_mm al D I L)).bind pm_al).bind (fun r => Rn X d co_He_take (52, [some (vr 76), some (vr 30), some (vi x2), some (vl w0), none, o5, o6], [vl r.1], r.2))) none) none :=
  (Sg_eq X d co_He_take st_He_take 10 _).trans rfl
set_option maxRecDepth 20000 in
theorem sg_He_take_30_52 (X : Nat × (Nat → Int32)) (d : Nat) (x2 : Int32) (y3 : Int64) (o5 o6 : Option pm_V) (w0 : Int64) (al : List Nat) (D : Nat → Bool) (I : Nat → Nat → Int32) (L : Nat → Nat → Int64) : Rn X d co_He_take (52, [some (vr 76), some (vr 30), some (vi x2), some (vl y3), none, o5, o6], [vl w0], pm_mm al D I L) = cond (decide ((lg_cmp ((L 76 0) &&& y3) 0) = 0)) (Rn X d co_He_take (82, [some (vr 76), some (vr 30), some (vi x2), some (vl y3), none, some (vl w0), none], [], pm_mm al D I L)) (cond (decide ((lg_cmp ((L 76 1) &&& y3) w0) = 0)) (Rn X d co_He_take (82, [some (vr 76), some (vr 30), some (vi x2), some (vl y3), none, some (vl w0), none], [], pm_mm al D I L)) (Rn X d co_He_take (82, [some (vr 76), some (vr 30), some (vi x2), some (vl y3), none, some (vl w0), none], [], pm_mm al D (pm_up I 76 2 1) L))) :=
  (Sg_eq X d co_He_take st_He_take 19 _).trans rfl
set_option maxRecDepth 20000 in
theorem sg_He_take_30_82 (X : Nat × (Nat → Int32)) (d : Nat) (x2 : Int32) (y3 y5 : Int64) (al : List Nat) (D : Nat → Bool) (I : Nat → Nat → Int32) (L : Nat → Nat → Int64) : Rn X d co_He_take (82, [some (vr 76), some (vr 30), some (vi x2), some (vl y3), none, some (vl y5), none], [], pm_mm al D I L) = Rn X d co_He_take (17, [some (vr 76), some (vr 30), some (vi (x2 + 1)), some (vl y3), none, some (vl y5), none], [], pm_mm al D I (pm_up (pm_up L 76 0 ((L 76 0) ||| y3)) 76 1 ((L 76 1) ||| y5))) :=
  (Sg_eq X d co_He_take st_He_take 15 _).trans rfl
def st_He_agrees (pc : Nat) : Bool := cond (Nat.ble 25 pc) (cond (Nat.ble 26 pc) (cond (Nat.beq pc 26) (true) (false)) (cond (Nat.beq pc 25) (true) (false))) (cond (Nat.beq pc 0) (true) (false))
set_option maxRecDepth 20000 in
theorem sg_He_agrees_0 (X : Nat × (Nat → Int32)) (d : Nat) (y1 : Int64) (al : List Nat) (D : Nat → Bool) (I : Nat → Nat → Int32) (L : Nat → Nat → Int64) : Rn X d co_He_agrees (0, [some (vr 76), some (vl y1), none], [], pm_mm al D I L) = cond (decide ((I 76 2) = 0)) (cond (decide ((lg_cmp (y1 &&& (L 76 0)) (L 76 1)) = 0)) (Rn X d co_He_agrees (26, [some (vr 76), some (vl y1), none], [vi 1], pm_mm al D I L)) (Rn X d co_He_agrees (25, [some (vr 76), some (vl y1), none], [], pm_mm al D I L))) (Rn X d co_He_agrees (25, [some (vr 76), some (vl y1), none], [], pm_mm al D I L)) :=
  (Sg_eq X d co_He_agrees st_He_agrees 14 _).trans rfl
set_option maxRecDepth 20000 in
theorem sg_He_agrees_25 (X : Nat × (Nat → Int32)) (d : Nat) (o0 o1 o2 : Option pm_V) (al : List Nat) (D : Nat → Bool) (I : Nat → Nat → Int32) (L : Nat → Nat → Int64) : Rn X d co_He_agrees (25, [o0, o1, o2], [], pm_mm al D I L) = Rn X d co_He_agrees (26, [o0, o1, o2], [vi 0], pm_mm al D I L) :=
  (Sg_eq X d co_He_agrees st_He_agrees 2 _).trans rfl
set_option maxRecDepth 20000 in
theorem sg_He_agrees_26 (X : Nat × (Nat → Int32)) (d : Nat) (o0 o1 o2 : Option pm_V) (u0 : Int32) (al : List Nat) (D : Nat → Bool) (I : Nat → Nat → Int32) (L : Nat → Nat → Int64) : Rn X d co_He_agrees (26, [o0, o1, o2], [vi u0], pm_mm al D I L) = cond (pm_01 u0) (some (some (vi u0), pm_mm al D I L)) none :=
  (Sg_eq X d co_He_agrees st_He_agrees 1 _).trans rfl
def st_He_ways (pc : Nat) : Bool := cond (Nat.ble 17 pc) (cond (Nat.ble 23 pc) (cond (Nat.beq pc 23) (true) (false)) (cond (Nat.beq pc 17) (true) (false))) (cond (Nat.ble 4 pc) (cond (Nat.beq pc 4) (true) (false)) (cond (Nat.beq pc 0) (true) (false)))
set_option maxRecDepth 20000 in
theorem sg_He_ways_221_0 (X : Nat × (Nat → Int32)) (d : Nat) (o2 o3 : Option pm_V) (al : List Nat) (D : Nat → Bool) (I : Nat → Nat → Int32) (L : Nat → Nat → Int64) : Rn X d co_He_ways (0, [some (vr 76), some (vr 221), o2, o3], [], pm_mm al (pm_tb 3 D) I L) = Rn X d co_He_ways (4, [some (vr 76), some (vr 221), some (vi 0), some (vi 0)], [], pm_mm al (pm_tb 3 D) I L) :=
  (Sg_eq X d co_He_ways st_He_ways 5 _).trans rfl
set_option maxRecDepth 20000 in
theorem sg_He_ways_221_4 (X : Nat × (Nat → Int32)) (d : Nat) (x2 x3 : Int32) (al : List Nat) (D : Nat → Bool) (I : Nat → Nat → Int32) (L : Nat → Nat → Int64) : Rn X d co_He_ways (4, [some (vr 76), some (vr 221), some (vi x2), some (vi x3)], [], pm_mm al (pm_tb 3 D) I L) = cond (decide (4096 ≤ x3)) (some (some (vi x2), pm_mm al (pm_tb 3 D) I L)) (cond (pm_in x3 4096) (((Cl X d 21 [vr 76, vl (L 221 x3.toNatClampNeg)] (pm_mm al (pm_tb 3 D) I L)).bind pm_ai).bind (fun r => Rn X d co_He_ways (17, [some (vr 76), some (vr 221), some (vi x2), some (vi x3)], [vi r.1], r.2))) none) :=
  (Sg_eq X d co_He_ways st_He_ways 9 _).trans rfl
set_option maxRecDepth 20000 in
theorem sg_He_ways_221_17 (X : Nat × (Nat → Int32)) (d : Nat) (x2 x3 u0 : Int32) (al : List Nat) (D : Nat → Bool) (I : Nat → Nat → Int32) (L : Nat → Nat → Int64) : Rn X d co_He_ways (17, [some (vr 76), some (vr 221), some (vi x2), some (vi x3)], [vi u0], pm_mm al (pm_tb 3 D) I L) = cond (decide (u0 = 0)) (Rn X d co_He_ways (23, [some (vr 76), some (vr 221), some (vi x2), some (vi x3)], [], pm_mm al (pm_tb 3 D) I L)) (Rn X d co_He_ways (23, [some (vr 76), some (vr 221), some (vi (x2 + 1)), some (vi x3)], [], pm_mm al (pm_tb 3 D) I L)) :=
  (Sg_eq X d co_He_ways st_He_ways 3 _).trans rfl
set_option maxRecDepth 20000 in
theorem sg_He_ways_221_23 (X : Nat × (Nat → Int32)) (d : Nat) (x2 x3 : Int32) (al : List Nat) (D : Nat → Bool) (I : Nat → Nat → Int32) (L : Nat → Nat → Int64) : Rn X d co_He_ways (23, [some (vr 76), some (vr 221), some (vi x2), some (vi x3)], [], pm_mm al (pm_tb 3 D) I L) = Rn X d co_He_ways (4, [some (vr 76), some (vr 221), some (vi x2), some (vi (x3 + 1))], [], pm_mm al (pm_tb 3 D) I L) :=
  (Sg_eq X d co_He_ways st_He_ways 3 _).trans rfl
set_option maxRecDepth 20000 in
theorem sg_He_ways_224_0 (X : Nat × (Nat → Int32)) (d : Nat) (o2 o3 : Option pm_V) (al : List Nat) (D : Nat → Bool) (I : Nat → Nat → Int32) (L : Nat → Nat → Int64) : Rn X d co_He_ways (0, [some (vr 76), some (vr 224), o2, o3], [], pm_mm al (pm_tb 4 D) I L) = Rn X d co_He_ways (4, [some (vr 76), some (vr 224), some (vi 0), some (vi 0)], [], pm_mm al (pm_tb 4 D) I L) :=
  (Sg_eq X d co_He_ways st_He_ways 5 _).trans rfl
set_option maxRecDepth 20000 in
theorem sg_He_ways_224_4 (X : Nat × (Nat → Int32)) (d : Nat) (x2 x3 : Int32) (al : List Nat) (D : Nat → Bool) (I : Nat → Nat → Int32) (L : Nat → Nat → Int64) : Rn X d co_He_ways (4, [some (vr 76), some (vr 224), some (vi x2), some (vi x3)], [], pm_mm al (pm_tb 4 D) I L) = cond (decide (4096 ≤ x3)) (some (some (vi x2), pm_mm al (pm_tb 4 D) I L)) (cond (pm_in x3 4096) (((Cl X d 21 [vr 76, vl (L 224 x3.toNatClampNeg)] (pm_mm al (pm_tb 4 D) I L)).bind pm_ai).bind (fun r => Rn X d co_He_ways (17, [some (vr 76), some (vr 224), some (vi x2), some (vi x3)], [vi r.1], r.2))) none) :=
  (Sg_eq X d co_He_ways st_He_ways 9 _).trans rfl
set_option maxRecDepth 20000 in
theorem sg_He_ways_224_17 (X : Nat × (Nat → Int32)) (d : Nat) (x2 x3 u0 : Int32) (al : List Nat) (D : Nat → Bool) (I : Nat → Nat → Int32) (L : Nat → Nat → Int64) : Rn X d co_He_ways (17, [some (vr 76), some (vr 224), some (vi x2), some (vi x3)], [vi u0], pm_mm al (pm_tb 4 D) I L) = cond (decide (u0 = 0)) (Rn X d co_He_ways (23, [some (vr 76), some (vr 224), some (vi x2), some (vi x3)], [], pm_mm al (pm_tb 4 D) I L)) (Rn X d co_He_ways (23, [some (vr 76), some (vr 224), some (vi (x2 + 1)), some (vi x3)], [], pm_mm al (pm_tb 4 D) I L)) :=
  (Sg_eq X d co_He_ways st_He_ways 3 _).trans rfl
set_option maxRecDepth 20000 in
theorem sg_He_ways_224_23 (X : Nat × (Nat → Int32)) (d : Nat) (x2 x3 : Int32) (al : List Nat) (D : Nat → Bool) (I : Nat → Nat → Int32) (L : Nat → Nat → Int64) : Rn X d co_He_ways (23, [some (vr 76), some (vr 224), some (vi x2), some (vi x3)], [], pm_mm al (pm_tb 4 D) I L) = Rn X d co_He_ways (4, [some (vr 76), some (vr 224), some (vi x2), some (vi (x3 + 1))], [], pm_mm al (pm_tb 4 D) I L) :=
  (Sg_eq X d co_He_ways st_He_ways 3 _).trans rfl
set_option maxRecDepth 20000 in
theorem sg_He_ways_227_0 (X : Nat × (Nat → Int32)) (d : Nat) (o2 o3 : Option pm_V) (al : List Nat) (D : Nat → Bool) (I : Nat → Nat → Int32) (L : Nat → Nat → Int64) : Rn X d co_He_ways (0, [some (vr 76), some (vr 227), o2, o3], [], pm_mm al (pm_tb 5 D) I L) = Rn X d co_He_ways (4, [some (vr 76), some (vr 227), some (vi 0), some (vi 0)], [], pm_mm al (pm_tb 5 D) I L) :=
  (Sg_eq X d co_He_ways st_He_ways 5 _).trans rfl
set_option maxRecDepth 20000 in
theorem sg_He_ways_227_4 (X : Nat × (Nat → Int32)) (d : Nat) (x2 x3 : Int32) (al : List Nat) (D : Nat → Bool) (I : Nat → Nat → Int32) (L : Nat → Nat → Int64) : Rn X d co_He_ways (4, [some (vr 76), some (vr 227), some (vi x2), some (vi x3)], [], pm_mm al (pm_tb 5 D) I L) = cond (decide (4096 ≤ x3)) (some (some (vi x2), pm_mm al (pm_tb 5 D) I L)) (cond (pm_in x3 4096) (((Cl X d 21 [vr 76, vl (L 227 x3.toNatClampNeg)] (pm_mm al (pm_tb 5 D) I L)).bind pm_ai).bind (fun r => Rn X d co_He_ways (17, [some (vr 76), some (vr 227), some (vi x2), some (vi x3)], [vi r.1], r.2))) none) :=
  (Sg_eq X d co_He_ways st_He_ways 9 _).trans rfl
set_option maxRecDepth 20000 in
theorem sg_He_ways_227_17 (X : Nat × (Nat → Int32)) (d : Nat) (x2 x3 u0 : Int32) (al : List Nat) (D : Nat → Bool) (I : Nat → Nat → Int32) (L : Nat → Nat → Int64) : Rn X d co_He_ways (17, [some (vr 76), some (vr 227), some (vi x2), some (vi x3)], [vi u0], pm_mm al (pm_tb 5 D) I L) = cond (decide (u0 = 0)) (Rn X d co_He_ways (23, [some (vr 76), some (vr 227), some (vi x2), some (vi x3)], [], pm_mm al (pm_tb 5 D) I L)) (Rn X d co_He_ways (23, [some (vr 76), some (vr 227), some (vi (x2 + 1)), some (vi x3)], [], pm_mm al (pm_tb 5 D) I L)) :=
  (Sg_eq X d co_He_ways st_He_ways 3 _).trans rfl
set_option maxRecDepth 20000 in
theorem sg_He_ways_227_23 (X : Nat × (Nat → Int32)) (d : Nat) (x2 x3 : Int32) (al : List Nat) (D : Nat → Bool) (I : Nat → Nat → Int32) (L : Nat → Nat → Int64) : Rn X d co_He_ways (23, [some (vr 76), some (vr 227), some (vi x2), some (vi x3)], [], pm_mm al (pm_tb 5 D) I L) = Rn X d co_He_ways (4, [some (vr 76), some (vr 227), some (vi x2), some (vi (x3 + 1))], [], pm_mm al (pm_tb 5 D) I L) :=
  (Sg_eq X d co_He_ways st_He_ways 3 _).trans rfl
set_option maxRecDepth 20000 in
theorem sg_He_ways_230_0 (X : Nat × (Nat → Int32)) (d : Nat) (o2 o3 : Option pm_V) (al : List Nat) (D : Nat → Bool) (I : Nat → Nat → Int32) (L : Nat → Nat → Int64) : Rn X d co_He_ways (0, [some (vr 76), some (vr 230), o2, o3], [], pm_mm al (pm_tb 6 D) I L) = Rn X d co_He_ways (4, [some (vr 76), some (vr 230), some (vi 0), some (vi 0)], [], pm_mm al (pm_tb 6 D) I L) :=
  (Sg_eq X d co_He_ways st_He_ways 5 _).trans rfl
set_option maxRecDepth 20000 in
theorem sg_He_ways_230_4 (X : Nat × (Nat → Int32)) (d : Nat) (x2 x3 : Int32) (al : List Nat) (D : Nat → Bool) (I : Nat → Nat → Int32) (L : Nat → Nat → Int64) : Rn X d co_He_ways (4, [some (vr 76), some (vr 230), some (vi x2), some (vi x3)], [], pm_mm al (pm_tb 6 D) I L) = cond (decide (4096 ≤ x3)) (some (some (vi x2), pm_mm al (pm_tb 6 D) I L)) (cond (pm_in x3 4096) (((Cl X d 21 [vr 76, vl (L 230 x3.toNatClampNeg)] (pm_mm al (pm_tb 6 D) I L)).bind pm_ai).bind (fun r => Rn X d co_He_ways (17, [some (vr 76), some (vr 230), some (vi x2), some (vi x3)], [vi r.1], r.2))) none) :=
  (Sg_eq X d co_He_ways st_He_ways 9 _).trans rfl
set_option maxRecDepth 20000 in
theorem sg_He_ways_230_17 (X : Nat × (Nat → Int32)) (d : Nat) (x2 x3 u0 : Int32) (al : List Nat) (D : Nat → Bool) (I : Nat → Nat → Int32) (L : Nat → Nat → Int64) : Rn X d co_He_ways (17, [some (vr 76), some (vr 230), some (vi x2), some (vi x3)], [vi u0], pm_mm al (pm_tb 6 D) I L) = cond (decide (u0 = 0)) (Rn X d co_He_ways (23, [some (vr 76), some (vr 230), some (vi x2), some (vi x3)], [], pm_mm al (pm_tb 6 D) I L)) (Rn X d co_He_ways (23, [some (vr 76), some (vr 230), some (vi (x2 + 1)), some (vi x3)], [], pm_mm al (pm_tb 6 D) I L)) :=
  (Sg_eq X d co_He_ways st_He_ways 3 _).trans rfl
set_option maxRecDepth 20000 in
theorem sg_He_ways_230_23 (X : Nat × (Nat → Int32)) (d : Nat) (x2 x3 : Int32) (al : List Nat) (D : Nat → Bool) (I : Nat → Nat → Int32) (L : Nat → Nat → Int64) : Rn X d co_He_ways (23, [some (vr 76), some (vr 230), some (vi x2), some (vi x3)], [], pm_mm al (pm_tb 6 D) I L) = Rn X d co_He_ways (4, [some (vr 76), some (vr 230), some (vi x2), some (vi (x3 + 1))], [], pm_mm al (pm_tb 6 D) I L) :=
  (Sg_eq X d co_He_ways st_He_ways 3 _).trans rfl
def st_He_waysOn (pc : Nat) : Bool := cond (Nat.ble 29 pc) (cond (Nat.ble 35 pc) (cond (Nat.beq pc 35) (true) (false)) (cond (Nat.beq pc 29) (true) (false))) (cond (Nat.ble 5 pc) (cond (Nat.beq pc 5) (true) (false)) (cond (Nat.beq pc 0) (true) (false)))
set_option maxRecDepth 20000 in
theorem sg_He_waysOn_221_0 (X : Nat × (Nat → Int32)) (d : Nat) (x2 : Int32) (o3 o4 : Option pm_V) (al : List Nat) (D : Nat → Bool) (I : Nat → Nat → Int32) (L : Nat → Nat → Int64) : Rn X d co_He_waysOn (0, [some (vr 76), some (vr 221), some (vi x2), o3, o4], [], pm_mm al (pm_tb 3 D) I L) = Rn X d co_He_waysOn (5, [some (vr 76), some (vr 221), some (vi x2), some (vi 0), some (vi 0)], [], pm_mm al (pm_tb 3 D) I L) :=
  (Sg_eq X d co_He_waysOn st_He_waysOn 5 _).trans rfl
set_option maxRecDepth 20000 in
theorem sg_He_waysOn_221_5 (X : Nat × (Nat → Int32)) (d : Nat) (x2 x3 x4 : Int32) (al : List Nat) (D : Nat → Bool) (I : Nat → Nat → Int32) (L : Nat → Nat → Int64) : Rn X d co_He_waysOn (5, [some (vr 76), some (vr 221), some (vi x2), some (vi x3), some (vi x4)], [], pm_mm al (pm_tb 3 D) I L) = cond (decide (4096 ≤ x4)) (some (some (vi x3), pm_mm al (pm_tb 3 D) I L)) (cond (decide (((x4 >>> (x2 &&& 31)) &&& 1) = 0)) (Rn X d co_He_waysOn (35, [some (vr 76), some (vr 221), some (vi x2), some (vi x3), some (vi x4)], [], pm_mm al (pm_tb 3 D) I L)) (cond (pm_in x4 4096) (((Cl X d 21 [vr 76, vl (L 221 x4.toNatClampNeg)] (pm_mm al (pm_tb 3 D) I L)).bind pm_ai).bind (fun r => Rn X d co_He_waysOn (29, [some (vr 76), some (vr 221), some (vi x2), some (vi x3), some (vi x4)], [vi r.1], r.2))) none)) :=
  (Sg_eq X d co_He_waysOn st_He_waysOn 15 _).trans rfl
set_option maxRecDepth 20000 in
theorem sg_He_waysOn_221_29 (X : Nat × (Nat → Int32)) (d : Nat) (x2 x3 x4 u0 : Int32) (al : List Nat) (D : Nat → Bool) (I : Nat → Nat → Int32) (L : Nat → Nat → Int64) : Rn X d co_He_waysOn (29, [some (vr 76), some (vr 221), some (vi x2), some (vi x3), some (vi x4)], [vi u0], pm_mm al (pm_tb 3 D) I L) = cond (decide (u0 = 0)) (Rn X d co_He_waysOn (35, [some (vr 76), some (vr 221), some (vi x2), some (vi x3), some (vi x4)], [], pm_mm al (pm_tb 3 D) I L)) (Rn X d co_He_waysOn (35, [some (vr 76), some (vr 221), some (vi x2), some (vi (x3 + 1)), some (vi x4)], [], pm_mm al (pm_tb 3 D) I L)) :=
  (Sg_eq X d co_He_waysOn st_He_waysOn 3 _).trans rfl
set_option maxRecDepth 20000 in
theorem sg_He_waysOn_221_35 (X : Nat × (Nat → Int32)) (d : Nat) (x2 x3 x4 : Int32) (al : List Nat) (D : Nat → Bool) (I : Nat → Nat → Int32) (L : Nat → Nat → Int64) : Rn X d co_He_waysOn (35, [some (vr 76), some (vr 221), some (vi x2), some (vi x3), some (vi x4)], [], pm_mm al (pm_tb 3 D) I L) = Rn X d co_He_waysOn (5, [some (vr 76), some (vr 221), some (vi x2), some (vi x3), some (vi (x4 + 1))], [], pm_mm al (pm_tb 3 D) I L) :=
  (Sg_eq X d co_He_waysOn st_He_waysOn 3 _).trans rfl
set_option maxRecDepth 20000 in
theorem sg_He_waysOn_224_0 (X : Nat × (Nat → Int32)) (d : Nat) (x2 : Int32) (o3 o4 : Option pm_V) (al : List Nat) (D : Nat → Bool) (I : Nat → Nat → Int32) (L : Nat → Nat → Int64) : Rn X d co_He_waysOn (0, [some (vr 76), some (vr 224), some (vi x2), o3, o4], [], pm_mm al (pm_tb 4 D) I L) = Rn X d co_He_waysOn (5, [some (vr 76), some (vr 224), some (vi x2), some (vi 0), some (vi 0)], [], pm_mm al (pm_tb 4 D) I L) :=
  (Sg_eq X d co_He_waysOn st_He_waysOn 5 _).trans rfl
set_option maxRecDepth 20000 in
theorem sg_He_waysOn_224_5 (X : Nat × (Nat → Int32)) (d : Nat) (x2 x3 x4 : Int32) (al : List Nat) (D : Nat → Bool) (I : Nat → Nat → Int32) (L : Nat → Nat → Int64) : Rn X d co_He_waysOn (5, [some (vr 76), some (vr 224), some (vi x2), some (vi x3), some (vi x4)], [], pm_mm al (pm_tb 4 D) I L) = cond (decide (4096 ≤ x4)) (some (some (vi x3), pm_mm al (pm_tb 4 D) I L)) (cond (decide (((x4 >>> (x2 &&& 31)) &&& 1) = 0)) (Rn X d co_He_waysOn (35, [some (vr 76), some (vr 224), some (vi x2), some (vi x3), some (vi x4)], [], pm_mm al (pm_tb 4 D) I L)) (cond (pm_in x4 4096) (((Cl X d 21 [vr 76, vl (L 224 x4.toNatClampNeg)] (pm_mm al (pm_tb 4 D) I L)).bind pm_ai).bind (fun r => Rn X d co_He_waysOn (29, [some (vr 76), some (vr 224), some (vi x2), some (vi x3), some (vi x4)], [vi r.1], r.2))) none)) :=
  (Sg_eq X d co_He_waysOn st_He_waysOn 15 _).trans rfl
set_option maxRecDepth 20000 in
theorem sg_He_waysOn_224_29 (X : Nat × (Nat → Int32)) (d : Nat) (x2 x3 x4 u0 : Int32) (al : List Nat) (D : Nat → Bool) (I : Nat → Nat → Int32) (L : Nat → Nat → Int64) : Rn X d co_He_waysOn (29, [some (vr 76), some (vr 224), some (vi x2), some (vi x3), some (vi x4)], [vi u0], pm_mm al (pm_tb 4 D) I L) = cond (decide (u0 = 0)) (Rn X d co_He_waysOn (35, [some (vr 76), some (vr 224), some (vi x2), some (vi x3), some (vi x4)], [], pm_mm al (pm_tb 4 D) I L)) (Rn X d co_He_waysOn (35, [some (vr 76), some (vr 224), some (vi x2), some (vi (x3 + 1)), some (vi x4)], [], pm_mm al (pm_tb 4 D) I L)) :=
  (Sg_eq X d co_He_waysOn st_He_waysOn 3 _).trans rfl
set_option maxRecDepth 20000 in
theorem sg_He_waysOn_224_35 (X : Nat × (Nat → Int32)) (d : Nat) (x2 x3 x4 : Int32) (al : List Nat) (D : Nat → Bool) (I : Nat → Nat → Int32) (L : Nat → Nat → Int64) : Rn X d co_He_waysOn (35, [some (vr 76), some (vr 224), some (vi x2), some (vi x3), some (vi x4)], [], pm_mm al (pm_tb 4 D) I L) = Rn X d co_He_waysOn (5, [some (vr 76), some (vr 224), some (vi x2), some (vi x3), some (vi (x4 + 1))], [], pm_mm al (pm_tb 4 D) I L) :=
  (Sg_eq X d co_He_waysOn st_He_waysOn 3 _).trans rfl
set_option maxRecDepth 20000 in
theorem sg_He_waysOn_227_0 (X : Nat × (Nat → Int32)) (d : Nat) (x2 : Int32) (o3 o4 : Option pm_V) (al : List Nat) (D : Nat → Bool) (I : Nat → Nat → Int32) (L : Nat → Nat → Int64) : Rn X d co_He_waysOn (0, [some (vr 76), some (vr 227), some (vi x2), o3, o4], [], pm_mm al (pm_tb 5 D) I L) = Rn X d co_He_waysOn (5, [some (vr 76), some (vr 227), some (vi x2), some (vi 0), some (vi 0)], [], pm_mm al (pm_tb 5 D) I L) :=
  (Sg_eq X d co_He_waysOn st_He_waysOn 5 _).trans rfl
set_option maxRecDepth 20000 in
theorem sg_He_waysOn_227_5 (X : Nat × (Nat → Int32)) (d : Nat) (x2 x3 x4 : Int32) (al : List Nat) (D : Nat → Bool) (I : Nat → Nat → Int32) (L : Nat → Nat → Int64) : Rn X d co_He_waysOn (5, [some (vr 76), some (vr 227), some (vi x2), some (vi x3), some (vi x4)], [], pm_mm al (pm_tb 5 D) I L) = cond (decide (4096 ≤ x4)) (some (some (vi x3), pm_mm al (pm_tb 5 D) I L)) (cond (decide (((x4 >>> (x2 &&& 31)) &&& 1) = 0)) (Rn X d co_He_waysOn (35, [some (vr 76), some (vr 227), some (vi x2), some (vi x3), some (vi x4)], [], pm_mm al (pm_tb 5 D) I L)) (cond (pm_in x4 4096) (((Cl X d 21 [vr 76, vl (L 227 x4.toNatClampNeg)] (pm_mm al (pm_tb 5 D) I L)).bind pm_ai).bind (fun r => Rn X d co_He_waysOn (29, [some (vr 76), some (vr 227), some (vi x2), some (vi x3), some (vi x4)], [vi r.1], r.2))) none)) :=
  (Sg_eq X d co_He_waysOn st_He_waysOn 15 _).trans rfl
set_option maxRecDepth 20000 in
theorem sg_He_waysOn_227_29 (X : Nat × (Nat → Int32)) (d : Nat) (x2 x3 x4 u0 : Int32) (al : List Nat) (D : Nat → Bool) (I : Nat → Nat → Int32) (L : Nat → Nat → Int64) : Rn X d co_He_waysOn (29, [some (vr 76), some (vr 227), some (vi x2), some (vi x3), some (vi x4)], [vi u0], pm_mm al (pm_tb 5 D) I L) = cond (decide (u0 = 0)) (Rn X d co_He_waysOn (35, [some (vr 76), some (vr 227), some (vi x2), some (vi x3), some (vi x4)], [], pm_mm al (pm_tb 5 D) I L)) (Rn X d co_He_waysOn (35, [some (vr 76), some (vr 227), some (vi x2), some (vi (x3 + 1)), some (vi x4)], [], pm_mm al (pm_tb 5 D) I L)) :=
  (Sg_eq X d co_He_waysOn st_He_waysOn 3 _).trans rfl
set_option maxRecDepth 20000 in
theorem sg_He_waysOn_227_35 (X : Nat × (Nat → Int32)) (d : Nat) (x2 x3 x4 : Int32) (al : List Nat) (D : Nat → Bool) (I : Nat → Nat → Int32) (L : Nat → Nat → Int64) : Rn X d co_He_waysOn (35, [some (vr 76), some (vr 227), some (vi x2), some (vi x3), some (vi x4)], [], pm_mm al (pm_tb 5 D) I L) = Rn X d co_He_waysOn (5, [some (vr 76), some (vr 227), some (vi x2), some (vi x3), some (vi (x4 + 1))], [], pm_mm al (pm_tb 5 D) I L) :=
  (Sg_eq X d co_He_waysOn st_He_waysOn 3 _).trans rfl
set_option maxRecDepth 20000 in
theorem sg_He_waysOn_230_0 (X : Nat × (Nat → Int32)) (d : Nat) (x2 : Int32) (o3 o4 : Option pm_V) (al : List Nat) (D : Nat → Bool) (I : Nat → Nat → Int32) (L : Nat → Nat → Int64) : Rn X d co_He_waysOn (0, [some (vr 76), some (vr 230), some (vi x2), o3, o4], [], pm_mm al (pm_tb 6 D) I L) = Rn X d co_He_waysOn (5, [some (vr 76), some (vr 230), some (vi x2), some (vi 0), some (vi 0)], [], pm_mm al (pm_tb 6 D) I L) :=
  (Sg_eq X d co_He_waysOn st_He_waysOn 5 _).trans rfl
set_option maxRecDepth 20000 in
theorem sg_He_waysOn_230_5 (X : Nat × (Nat → Int32)) (d : Nat) (x2 x3 x4 : Int32) (al : List Nat) (D : Nat → Bool) (I : Nat → Nat → Int32) (L : Nat → Nat → Int64) : Rn X d co_He_waysOn (5, [some (vr 76), some (vr 230), some (vi x2), some (vi x3), some (vi x4)], [], pm_mm al (pm_tb 6 D) I L) = cond (decide (4096 ≤ x4)) (some (some (vi x3), pm_mm al (pm_tb 6 D) I L)) (cond (decide (((x4 >>> (x2 &&& 31)) &&& 1) = 0)) (Rn X d co_He_waysOn (35, [some (vr 76), some (vr 230), some (vi x2), some (vi x3), some (vi x4)], [], pm_mm al (pm_tb 6 D) I L)) (cond (pm_in x4 4096) (((Cl X d 21 [vr 76, vl (L 230 x4.toNatClampNeg)] (pm_mm al (pm_tb 6 D) I L)).bind pm_ai).bind (fun r => Rn X d co_He_waysOn (29, [some (vr 76), some (vr 230), some (vi x2), some (vi x3), some (vi x4)], [vi r.1], r.2))) none)) :=
  (Sg_eq X d co_He_waysOn st_He_waysOn 15 _).trans rfl
set_option maxRecDepth 20000 in
theorem sg_He_waysOn_230_29 (X : Nat × (Nat → Int32)) (d : Nat) (x2 x3 x4 u0 : Int32) (al : List Nat) (D : Nat → Bool) (I : Nat → Nat → Int32) (L : Nat → Nat → Int64) : Rn X d co_He_waysOn (29, [some (vr 76), some (vr 230), some (vi x2), some (vi x3), some (vi x4)], [vi u0], pm_mm al (pm_tb 6 D) I L) = cond (decide (u0 = 0)) (Rn X d co_He_waysOn (35, [some (vr 76), some (vr 230), some (vi x2), some (vi x3), some (vi x4)], [], pm_mm al (pm_tb 6 D) I L)) (Rn X d co_He_waysOn (35, [some (vr 76), some (vr 230), some (vi x2), some (vi (x3 + 1)), some (vi x4)], [], pm_mm al (pm_tb 6 D) I L)) :=
  (Sg_eq X d co_He_waysOn st_He_waysOn 3 _).trans rfl
set_option maxRecDepth 20000 in
theorem sg_He_waysOn_230_35 (X : Nat × (Nat → Int32)) (d : Nat) (x2 x3 x4 : Int32) (al : List Nat) (D : Nat → Bool) (I : Nat → Nat → Int32) (L : Nat → Nat → Int64) : Rn X d co_He_waysOn (35, [some (vr 76), some (vr 230), some (vi x2), some (vi x3), some (vi x4)], [], pm_mm al (pm_tb 6 D) I L) = Rn X d co_He_waysOn (5, [some (vr 76), some (vr 230), some (vi x2), some (vi x3), some (vi (x4 + 1))], [], pm_mm al (pm_tb 6 D) I L) :=
  (Sg_eq X d co_He_waysOn st_He_waysOn 3 _).trans rfl
def st_He_wayAt (pc : Nat) : Bool := cond (Nat.ble 20 pc) (cond (Nat.ble 33 pc) (cond (Nat.beq pc 33) (true) (false)) (cond (Nat.beq pc 20) (true) (false))) (cond (Nat.ble 5 pc) (cond (Nat.beq pc 5) (true) (false)) (cond (Nat.beq pc 0) (true) (false)))
set_option maxRecDepth 20000 in
theorem sg_He_wayAt_221_0 (X : Nat × (Nat → Int32)) (d : Nat) (x2 : Int32) (o3 o4 : Option pm_V) (al : List Nat) (D : Nat → Bool) (I : Nat → Nat → Int32) (L : Nat → Nat → Int64) : Rn X d co_He_wayAt (0, [some (vr 76), some (vr 221), some (vi x2), o3, o4], [], pm_mm al (pm_tb 3 D) I L) = Rn X d co_He_wayAt (5, [some (vr 76), some (vr 221), some (vi x2), some (vi x2), some (vi 0)], [], pm_mm al (pm_tb 3 D) I L) :=
  (Sg_eq X d co_He_wayAt st_He_wayAt 5 _).trans rfl
set_option maxRecDepth 20000 in
theorem sg_He_wayAt_221_5 (X : Nat × (Nat → Int32)) (d : Nat) (o2 : Option pm_V) (x3 x4 : Int32) (al : List Nat) (D : Nat → Bool) (I : Nat → Nat → Int32) (L : Nat → Nat → Int64) : Rn X d co_He_wayAt (5, [some (vr 76), some (vr 221), o2, some (vi x3), some (vi x4)], [], pm_mm al (pm_tb 3 D) I L) = cond (decide (4096 ≤ x4)) (some (some (vi (-2)), pm_mm al (pm_tb 3 D) I L)) (cond (pm_in x4 4096) (((Cl X d 21 [vr 76, vl (L 221 x4.toNatClampNeg)] (pm_mm al (pm_tb 3 D) I L)).bind pm_ai).bind (fun r => Rn X d co_He_wayAt (20, [some (vr 76), some (vr 221), o2, some (vi x3), some (vi x4)], [vi r.1], r.2))) none) :=
  (Sg_eq X d co_He_wayAt st_He_wayAt 9 _).trans rfl
set_option maxRecDepth 20000 in
theorem sg_He_wayAt_221_20 (X : Nat × (Nat → Int32)) (d : Nat) (o2 : Option pm_V) (x3 x4 u0 : Int32) (al : List Nat) (D : Nat → Bool) (I : Nat → Nat → Int32) (L : Nat → Nat → Int64) : Rn X d co_He_wayAt (20, [some (vr 76), some (vr 221), o2, some (vi x3), some (vi x4)], [vi u0], pm_mm al (pm_tb 3 D) I L) = cond (decide (u0 = 0)) (Rn X d co_He_wayAt (33, [some (vr 76), some (vr 221), o2, some (vi x3), some (vi x4)], [], pm_mm al (pm_tb 3 D) I L)) (cond (decide (x3 = 0)) (some (some (vi x4), pm_mm al (pm_tb 3 D) I L)) (Rn X d co_He_wayAt (33, [some (vr 76), some (vr 221), (pm_nl o2), some (vi (x3 + (-1))), some (vi x4)], [], pm_mm al (pm_tb 3 D) I L))) :=
  (Sg_eq X d co_He_wayAt st_He_wayAt 5 _).trans rfl
set_option maxRecDepth 20000 in
theorem sg_He_wayAt_221_33 (X : Nat × (Nat → Int32)) (d : Nat) (o2 : Option pm_V) (x3 x4 : Int32) (al : List Nat) (D : Nat → Bool) (I : Nat → Nat → Int32) (L : Nat → Nat → Int64) : Rn X d co_He_wayAt (33, [some (vr 76), some (vr 221), o2, some (vi x3), some (vi x4)], [], pm_mm al (pm_tb 3 D) I L) = Rn X d co_He_wayAt (5, [some (vr 76), some (vr 221), o2, some (vi x3), some (vi (x4 + 1))], [], pm_mm al (pm_tb 3 D) I L) :=
  (Sg_eq X d co_He_wayAt st_He_wayAt 3 _).trans rfl
set_option maxRecDepth 20000 in
theorem sg_He_wayAt_224_0 (X : Nat × (Nat → Int32)) (d : Nat) (x2 : Int32) (o3 o4 : Option pm_V) (al : List Nat) (D : Nat → Bool) (I : Nat → Nat → Int32) (L : Nat → Nat → Int64) : Rn X d co_He_wayAt (0, [some (vr 76), some (vr 224), some (vi x2), o3, o4], [], pm_mm al (pm_tb 4 D) I L) = Rn X d co_He_wayAt (5, [some (vr 76), some (vr 224), some (vi x2), some (vi x2), some (vi 0)], [], pm_mm al (pm_tb 4 D) I L) :=
  (Sg_eq X d co_He_wayAt st_He_wayAt 5 _).trans rfl
set_option maxRecDepth 20000 in
theorem sg_He_wayAt_224_5 (X : Nat × (Nat → Int32)) (d : Nat) (o2 : Option pm_V) (x3 x4 : Int32) (al : List Nat) (D : Nat → Bool) (I : Nat → Nat → Int32) (L : Nat → Nat → Int64) : Rn X d co_He_wayAt (5, [some (vr 76), some (vr 224), o2, some (vi x3), some (vi x4)], [], pm_mm al (pm_tb 4 D) I L) = cond (decide (4096 ≤ x4)) (some (some (vi (-2)), pm_mm al (pm_tb 4 D) I L)) (cond (pm_in x4 4096) (((Cl X d 21 [vr 76, vl (L 224 x4.toNatClampNeg)] (pm_mm al (pm_tb 4 D) I L)).bind pm_ai).bind (fun r => Rn X d co_He_wayAt (20, [some (vr 76), some (vr 224), o2, some (vi x3), some (vi x4)], [vi r.1], r.2))) none) :=
  (Sg_eq X d co_He_wayAt st_He_wayAt 9 _).trans rfl
set_option maxRecDepth 20000 in
theorem sg_He_wayAt_224_20 (X : Nat × (Nat → Int32)) (d : Nat) (o2 : Option pm_V) (x3 x4 u0 : Int32) (al : List Nat) (D : Nat → Bool) (I : Nat → Nat → Int32) (L : Nat → Nat → Int64) : Rn X d co_He_wayAt (20, [some (vr 76), some (vr 224), o2, some (vi x3), some (vi x4)], [vi u0], pm_mm al (pm_tb 4 D) I L) = cond (decide (u0 = 0)) (Rn X d co_He_wayAt (33, [some (vr 76), some (vr 224), o2, some (vi x3), some (vi x4)], [], pm_mm al (pm_tb 4 D) I L)) (cond (decide (x3 = 0)) (some (some (vi x4), pm_mm al (pm_tb 4 D) I L)) (Rn X d co_He_wayAt (33, [some (vr 76), some (vr 224), (pm_nl o2), some (vi (x3 + (-1))), some (vi x4)], [], pm_mm al (pm_tb 4 D) I L))) :=
  (Sg_eq X d co_He_wayAt st_He_wayAt 5 _).trans rfl
set_option maxRecDepth 20000 in
theorem sg_He_wayAt_224_33 (X : Nat × (Nat → Int32)) (d : Nat) (o2 : Option pm_V) (x3 x4 : Int32) (al : List Nat) (D : Nat → Bool) (I : Nat → Nat → Int32) (L : Nat → Nat → Int64) : Rn X d co_He_wayAt (33, [some (vr 76), some (vr 224), o2, some (vi x3), some (vi x4)], [], pm_mm al (pm_tb 4 D) I L) = Rn X d co_He_wayAt (5, [some (vr 76), some (vr 224), o2, some (vi x3), some (vi (x4 + 1))], [], pm_mm al (pm_tb 4 D) I L) :=
  (Sg_eq X d co_He_wayAt st_He_wayAt 3 _).trans rfl
set_option maxRecDepth 20000 in
theorem sg_He_wayAt_227_0 (X : Nat × (Nat → Int32)) (d : Nat) (x2 : Int32) (o3 o4 : Option pm_V) (al : List Nat) (D : Nat → Bool) (I : Nat → Nat → Int32) (L : Nat → Nat → Int64) : Rn X d co_He_wayAt (0, [some (vr 76), some (vr 227), some (vi x2), o3, o4], [], pm_mm al (pm_tb 5 D) I L) = Rn X d co_He_wayAt (5, [some (vr 76), some (vr 227), some (vi x2), some (vi x2), some (vi 0)], [], pm_mm al (pm_tb 5 D) I L) :=
  (Sg_eq X d co_He_wayAt st_He_wayAt 5 _).trans rfl
set_option maxRecDepth 20000 in
theorem sg_He_wayAt_227_5 (X : Nat × (Nat → Int32)) (d : Nat) (o2 : Option pm_V) (x3 x4 : Int32) (al : List Nat) (D : Nat → Bool) (I : Nat → Nat → Int32) (L : Nat → Nat → Int64) : Rn X d co_He_wayAt (5, [some (vr 76), some (vr 227), o2, some (vi x3), some (vi x4)], [], pm_mm al (pm_tb 5 D) I L) = cond (decide (4096 ≤ x4)) (some (some (vi (-2)), pm_mm al (pm_tb 5 D) I L)) (cond (pm_in x4 4096) (((Cl X d 21 [vr 76, vl (L 227 x4.toNatClampNeg)] (pm_mm al (pm_tb 5 D) I L)).bind pm_ai).bind (fun r => Rn X d co_He_wayAt (20, [some (vr 76), some (vr 227), o2, some (vi x3), some (vi x4)], [vi r.1], r.2))) none) :=
  (Sg_eq X d co_He_wayAt st_He_wayAt 9 _).trans rfl
set_option maxRecDepth 20000 in
theorem sg_He_wayAt_227_20 (X : Nat × (Nat → Int32)) (d : Nat) (o2 : Option pm_V) (x3 x4 u0 : Int32) (al : List Nat) (D : Nat → Bool) (I : Nat → Nat → Int32) (L : Nat → Nat → Int64) : Rn X d co_He_wayAt (20, [some (vr 76), some (vr 227), o2, some (vi x3), some (vi x4)], [vi u0], pm_mm al (pm_tb 5 D) I L) = cond (decide (u0 = 0)) (Rn X d co_He_wayAt (33, [some (vr 76), some (vr 227), o2, some (vi x3), some (vi x4)], [], pm_mm al (pm_tb 5 D) I L)) (cond (decide (x3 = 0)) (some (some (vi x4), pm_mm al (pm_tb 5 D) I L)) (Rn X d co_He_wayAt (33, [some (vr 76), some (vr 227), (pm_nl o2), some (vi (x3 + (-1))), some (vi x4)], [], pm_mm al (pm_tb 5 D) I L))) :=
  (Sg_eq X d co_He_wayAt st_He_wayAt 5 _).trans rfl
set_option maxRecDepth 20000 in
theorem sg_He_wayAt_227_33 (X : Nat × (Nat → Int32)) (d : Nat) (o2 : Option pm_V) (x3 x4 : Int32) (al : List Nat) (D : Nat → Bool) (I : Nat → Nat → Int32) (L : Nat → Nat → Int64) : Rn X d co_He_wayAt (33, [some (vr 76), some (vr 227), o2, some (vi x3), some (vi x4)], [], pm_mm al (pm_tb 5 D) I L) = Rn X d co_He_wayAt (5, [some (vr 76), some (vr 227), o2, some (vi x3), some (vi (x4 + 1))], [], pm_mm al (pm_tb 5 D) I L) :=
  (Sg_eq X d co_He_wayAt st_He_wayAt 3 _).trans rfl
set_option maxRecDepth 20000 in
theorem sg_He_wayAt_230_0 (X : Nat × (Nat → Int32)) (d : Nat) (x2 : Int32) (o3 o4 : Option pm_V) (al : List Nat) (D : Nat → Bool) (I : Nat → Nat → Int32) (L : Nat → Nat → Int64) : Rn X d co_He_wayAt (0, [some (vr 76), some (vr 230), some (vi x2), o3, o4], [], pm_mm al (pm_tb 6 D) I L) = Rn X d co_He_wayAt (5, [some (vr 76), some (vr 230), some (vi x2), some (vi x2), some (vi 0)], [], pm_mm al (pm_tb 6 D) I L) :=
  (Sg_eq X d co_He_wayAt st_He_wayAt 5 _).trans rfl
set_option maxRecDepth 20000 in
theorem sg_He_wayAt_230_5 (X : Nat × (Nat → Int32)) (d : Nat) (o2 : Option pm_V) (x3 x4 : Int32) (al : List Nat) (D : Nat → Bool) (I : Nat → Nat → Int32) (L : Nat → Nat → Int64) : Rn X d co_He_wayAt (5, [some (vr 76), some (vr 230), o2, some (vi x3), some (vi x4)], [], pm_mm al (pm_tb 6 D) I L) = cond (decide (4096 ≤ x4)) (some (some (vi (-2)), pm_mm al (pm_tb 6 D) I L)) (cond (pm_in x4 4096) (((Cl X d 21 [vr 76, vl (L 230 x4.toNatClampNeg)] (pm_mm al (pm_tb 6 D) I L)).bind pm_ai).bind (fun r => Rn X d co_He_wayAt (20, [some (vr 76), some (vr 230), o2, some (vi x3), some (vi x4)], [vi r.1], r.2))) none) :=
  (Sg_eq X d co_He_wayAt st_He_wayAt 9 _).trans rfl
set_option maxRecDepth 20000 in
theorem sg_He_wayAt_230_20 (X : Nat × (Nat → Int32)) (d : Nat) (o2 : Option pm_V) (x3 x4 u0 : Int32) (al : List Nat) (D : Nat → Bool) (I : Nat → Nat → Int32) (L : Nat → Nat → Int64) : Rn X d co_He_wayAt (20, [some (vr 76), some (vr 230), o2, some (vi x3), some (vi x4)], [vi u0], pm_mm al (pm_tb 6 D) I L) = cond (decide (u0 = 0)) (Rn X d co_He_wayAt (33, [some (vr 76), some (vr 230), o2, some (vi x3), some (vi x4)], [], pm_mm al (pm_tb 6 D) I L)) (cond (decide (x3 = 0)) (some (some (vi x4), pm_mm al (pm_tb 6 D) I L)) (Rn X d co_He_wayAt (33, [some (vr 76), some (vr 230), (pm_nl o2), some (vi (x3 + (-1))), some (vi x4)], [], pm_mm al (pm_tb 6 D) I L))) :=
  (Sg_eq X d co_He_wayAt st_He_wayAt 5 _).trans rfl
set_option maxRecDepth 20000 in
theorem sg_He_wayAt_230_33 (X : Nat × (Nat → Int32)) (d : Nat) (o2 : Option pm_V) (x3 x4 : Int32) (al : List Nat) (D : Nat → Bool) (I : Nat → Nat → Int32) (L : Nat → Nat → Int64) : Rn X d co_He_wayAt (33, [some (vr 76), some (vr 230), o2, some (vi x3), some (vi x4)], [], pm_mm al (pm_tb 6 D) I L) = Rn X d co_He_wayAt (5, [some (vr 76), some (vr 230), o2, some (vi x3), some (vi (x4 + 1))], [], pm_mm al (pm_tb 6 D) I L) :=
  (Sg_eq X d co_He_wayAt st_He_wayAt 3 _).trans rfl
def st_He_sure (pc : Nat) : Bool := cond (Nat.ble 17 pc) (cond (Nat.ble 24 pc) (cond (Nat.beq pc 24) (true) (false)) (cond (Nat.beq pc 17) (true) (false))) (cond (Nat.ble 4 pc) (cond (Nat.beq pc 4) (true) (false)) (cond (Nat.beq pc 0) (true) (false)))
set_option maxRecDepth 20000 in
theorem sg_He_sure_221_0 (X : Nat × (Nat → Int32)) (d : Nat) (o2 o3 : Option pm_V) (al : List Nat) (D : Nat → Bool) (I : Nat → Nat → Int32) (L : Nat → Nat → Int64) : Rn X d co_He_sure (0, [some (vr 76), some (vr 221), o2, o3], [], pm_mm al (pm_tb 3 D) I L) = Rn X d co_He_sure (4, [some (vr 76), some (vr 221), some (vi (-1)), some (vi 0)], [], pm_mm al (pm_tb 3 D) I L) :=
  (Sg_eq X d co_He_sure st_He_sure 5 _).trans rfl
set_option maxRecDepth 20000 in
theorem sg_He_sure_221_4 (X : Nat × (Nat → Int32)) (d : Nat) (x2 x3 : Int32) (al : List Nat) (D : Nat → Bool) (I : Nat → Nat → Int32) (L : Nat → Nat → Int64) : Rn X d co_He_sure (4, [some (vr 76), some (vr 221), some (vi x2), some (vi x3)], [], pm_mm al (pm_tb 3 D) I L) = cond (decide (4096 ≤ x3)) (some (some (vi x2), pm_mm al (pm_tb 3 D) I L)) (cond (pm_in x3 4096) (((Cl X d 21 [vr 76, vl (L 221 x3.toNatClampNeg)] (pm_mm al (pm_tb 3 D) I L)).bind pm_ai).bind (fun r => Rn X d co_He_sure (17, [some (vr 76), some (vr 221), some (vi x2), some (vi x3)], [vi r.1], r.2))) none) :=
  (Sg_eq X d co_He_sure st_He_sure 9 _).trans rfl
set_option maxRecDepth 20000 in
theorem sg_He_sure_221_17 (X : Nat × (Nat → Int32)) (d : Nat) (x2 x3 u0 : Int32) (al : List Nat) (D : Nat → Bool) (I : Nat → Nat → Int32) (L : Nat → Nat → Int64) : Rn X d co_He_sure (17, [some (vr 76), some (vr 221), some (vi x2), some (vi x3)], [vi u0], pm_mm al (pm_tb 3 D) I L) = cond (decide (u0 = 0)) (Rn X d co_He_sure (24, [some (vr 76), some (vr 221), some (vi x2), some (vi x3)], [], pm_mm al (pm_tb 3 D) I L)) (Rn X d co_He_sure (24, [some (vr 76), some (vr 221), some (vi (x2 &&& x3)), some (vi x3)], [], pm_mm al (pm_tb 3 D) I L)) :=
  (Sg_eq X d co_He_sure st_He_sure 6 _).trans rfl
set_option maxRecDepth 20000 in
theorem sg_He_sure_221_24 (X : Nat × (Nat → Int32)) (d : Nat) (x2 x3 : Int32) (al : List Nat) (D : Nat → Bool) (I : Nat → Nat → Int32) (L : Nat → Nat → Int64) : Rn X d co_He_sure (24, [some (vr 76), some (vr 221), some (vi x2), some (vi x3)], [], pm_mm al (pm_tb 3 D) I L) = Rn X d co_He_sure (4, [some (vr 76), some (vr 221), some (vi x2), some (vi (x3 + 1))], [], pm_mm al (pm_tb 3 D) I L) :=
  (Sg_eq X d co_He_sure st_He_sure 3 _).trans rfl
set_option maxRecDepth 20000 in
theorem sg_He_sure_224_0 (X : Nat × (Nat → Int32)) (d : Nat) (o2 o3 : Option pm_V) (al : List Nat) (D : Nat → Bool) (I : Nat → Nat → Int32) (L : Nat → Nat → Int64) : Rn X d co_He_sure (0, [some (vr 76), some (vr 224), o2, o3], [], pm_mm al (pm_tb 4 D) I L) = Rn X d co_He_sure (4, [some (vr 76), some (vr 224), some (vi (-1)), some (vi 0)], [], pm_mm al (pm_tb 4 D) I L) :=
  (Sg_eq X d co_He_sure st_He_sure 5 _).trans rfl
set_option maxRecDepth 20000 in
theorem sg_He_sure_224_4 (X : Nat × (Nat → Int32)) (d : Nat) (x2 x3 : Int32) (al : List Nat) (D : Nat → Bool) (I : Nat → Nat → Int32) (L : Nat → Nat → Int64) : Rn X d co_He_sure (4, [some (vr 76), some (vr 224), some (vi x2), some (vi x3)], [], pm_mm al (pm_tb 4 D) I L) = cond (decide (4096 ≤ x3)) (some (some (vi x2), pm_mm al (pm_tb 4 D) I L)) (cond (pm_in x3 4096) (((Cl X d 21 [vr 76, vl (L 224 x3.toNatClampNeg)] (pm_mm al (pm_tb 4 D) I L)).bind pm_ai).bind (fun r => Rn X d co_He_sure (17, [some (vr 76), some (vr 224), some (vi x2), some (vi x3)], [vi r.1], r.2))) none) :=
  (Sg_eq X d co_He_sure st_He_sure 9 _).trans rfl
set_option maxRecDepth 20000 in
theorem sg_He_sure_224_17 (X : Nat × (Nat → Int32)) (d : Nat) (x2 x3 u0 : Int32) (al : List Nat) (D : Nat → Bool) (I : Nat → Nat → Int32) (L : Nat → Nat → Int64) : Rn X d co_He_sure (17, [some (vr 76), some (vr 224), some (vi x2), some (vi x3)], [vi u0], pm_mm al (pm_tb 4 D) I L) = cond (decide (u0 = 0)) (Rn X d co_He_sure (24, [some (vr 76), some (vr 224), some (vi x2), some (vi x3)], [], pm_mm al (pm_tb 4 D) I L)) (Rn X d co_He_sure (24, [some (vr 76), some (vr 224), some (vi (x2 &&& x3)), some (vi x3)], [], pm_mm al (pm_tb 4 D) I L)) :=
  (Sg_eq X d co_He_sure st_He_sure 6 _).trans rfl
set_option maxRecDepth 20000 in
theorem sg_He_sure_224_24 (X : Nat × (Nat → Int32)) (d : Nat) (x2 x3 : Int32) (al : List Nat) (D : Nat → Bool) (I : Nat → Nat → Int32) (L : Nat → Nat → Int64) : Rn X d co_He_sure (24, [some (vr 76), some (vr 224), some (vi x2), some (vi x3)], [], pm_mm al (pm_tb 4 D) I L) = Rn X d co_He_sure (4, [some (vr 76), some (vr 224), some (vi x2), some (vi (x3 + 1))], [], pm_mm al (pm_tb 4 D) I L) :=
  (Sg_eq X d co_He_sure st_He_sure 3 _).trans rfl
set_option maxRecDepth 20000 in
theorem sg_He_sure_227_0 (X : Nat × (Nat → Int32)) (d : Nat) (o2 o3 : Option pm_V) (al : List Nat) (D : Nat → Bool) (I : Nat → Nat → Int32) (L : Nat → Nat → Int64) : Rn X d co_He_sure (0, [some (vr 76), some (vr 227), o2, o3], [], pm_mm al (pm_tb 5 D) I L) = Rn X d co_He_sure (4, [some (vr 76), some (vr 227), some (vi (-1)), some (vi 0)], [], pm_mm al (pm_tb 5 D) I L) :=
  (Sg_eq X d co_He_sure st_He_sure 5 _).trans rfl
set_option maxRecDepth 20000 in
theorem sg_He_sure_227_4 (X : Nat × (Nat → Int32)) (d : Nat) (x2 x3 : Int32) (al : List Nat) (D : Nat → Bool) (I : Nat → Nat → Int32) (L : Nat → Nat → Int64) : Rn X d co_He_sure (4, [some (vr 76), some (vr 227), some (vi x2), some (vi x3)], [], pm_mm al (pm_tb 5 D) I L) = cond (decide (4096 ≤ x3)) (some (some (vi x2), pm_mm al (pm_tb 5 D) I L)) (cond (pm_in x3 4096) (((Cl X d 21 [vr 76, vl (L 227 x3.toNatClampNeg)] (pm_mm al (pm_tb 5 D) I L)).bind pm_ai).bind (fun r => Rn X d co_He_sure (17, [some (vr 76), some (vr 227), some (vi x2), some (vi x3)], [vi r.1], r.2))) none) :=
  (Sg_eq X d co_He_sure st_He_sure 9 _).trans rfl
set_option maxRecDepth 20000 in
theorem sg_He_sure_227_17 (X : Nat × (Nat → Int32)) (d : Nat) (x2 x3 u0 : Int32) (al : List Nat) (D : Nat → Bool) (I : Nat → Nat → Int32) (L : Nat → Nat → Int64) : Rn X d co_He_sure (17, [some (vr 76), some (vr 227), some (vi x2), some (vi x3)], [vi u0], pm_mm al (pm_tb 5 D) I L) = cond (decide (u0 = 0)) (Rn X d co_He_sure (24, [some (vr 76), some (vr 227), some (vi x2), some (vi x3)], [], pm_mm al (pm_tb 5 D) I L)) (Rn X d co_He_sure (24, [some (vr 76), some (vr 227), some (vi (x2 &&& x3)), some (vi x3)], [], pm_mm al (pm_tb 5 D) I L)) :=
  (Sg_eq X d co_He_sure st_He_sure 6 _).trans rfl
set_option maxRecDepth 20000 in
theorem sg_He_sure_227_24 (X : Nat × (Nat → Int32)) (d : Nat) (x2 x3 : Int32) (al : List Nat) (D : Nat → Bool) (I : Nat → Nat → Int32) (L : Nat → Nat → Int64) : Rn X d co_He_sure (24, [some (vr 76), some (vr 227), some (vi x2), some (vi x3)], [], pm_mm al (pm_tb 5 D) I L) = Rn X d co_He_sure (4, [some (vr 76), some (vr 227), some (vi x2), some (vi (x3 + 1))], [], pm_mm al (pm_tb 5 D) I L) :=
  (Sg_eq X d co_He_sure st_He_sure 3 _).trans rfl
set_option maxRecDepth 20000 in
theorem sg_He_sure_230_0 (X : Nat × (Nat → Int32)) (d : Nat) (o2 o3 : Option pm_V) (al : List Nat) (D : Nat → Bool) (I : Nat → Nat → Int32) (L : Nat → Nat → Int64) : Rn X d co_He_sure (0, [some (vr 76), some (vr 230), o2, o3], [], pm_mm al (pm_tb 6 D) I L) = Rn X d co_He_sure (4, [some (vr 76), some (vr 230), some (vi (-1)), some (vi 0)], [], pm_mm al (pm_tb 6 D) I L) :=
  (Sg_eq X d co_He_sure st_He_sure 5 _).trans rfl
set_option maxRecDepth 20000 in
theorem sg_He_sure_230_4 (X : Nat × (Nat → Int32)) (d : Nat) (x2 x3 : Int32) (al : List Nat) (D : Nat → Bool) (I : Nat → Nat → Int32) (L : Nat → Nat → Int64) : Rn X d co_He_sure (4, [some (vr 76), some (vr 230), some (vi x2), some (vi x3)], [], pm_mm al (pm_tb 6 D) I L) = cond (decide (4096 ≤ x3)) (some (some (vi x2), pm_mm al (pm_tb 6 D) I L)) (cond (pm_in x3 4096) (((Cl X d 21 [vr 76, vl (L 230 x3.toNatClampNeg)] (pm_mm al (pm_tb 6 D) I L)).bind pm_ai).bind (fun r => Rn X d co_He_sure (17, [some (vr 76), some (vr 230), some (vi x2), some (vi x3)], [vi r.1], r.2))) none) :=
  (Sg_eq X d co_He_sure st_He_sure 9 _).trans rfl
set_option maxRecDepth 20000 in
theorem sg_He_sure_230_17 (X : Nat × (Nat → Int32)) (d : Nat) (x2 x3 u0 : Int32) (al : List Nat) (D : Nat → Bool) (I : Nat → Nat → Int32) (L : Nat → Nat → Int64) : Rn X d co_He_sure (17, [some (vr 76), some (vr 230), some (vi x2), some (vi x3)], [vi u0], pm_mm al (pm_tb 6 D) I L) = cond (decide (u0 = 0)) (Rn X d co_He_sure (24, [some (vr 76), some (vr 230), some (vi x2), some (vi x3)], [], pm_mm al (pm_tb 6 D) I L)) (Rn X d co_He_sure (24, [some (vr 76), some (vr 230), some (vi (x2 &&& x3)), some (vi x3)], [], pm_mm al (pm_tb 6 D) I L)) :=
  (Sg_eq X d co_He_sure st_He_sure 6 _).trans rfl
set_option maxRecDepth 20000 in
theorem sg_He_sure_230_24 (X : Nat × (Nat → Int32)) (d : Nat) (x2 x3 : Int32) (al : List Nat) (D : Nat → Bool) (I : Nat → Nat → Int32) (L : Nat → Nat → Int64) : Rn X d co_He_sure (24, [some (vr 76), some (vr 230), some (vi x2), some (vi x3)], [], pm_mm al (pm_tb 6 D) I L) = Rn X d co_He_sure (4, [some (vr 76), some (vr 230), some (vi x2), some (vi (x3 + 1))], [], pm_mm al (pm_tb 6 D) I L) :=
  (Sg_eq X d co_He_sure st_He_sure 3 _).trans rfl
def st_He_fewestTrodden (pc : Nat) : Bool := cond (Nat.ble 29 pc) (cond (Nat.ble 37 pc) (cond (Nat.ble 38 pc) (cond (Nat.beq pc 38) (true) (false)) (cond (Nat.beq pc 37) (true) (false))) (cond (Nat.ble 33 pc) (cond (Nat.beq pc 33) (true) (false)) (cond (Nat.beq pc 29) (true) (false)))) (cond (Nat.ble 4 pc) (cond (Nat.ble 17 pc) (cond (Nat.beq pc 17) (true) (false)) (cond (Nat.beq pc 4) (true) (false))) (cond (Nat.beq pc 0) (true) (false)))
set_option maxRecDepth 20000 in
theorem sg_He_fewestTrodden_221_0 (X : Nat × (Nat → Int32)) (d : Nat) (o2 o3 : Option pm_V) (al : List Nat) (D : Nat → Bool) (I : Nat → Nat → Int32) (L : Nat → Nat → Int64) : Rn X d co_He_fewestTrodden (0, [some (vr 76), some (vr 221), o2, o3], [], pm_mm al (pm_tb 3 D) I L) = Rn X d co_He_fewestTrodden (4, [some (vr 76), some (vr 221), some (vi (-1)), some (vi 0)], [], pm_mm al (pm_tb 3 D) I L) :=
  (Sg_eq X d co_He_fewestTrodden st_He_fewestTrodden 5 _).trans rfl
set_option maxRecDepth 20000 in
theorem sg_He_fewestTrodden_221_4 (X : Nat × (Nat → Int32)) (d : Nat) (x2 x3 : Int32) (al : List Nat) (D : Nat → Bool) (I : Nat → Nat → Int32) (L : Nat → Nat → Int64) : Rn X d co_He_fewestTrodden (4, [some (vr 76), some (vr 221), some (vi x2), some (vi x3)], [], pm_mm al (pm_tb 3 D) I L) = cond (decide (4096 ≤ x3)) (some (some (vi x2), pm_mm al (pm_tb 3 D) I L)) (cond (pm_in x3 4096) (((Cl X d 21 [vr 76, vl (L 221 x3.toNatClampNeg)] (pm_mm al (pm_tb 3 D) I L)).bind pm_ai).bind (fun r => Rn X d co_He_fewestTrodden (17, [some (vr 76), some (vr 221), some (vi x2), some (vi x3)], [vi r.1], r.2))) none) :=
  (Sg_eq X d co_He_fewestTrodden st_He_fewestTrodden 9 _).trans rfl
set_option maxRecDepth 20000 in
theorem sg_He_fewestTrodden_221_17 (X : Nat × (Nat → Int32)) (d : Nat) (x2 x3 u0 : Int32) (al : List Nat) (D : Nat → Bool) (I : Nat → Nat → Int32) (L : Nat → Nat → Int64) : Rn X d co_He_fewestTrodden (17, [some (vr 76), some (vr 221), some (vi x2), some (vi x3)], [vi u0], pm_mm al (pm_tb 3 D) I L) = cond (decide (u0 = 0)) (Rn X d co_He_fewestTrodden (38, [some (vr 76), some (vr 221), some (vi x2), some (vi x3)], [], pm_mm al (pm_tb 3 D) I L)) (cond (decide (x2 = (-1))) (Rn X d co_He_fewestTrodden (33, [some (vr 76), some (vr 221), some (vi x2), some (vi x3)], [], pm_mm al (pm_tb 3 D) I L)) (((Cl X d 1 [vi x3] (pm_mm al (pm_tb 3 D) I L)).bind pm_ai).bind (fun r => Rn X d co_He_fewestTrodden (29, [some (vr 76), some (vr 221), some (vi x2), some (vi x3)], [vi r.1], r.2)))) :=
  (Sg_eq X d co_He_fewestTrodden st_He_fewestTrodden 6 _).trans rfl
set_option maxRecDepth 20000 in
theorem sg_He_fewestTrodden_221_29 (X : Nat × (Nat → Int32)) (d : Nat) (x2 x3 u0 : Int32) (al : List Nat) (D : Nat → Bool) (I : Nat → Nat → Int32) (L : Nat → Nat → Int64) : Rn X d co_He_fewestTrodden (29, [some (vr 76), some (vr 221), some (vi x2), some (vi x3)], [vi u0], pm_mm al (pm_tb 3 D) I L) = cond (decide (x2 ≤ u0)) (Rn X d co_He_fewestTrodden (38, [some (vr 76), some (vr 221), some (vi x2), some (vi x3)], [], pm_mm al (pm_tb 3 D) I L)) (Rn X d co_He_fewestTrodden (33, [some (vr 76), some (vr 221), some (vi x2), some (vi x3)], [], pm_mm al (pm_tb 3 D) I L)) :=
  (Sg_eq X d co_He_fewestTrodden st_He_fewestTrodden 3 _).trans rfl
set_option maxRecDepth 20000 in
theorem sg_He_fewestTrodden_221_33 (X : Nat × (Nat → Int32)) (d : Nat) (o2 : Option pm_V) (x3 : Int32) (al : List Nat) (D : Nat → Bool) (I : Nat → Nat → Int32) (L : Nat → Nat → Int64) : Rn X d co_He_fewestTrodden (33, [some (vr 76), some (vr 221), o2, some (vi x3)], [], pm_mm al (pm_tb 3 D) I L) = ((Cl X d 1 [vi x3] (pm_mm al (pm_tb 3 D) I L)).bind pm_ai).bind (fun r => Rn X d co_He_fewestTrodden (37, [some (vr 76), some (vr 221), o2, some (vi x3)], [vi r.1], r.2)) :=
  (Sg_eq X d co_He_fewestTrodden st_He_fewestTrodden 2 _).trans rfl
set_option maxRecDepth 20000 in
theorem sg_He_fewestTrodden_221_37 (X : Nat × (Nat → Int32)) (d : Nat) (o2 : Option pm_V) (x3 u0 : Int32) (al : List Nat) (D : Nat → Bool) (I : Nat → Nat → Int32) (L : Nat → Nat → Int64) : Rn X d co_He_fewestTrodden (37, [some (vr 76), some (vr 221), o2, some (vi x3)], [vi u0], pm_mm al (pm_tb 3 D) I L) = Rn X d co_He_fewestTrodden (38, [some (vr 76), some (vr 221), some (vi u0), some (vi x3)], [], pm_mm al (pm_tb 3 D) I L) :=
  (Sg_eq X d co_He_fewestTrodden st_He_fewestTrodden 2 _).trans rfl
set_option maxRecDepth 20000 in
theorem sg_He_fewestTrodden_221_38 (X : Nat × (Nat → Int32)) (d : Nat) (x2 x3 : Int32) (al : List Nat) (D : Nat → Bool) (I : Nat → Nat → Int32) (L : Nat → Nat → Int64) : Rn X d co_He_fewestTrodden (38, [some (vr 76), some (vr 221), some (vi x2), some (vi x3)], [], pm_mm al (pm_tb 3 D) I L) = Rn X d co_He_fewestTrodden (4, [some (vr 76), some (vr 221), some (vi x2), some (vi (x3 + 1))], [], pm_mm al (pm_tb 3 D) I L) :=
  (Sg_eq X d co_He_fewestTrodden st_He_fewestTrodden 3 _).trans rfl
set_option maxRecDepth 20000 in
theorem sg_He_fewestTrodden_224_0 (X : Nat × (Nat → Int32)) (d : Nat) (o2 o3 : Option pm_V) (al : List Nat) (D : Nat → Bool) (I : Nat → Nat → Int32) (L : Nat → Nat → Int64) : Rn X d co_He_fewestTrodden (0, [some (vr 76), some (vr 224), o2, o3], [], pm_mm al (pm_tb 4 D) I L) = Rn X d co_He_fewestTrodden (4, [some (vr 76), some (vr 224), some (vi (-1)), some (vi 0)], [], pm_mm al (pm_tb 4 D) I L) :=
  (Sg_eq X d co_He_fewestTrodden st_He_fewestTrodden 5 _).trans rfl
set_option maxRecDepth 20000 in
theorem sg_He_fewestTrodden_224_4 (X : Nat × (Nat → Int32)) (d : Nat) (x2 x3 : Int32) (al : List Nat) (D : Nat → Bool) (I : Nat → Nat → Int32) (L : Nat → Nat → Int64) : Rn X d co_He_fewestTrodden (4, [some (vr 76), some (vr 224), some (vi x2), some (vi x3)], [], pm_mm al (pm_tb 4 D) I L) = cond (decide (4096 ≤ x3)) (some (some (vi x2), pm_mm al (pm_tb 4 D) I L)) (cond (pm_in x3 4096) (((Cl X d 21 [vr 76, vl (L 224 x3.toNatClampNeg)] (pm_mm al (pm_tb 4 D) I L)).bind pm_ai).bind (fun r => Rn X d co_He_fewestTrodden (17, [some (vr 76), some (vr 224), some (vi x2), some (vi x3)], [vi r.1], r.2))) none) :=
  (Sg_eq X d co_He_fewestTrodden st_He_fewestTrodden 9 _).trans rfl
set_option maxRecDepth 20000 in
theorem sg_He_fewestTrodden_224_17 (X : Nat × (Nat → Int32)) (d : Nat) (x2 x3 u0 : Int32) (al : List Nat) (D : Nat → Bool) (I : Nat → Nat → Int32) (L : Nat → Nat → Int64) : Rn X d co_He_fewestTrodden (17, [some (vr 76), some (vr 224), some (vi x2), some (vi x3)], [vi u0], pm_mm al (pm_tb 4 D) I L) = cond (decide (u0 = 0)) (Rn X d co_He_fewestTrodden (38, [some (vr 76), some (vr 224), some (vi x2), some (vi x3)], [], pm_mm al (pm_tb 4 D) I L)) (cond (decide (x2 = (-1))) (Rn X d co_He_fewestTrodden (33, [some (vr 76), some (vr 224), some (vi x2), some (vi x3)], [], pm_mm al (pm_tb 4 D) I L)) (((Cl X d 1 [vi x3] (pm_mm al (pm_tb 4 D) I L)).bind pm_ai).bind (fun r => Rn X d co_He_fewestTrodden (29, [some (vr 76), some (vr 224), some (vi x2), some (vi x3)], [vi r.1], r.2)))) :=
  (Sg_eq X d co_He_fewestTrodden st_He_fewestTrodden 6 _).trans rfl
set_option maxRecDepth 20000 in
theorem sg_He_fewestTrodden_224_29 (X : Nat × (Nat → Int32)) (d : Nat) (x2 x3 u0 : Int32) (al : List Nat) (D : Nat → Bool) (I : Nat → Nat → Int32) (L : Nat → Nat → Int64) : Rn X d co_He_fewestTrodden (29, [some (vr 76), some (vr 224), some (vi x2), some (vi x3)], [vi u0], pm_mm al (pm_tb 4 D) I L) = cond (decide (x2 ≤ u0)) (Rn X d co_He_fewestTrodden (38, [some (vr 76), some (vr 224), some (vi x2), some (vi x3)], [], pm_mm al (pm_tb 4 D) I L)) (Rn X d co_He_fewestTrodden (33, [some (vr 76), some (vr 224), some (vi x2), some (vi x3)], [], pm_mm al (pm_tb 4 D) I L)) :=
  (Sg_eq X d co_He_fewestTrodden st_He_fewestTrodden 3 _).trans rfl
set_option maxRecDepth 20000 in
theorem sg_He_fewestTrodden_224_33 (X : Nat × (Nat → Int32)) (d : Nat) (o2 : Option pm_V) (x3 : Int32) (al : List Nat) (D : Nat → Bool) (I : Nat → Nat → Int32) (L : Nat → Nat → Int64) : Rn X d co_He_fewestTrodden (33, [some (vr 76), some (vr 224), o2, some (vi x3)], [], pm_mm al (pm_tb 4 D) I L) = ((Cl X d 1 [vi x3] (pm_mm al (pm_tb 4 D) I L)).bind pm_ai).bind (fun r => Rn X d co_He_fewestTrodden (37, [some (vr 76), some (vr 224), o2, some (vi x3)], [vi r.1], r.2)) :=
  (Sg_eq X d co_He_fewestTrodden st_He_fewestTrodden 2 _).trans rfl
set_option maxRecDepth 20000 in
theorem sg_He_fewestTrodden_224_37 (X : Nat × (Nat → Int32)) (d : Nat) (o2 : Option pm_V) (x3 u0 : Int32) (al : List Nat) (D : Nat → Bool) (I : Nat → Nat → Int32) (L : Nat → Nat → Int64) : Rn X d co_He_fewestTrodden (37, [some (vr 76), some (vr 224), o2, some (vi x3)], [vi u0], pm_mm al (pm_tb 4 D) I L) = Rn X d co_He_fewestTrodden (38, [some (vr 76), some (vr 224), some (vi u0), some (vi x3)], [], pm_mm al (pm_tb 4 D) I L) :=
  (Sg_eq X d co_He_fewestTrodden st_He_fewestTrodden 2 _).trans rfl
set_option maxRecDepth 20000 in
theorem sg_He_fewestTrodden_224_38 (X : Nat × (Nat → Int32)) (d : Nat) (x2 x3 : Int32) (al : List Nat) (D : Nat → Bool) (I : Nat → Nat → Int32) (L : Nat → Nat → Int64) : Rn X d co_He_fewestTrodden (38, [some (vr 76), some (vr 224), some (vi x2), some (vi x3)], [], pm_mm al (pm_tb 4 D) I L) = Rn X d co_He_fewestTrodden (4, [some (vr 76), some (vr 224), some (vi x2), some (vi (x3 + 1))], [], pm_mm al (pm_tb 4 D) I L) :=
  (Sg_eq X d co_He_fewestTrodden st_He_fewestTrodden 3 _).trans rfl
set_option maxRecDepth 20000 in
theorem sg_He_fewestTrodden_227_0 (X : Nat × (Nat → Int32)) (d : Nat) (o2 o3 : Option pm_V) (al : List Nat) (D : Nat → Bool) (I : Nat → Nat → Int32) (L : Nat → Nat → Int64) : Rn X d co_He_fewestTrodden (0, [some (vr 76), some (vr 227), o2, o3], [], pm_mm al (pm_tb 5 D) I L) = Rn X d co_He_fewestTrodden (4, [some (vr 76), some (vr 227), some (vi (-1)), some (vi 0)], [], pm_mm al (pm_tb 5 D) I L) :=
  (Sg_eq X d co_He_fewestTrodden st_He_fewestTrodden 5 _).trans rfl
set_option maxRecDepth 20000 in
theorem sg_He_fewestTrodden_227_4 (X : Nat × (Nat → Int32)) (d : Nat) (x2 x3 : Int32) (al : List Nat) (D : Nat → Bool) (I : Nat → Nat → Int32) (L : Nat → Nat → Int64) : Rn X d co_He_fewestTrodden (4, [some (vr 76), some (vr 227), some (vi x2), some (vi x3)], [], pm_mm al (pm_tb 5 D) I L) = cond (decide (4096 ≤ x3)) (some (some (vi x2), pm_mm al (pm_tb 5 D) I L)) (cond (pm_in x3 4096) (((Cl X d 21 [vr 76, vl (L 227 x3.toNatClampNeg)] (pm_mm al (pm_tb 5 D) I L)).bind pm_ai).bind (fun r => Rn X d co_He_fewestTrodden (17, [some (vr 76), some (vr 227), some (vi x2), some (vi x3)], [vi r.1], r.2))) none) :=
  (Sg_eq X d co_He_fewestTrodden st_He_fewestTrodden 9 _).trans rfl
set_option maxRecDepth 20000 in
theorem sg_He_fewestTrodden_227_17 (X : Nat × (Nat → Int32)) (d : Nat) (x2 x3 u0 : Int32) (al : List Nat) (D : Nat → Bool) (I : Nat → Nat → Int32) (L : Nat → Nat → Int64) : Rn X d co_He_fewestTrodden (17, [some (vr 76), some (vr 227), some (vi x2), some (vi x3)], [vi u0], pm_mm al (pm_tb 5 D) I L) = cond (decide (u0 = 0)) (Rn X d co_He_fewestTrodden (38, [some (vr 76), some (vr 227), some (vi x2), some (vi x3)], [], pm_mm al (pm_tb 5 D) I L)) (cond (decide (x2 = (-1))) (Rn X d co_He_fewestTrodden (33, [some (vr 76), some (vr 227), some (vi x2), some (vi x3)], [], pm_mm al (pm_tb 5 D) I L)) (((Cl X d 1 [vi x3] (pm_mm al (pm_tb 5 D) I L)).bind pm_ai).bind (fun r => Rn X d co_He_fewestTrodden (29, [some (vr 76), some (vr 227), some (vi x2), some (vi x3)], [vi r.1], r.2)))) :=
  (Sg_eq X d co_He_fewestTrodden st_He_fewestTrodden 6 _).trans rfl
set_option maxRecDepth 20000 in
theorem sg_He_fewestTrodden_227_29 (X : Nat × (Nat → Int32)) (d : Nat) (x2 x3 u0 : Int32) (al : List Nat) (D : Nat → Bool) (I : Nat → Nat → Int32) (L : Nat → Nat → Int64) : Rn X d co_He_fewestTrodden (29, [some (vr 76), some (vr 227), some (vi x2), some (vi x3)], [vi u0], pm_mm al (pm_tb 5 D) I L) = cond (decide (x2 ≤ u0)) (Rn X d co_He_fewestTrodden (38, [some (vr 76), some (vr 227), some (vi x2), some (vi x3)], [], pm_mm al (pm_tb 5 D) I L)) (Rn X d co_He_fewestTrodden (33, [some (vr 76), some (vr 227), some (vi x2), some (vi x3)], [], pm_mm al (pm_tb 5 D) I L)) :=
  (Sg_eq X d co_He_fewestTrodden st_He_fewestTrodden 3 _).trans rfl
set_option maxRecDepth 20000 in
theorem sg_He_fewestTrodden_227_33 (X : Nat × (Nat → Int32)) (d : Nat) (o2 : Option pm_V) (x3 : Int32) (al : List Nat) (D : Nat → Bool) (I : Nat → Nat → Int32) (L : Nat → Nat → Int64) : Rn X d co_He_fewestTrodden (33, [some (vr 76), some (vr 227), o2, some (vi x3)], [], pm_mm al (pm_tb 5 D) I L) = ((Cl X d 1 [vi x3] (pm_mm al (pm_tb 5 D) I L)).bind pm_ai).bind (fun r => Rn X d co_He_fewestTrodden (37, [some (vr 76), some (vr 227), o2, some (vi x3)], [vi r.1], r.2)) :=
  (Sg_eq X d co_He_fewestTrodden st_He_fewestTrodden 2 _).trans rfl
set_option maxRecDepth 20000 in
theorem sg_He_fewestTrodden_227_37 (X : Nat × (Nat → Int32)) (d : Nat) (o2 : Option pm_V) (x3 u0 : Int32) (al : List Nat) (D : Nat → Bool) (I : Nat → Nat → Int32) (L : Nat → Nat → Int64) : Rn X d co_He_fewestTrodden (37, [some (vr 76), some (vr 227), o2, some (vi x3)], [vi u0], pm_mm al (pm_tb 5 D) I L) = Rn X d co_He_fewestTrodden (38, [some (vr 76), some (vr 227), some (vi u0), some (vi x3)], [], pm_mm al (pm_tb 5 D) I L) :=
  (Sg_eq X d co_He_fewestTrodden st_He_fewestTrodden 2 _).trans rfl
set_option maxRecDepth 20000 in
theorem sg_He_fewestTrodden_227_38 (X : Nat × (Nat → Int32)) (d : Nat) (x2 x3 : Int32) (al : List Nat) (D : Nat → Bool) (I : Nat → Nat → Int32) (L : Nat → Nat → Int64) : Rn X d co_He_fewestTrodden (38, [some (vr 76), some (vr 227), some (vi x2), some (vi x3)], [], pm_mm al (pm_tb 5 D) I L) = Rn X d co_He_fewestTrodden (4, [some (vr 76), some (vr 227), some (vi x2), some (vi (x3 + 1))], [], pm_mm al (pm_tb 5 D) I L) :=
  (Sg_eq X d co_He_fewestTrodden st_He_fewestTrodden 3 _).trans rfl
set_option maxRecDepth 20000 in
theorem sg_He_fewestTrodden_230_0 (X : Nat × (Nat → Int32)) (d : Nat) (o2 o3 : Option pm_V) (al : List Nat) (D : Nat → Bool) (I : Nat → Nat → Int32) (L : Nat → Nat → Int64) : Rn X d co_He_fewestTrodden (0, [some (vr 76), some (vr 230), o2, o3], [], pm_mm al (pm_tb 6 D) I L) = Rn X d co_He_fewestTrodden (4, [some (vr 76), some (vr 230), some (vi (-1)), some (vi 0)], [], pm_mm al (pm_tb 6 D) I L) :=
  (Sg_eq X d co_He_fewestTrodden st_He_fewestTrodden 5 _).trans rfl
set_option maxRecDepth 20000 in
theorem sg_He_fewestTrodden_230_4 (X : Nat × (Nat → Int32)) (d : Nat) (x2 x3 : Int32) (al : List Nat) (D : Nat → Bool) (I : Nat → Nat → Int32) (L : Nat → Nat → Int64) : Rn X d co_He_fewestTrodden (4, [some (vr 76), some (vr 230), some (vi x2), some (vi x3)], [], pm_mm al (pm_tb 6 D) I L) = cond (decide (4096 ≤ x3)) (some (some (vi x2), pm_mm al (pm_tb 6 D) I L)) (cond (pm_in x3 4096) (((Cl X d 21 [vr 76, vl (L 230 x3.toNatClampNeg)] (pm_mm al (pm_tb 6 D) I L)).bind pm_ai).bind (fun r => Rn X d co_He_fewestTrodden (17, [some (vr 76), some (vr 230), some (vi x2), some (vi x3)], [vi r.1], r.2))) none) :=
  (Sg_eq X d co_He_fewestTrodden st_He_fewestTrodden 9 _).trans rfl
set_option maxRecDepth 20000 in
theorem sg_He_fewestTrodden_230_17 (X : Nat × (Nat → Int32)) (d : Nat) (x2 x3 u0 : Int32) (al : List Nat) (D : Nat → Bool) (I : Nat → Nat → Int32) (L : Nat → Nat → Int64) : Rn X d co_He_fewestTrodden (17, [some (vr 76), some (vr 230), some (vi x2), some (vi x3)], [vi u0], pm_mm al (pm_tb 6 D) I L) = cond (decide (u0 = 0)) (Rn X d co_He_fewestTrodden (38, [some (vr 76), some (vr 230), some (vi x2), some (vi x3)], [], pm_mm al (pm_tb 6 D) I L)) (cond (decide (x2 = (-1))) (Rn X d co_He_fewestTrodden (33, [some (vr 76), some (vr 230), some (vi x2), some (vi x3)], [], pm_mm al (pm_tb 6 D) I L)) (((Cl X d 1 [vi x3] (pm_mm al (pm_tb 6 D) I L)).bind pm_ai).bind (fun r => Rn X d co_He_fewestTrodden (29, [some (vr 76), some (vr 230), some (vi x2), some (vi x3)], [vi r.1], r.2)))) :=
  (Sg_eq X d co_He_fewestTrodden st_He_fewestTrodden 6 _).trans rfl
set_option maxRecDepth 20000 in
theorem sg_He_fewestTrodden_230_29 (X : Nat × (Nat → Int32)) (d : Nat) (x2 x3 u0 : Int32) (al : List Nat) (D : Nat → Bool) (I : Nat → Nat → Int32) (L : Nat → Nat → Int64) : Rn X d co_He_fewestTrodden (29, [some (vr 76), some (vr 230), some (vi x2), some (vi x3)], [vi u0], pm_mm al (pm_tb 6 D) I L) = cond (decide (x2 ≤ u0)) (Rn X d co_He_fewestTrodden (38, [some (vr 76), some (vr 230), some (vi x2), some (vi x3)], [], pm_mm al (pm_tb 6 D) I L)) (Rn X d co_He_fewestTrodden (33, [some (vr 76), some (vr 230), some (vi x2), some (vi x3)], [], pm_mm al (pm_tb 6 D) I L)) :=
  (Sg_eq X d co_He_fewestTrodden st_He_fewestTrodden 3 _).trans rfl
set_option maxRecDepth 20000 in
theorem sg_He_fewestTrodden_230_33 (X : Nat × (Nat → Int32)) (d : Nat) (o2 : Option pm_V) (x3 : Int32) (al : List Nat) (D : Nat → Bool) (I : Nat → Nat → Int32) (L : Nat → Nat → Int64) : Rn X d co_He_fewestTrodden (33, [some (vr 76), some (vr 230), o2, some (vi x3)], [], pm_mm al (pm_tb 6 D) I L) = ((Cl X d 1 [vi x3] (pm_mm al (pm_tb 6 D) I L)).bind pm_ai).bind (fun r => Rn X d co_He_fewestTrodden (37, [some (vr 76), some (vr 230), o2, some (vi x3)], [vi r.1], r.2)) :=
  (Sg_eq X d co_He_fewestTrodden st_He_fewestTrodden 2 _).trans rfl
set_option maxRecDepth 20000 in
theorem sg_He_fewestTrodden_230_37 (X : Nat × (Nat → Int32)) (d : Nat) (o2 : Option pm_V) (x3 u0 : Int32) (al : List Nat) (D : Nat → Bool) (I : Nat → Nat → Int32) (L : Nat → Nat → Int64) : Rn X d co_He_fewestTrodden (37, [some (vr 76), some (vr 230), o2, some (vi x3)], [vi u0], pm_mm al (pm_tb 6 D) I L) = Rn X d co_He_fewestTrodden (38, [some (vr 76), some (vr 230), some (vi u0), some (vi x3)], [], pm_mm al (pm_tb 6 D) I L) :=
  (Sg_eq X d co_He_fewestTrodden st_He_fewestTrodden 2 _).trans rfl
set_option maxRecDepth 20000 in
theorem sg_He_fewestTrodden_230_38 (X : Nat × (Nat → Int32)) (d : Nat) (x2 x3 : Int32) (al : List Nat) (D : Nat → Bool) (I : Nat → Nat → Int32) (L : Nat → Nat → Int64) : Rn X d co_He_fewestTrodden (38, [some (vr 76), some (vr 230), some (vi x2), some (vi x3)], [], pm_mm al (pm_tb 6 D) I L) = Rn X d co_He_fewestTrodden (4, [some (vr 76), some (vr 230), some (vi x2), some (vi (x3 + 1))], [], pm_mm al (pm_tb 6 D) I L) :=
  (Sg_eq X d co_He_fewestTrodden st_He_fewestTrodden 3 _).trans rfl
def st_He_mostTrodden (pc : Nat) : Bool := cond (Nat.ble 25 pc) (cond (Nat.ble 28 pc) (cond (Nat.ble 29 pc) (cond (Nat.beq pc 29) (true) (false)) (cond (Nat.beq pc 28) (true) (false))) (cond (Nat.beq pc 25) (true) (false))) (cond (Nat.ble 4 pc) (cond (Nat.ble 17 pc) (cond (Nat.beq pc 17) (true) (false)) (cond (Nat.beq pc 4) (true) (false))) (cond (Nat.beq pc 0) (true) (false)))
set_option maxRecDepth 20000 in
theorem sg_He_mostTrodden_221_0 (X : Nat × (Nat → Int32)) (d : Nat) (o2 o3 : Option pm_V) (al : List Nat) (D : Nat → Bool) (I : Nat → Nat → Int32) (L : Nat → Nat → Int64) : Rn X d co_He_mostTrodden (0, [some (vr 76), some (vr 221), o2, o3], [], pm_mm al (pm_tb 3 D) I L) = Rn X d co_He_mostTrodden (4, [some (vr 76), some (vr 221), some (vi (-1)), some (vi 0)], [], pm_mm al (pm_tb 3 D) I L) :=
  (Sg_eq X d co_He_mostTrodden st_He_mostTrodden 5 _).trans rfl
set_option maxRecDepth 20000 in
theorem sg_He_mostTrodden_221_4 (X : Nat × (Nat → Int32)) (d : Nat) (x2 x3 : Int32) (al : List Nat) (D : Nat → Bool) (I : Nat → Nat → Int32) (L : Nat → Nat → Int64) : Rn X d co_He_mostTrodden (4, [some (vr 76), some (vr 221), some (vi x2), some (vi x3)], [], pm_mm al (pm_tb 3 D) I L) = cond (decide (4096 ≤ x3)) (some (some (vi x2), pm_mm al (pm_tb 3 D) I L)) (cond (pm_in x3 4096) (((Cl X d 21 [vr 76, vl (L 221 x3.toNatClampNeg)] (pm_mm al (pm_tb 3 D) I L)).bind pm_ai).bind (fun r => Rn X d co_He_mostTrodden (17, [some (vr 76), some (vr 221), some (vi x2), some (vi x3)], [vi r.1], r.2))) none) :=
  (Sg_eq X d co_He_mostTrodden st_He_mostTrodden 9 _).trans rfl
set_option maxRecDepth 20000 in
theorem sg_He_mostTrodden_221_17 (X : Nat × (Nat → Int32)) (d : Nat) (x2 x3 u0 : Int32) (al : List Nat) (D : Nat → Bool) (I : Nat → Nat → Int32) (L : Nat → Nat → Int64) : Rn X d co_He_mostTrodden (17, [some (vr 76), some (vr 221), some (vi x2), some (vi x3)], [vi u0], pm_mm al (pm_tb 3 D) I L) = cond (decide (u0 = 0)) (Rn X d co_He_mostTrodden (29, [some (vr 76), some (vr 221), some (vi x2), some (vi x3)], [], pm_mm al (pm_tb 3 D) I L)) (((Cl X d 1 [vi x3] (pm_mm al (pm_tb 3 D) I L)).bind pm_ai).bind (fun r => Rn X d co_He_mostTrodden (25, [some (vr 76), some (vr 221), some (vi x2), some (vi x3)], [vi r.1, vi x2], r.2))) :=
  (Sg_eq X d co_He_mostTrodden st_He_mostTrodden 4 _).trans rfl
set_option maxRecDepth 20000 in
theorem sg_He_mostTrodden_221_25 (X : Nat × (Nat → Int32)) (d : Nat) (o2 : Option pm_V) (x3 u0 u1 : Int32) (al : List Nat) (D : Nat → Bool) (I : Nat → Nat → Int32) (L : Nat → Nat → Int64) : Rn X d co_He_mostTrodden (25, [some (vr 76), some (vr 221), o2, some (vi x3)], [vi u1, vi u0], pm_mm al (pm_tb 3 D) I L) = ((Cl X d 4 [vi u0, vi u1] (pm_mm al (pm_tb 3 D) I L)).bind pm_ai).bind (fun r => Rn X d co_He_mostTrodden (28, [some (vr 76), some (vr 221), o2, some (vi x3)], [vi r.1], r.2)) :=
  (Sg_eq X d co_He_mostTrodden st_He_mostTrodden 1 _).trans rfl
set_option maxRecDepth 20000 in
theorem sg_He_mostTrodden_221_28 (X : Nat × (Nat → Int32)) (d : Nat) (o2 : Option pm_V) (x3 u0 : Int32) (al : List Nat) (D : Nat → Bool) (I : Nat → Nat → Int32) (L : Nat → Nat → Int64) : Rn X d co_He_mostTrodden (28, [some (vr 76), some (vr 221), o2, some (vi x3)], [vi u0], pm_mm al (pm_tb 3 D) I L) = Rn X d co_He_mostTrodden (29, [some (vr 76), some (vr 221), some (vi u0), some (vi x3)], [], pm_mm al (pm_tb 3 D) I L) :=
  (Sg_eq X d co_He_mostTrodden st_He_mostTrodden 2 _).trans rfl
set_option maxRecDepth 20000 in
theorem sg_He_mostTrodden_221_29 (X : Nat × (Nat → Int32)) (d : Nat) (x2 x3 : Int32) (al : List Nat) (D : Nat → Bool) (I : Nat → Nat → Int32) (L : Nat → Nat → Int64) : Rn X d co_He_mostTrodden (29, [some (vr 76), some (vr 221), some (vi x2), some (vi x3)], [], pm_mm al (pm_tb 3 D) I L) = Rn X d co_He_mostTrodden (4, [some (vr 76), some (vr 221), some (vi x2), some (vi (x3 + 1))], [], pm_mm al (pm_tb 3 D) I L) :=
  (Sg_eq X d co_He_mostTrodden st_He_mostTrodden 3 _).trans rfl
set_option maxRecDepth 20000 in
theorem sg_He_mostTrodden_224_0 (X : Nat × (Nat → Int32)) (d : Nat) (o2 o3 : Option pm_V) (al : List Nat) (D : Nat → Bool) (I : Nat → Nat → Int32) (L : Nat → Nat → Int64) : Rn X d co_He_mostTrodden (0, [some (vr 76), some (vr 224), o2, o3], [], pm_mm al (pm_tb 4 D) I L) = Rn X d co_He_mostTrodden (4, [some (vr 76), some (vr 224), some (vi (-1)), some (vi 0)], [], pm_mm al (pm_tb 4 D) I L) :=
  (Sg_eq X d co_He_mostTrodden st_He_mostTrodden 5 _).trans rfl
set_option maxRecDepth 20000 in
theorem sg_He_mostTrodden_224_4 (X : Nat × (Nat → Int32)) (d : Nat) (x2 x3 : Int32) (al : List Nat) (D : Nat → Bool) (I : Nat → Nat → Int32) (L : Nat → Nat → Int64) : Rn X d co_He_mostTrodden (4, [some (vr 76), some (vr 224), some (vi x2), some (vi x3)], [], pm_mm al (pm_tb 4 D) I L) = cond (decide (4096 ≤ x3)) (some (some (vi x2), pm_mm al (pm_tb 4 D) I L)) (cond (pm_in x3 4096) (((Cl X d 21 [vr 76, vl (L 224 x3.toNatClampNeg)] (pm_mm al (pm_tb 4 D) I L)).bind pm_ai).bind (fun r => Rn X d co_He_mostTrodden (17, [some (vr 76), some (vr 224), some (vi x2), some (vi x3)], [vi r.1], r.2))) none) :=
  (Sg_eq X d co_He_mostTrodden st_He_mostTrodden 9 _).trans rfl
set_option maxRecDepth 20000 in
theorem sg_He_mostTrodden_224_17 (X : Nat × (Nat → Int32)) (d : Nat) (x2 x3 u0 : Int32) (al : List Nat) (D : Nat → Bool) (I : Nat → Nat → Int32) (L : Nat → Nat → Int64) : Rn X d co_He_mostTrodden (17, [some (vr 76), some (vr 224), some (vi x2), some (vi x3)], [vi u0], pm_mm al (pm_tb 4 D) I L) = cond (decide (u0 = 0)) (Rn X d co_He_mostTrodden (29, [some (vr 76), some (vr 224), some (vi x2), some (vi x3)], [], pm_mm al (pm_tb 4 D) I L)) (((Cl X d 1 [vi x3] (pm_mm al (pm_tb 4 D) I L)).bind pm_ai).bind (fun r => Rn X d co_He_mostTrodden (25, [some (vr 76), some (vr 224), some (vi x2), some (vi x3)], [vi r.1, vi x2], r.2))) :=
  (Sg_eq X d co_He_mostTrodden st_He_mostTrodden 4 _).trans rfl
set_option maxRecDepth 20000 in
theorem sg_He_mostTrodden_224_25 (X : Nat × (Nat → Int32)) (d : Nat) (o2 : Option pm_V) (x3 u0 u1 : Int32) (al : List Nat) (D : Nat → Bool) (I : Nat → Nat → Int32) (L : Nat → Nat → Int64) : Rn X d co_He_mostTrodden (25, [some (vr 76), some (vr 224), o2, some (vi x3)], [vi u1, vi u0], pm_mm al (pm_tb 4 D) I L) = ((Cl X d 4 [vi u0, vi u1] (pm_mm al (pm_tb 4 D) I L)).bind pm_ai).bind (fun r => Rn X d co_He_mostTrodden (28, [some (vr 76), some (vr 224), o2, some (vi x3)], [vi r.1], r.2)) :=
  (Sg_eq X d co_He_mostTrodden st_He_mostTrodden 1 _).trans rfl
set_option maxRecDepth 20000 in
theorem sg_He_mostTrodden_224_28 (X : Nat × (Nat → Int32)) (d : Nat) (o2 : Option pm_V) (x3 u0 : Int32) (al : List Nat) (D : Nat → Bool) (I : Nat → Nat → Int32) (L : Nat → Nat → Int64) : Rn X d co_He_mostTrodden (28, [some (vr 76), some (vr 224), o2, some (vi x3)], [vi u0], pm_mm al (pm_tb 4 D) I L) = Rn X d co_He_mostTrodden (29, [some (vr 76), some (vr 224), some (vi u0), some (vi x3)], [], pm_mm al (pm_tb 4 D) I L) :=
  (Sg_eq X d co_He_mostTrodden st_He_mostTrodden 2 _).trans rfl
set_option maxRecDepth 20000 in
theorem sg_He_mostTrodden_224_29 (X : Nat × (Nat → Int32)) (d : Nat) (x2 x3 : Int32) (al : List Nat) (D : Nat → Bool) (I : Nat → Nat → Int32) (L : Nat → Nat → Int64) : Rn X d co_He_mostTrodden (29, [some (vr 76), some (vr 224), some (vi x2), some (vi x3)], [], pm_mm al (pm_tb 4 D) I L) = Rn X d co_He_mostTrodden (4, [some (vr 76), some (vr 224), some (vi x2), some (vi (x3 + 1))], [], pm_mm al (pm_tb 4 D) I L) :=
  (Sg_eq X d co_He_mostTrodden st_He_mostTrodden 3 _).trans rfl
set_option maxRecDepth 20000 in
theorem sg_He_mostTrodden_227_0 (X : Nat × (Nat → Int32)) (d : Nat) (o2 o3 : Option pm_V) (al : List Nat) (D : Nat → Bool) (I : Nat → Nat → Int32) (L : Nat → Nat → Int64) : Rn X d co_He_mostTrodden (0, [some (vr 76), some (vr 227), o2, o3], [], pm_mm al (pm_tb 5 D) I L) = Rn X d co_He_mostTrodden (4, [some (vr 76), some (vr 227), some (vi (-1)), some (vi 0)], [], pm_mm al (pm_tb 5 D) I L) :=
  (Sg_eq X d co_He_mostTrodden st_He_mostTrodden 5 _).trans rfl
set_option maxRecDepth 20000 in
theorem sg_He_mostTrodden_227_4 (X : Nat × (Nat → Int32)) (d : Nat) (x2 x3 : Int32) (al : List Nat) (D : Nat → Bool) (I : Nat → Nat → Int32) (L : Nat → Nat → Int64) : Rn X d co_He_mostTrodden (4, [some (vr 76), some (vr 227), some (vi x2), some (vi x3)], [], pm_mm al (pm_tb 5 D) I L) = cond (decide (4096 ≤ x3)) (some (some (vi x2), pm_mm al (pm_tb 5 D) I L)) (cond (pm_in x3 4096) (((Cl X d 21 [vr 76, vl (L 227 x3.toNatClampNeg)] (pm_mm al (pm_tb 5 D) I L)).bind pm_ai).bind (fun r => Rn X d co_He_mostTrodden (17, [some (vr 76), some (vr 227), some (vi x2), some (vi x3)], [vi r.1], r.2))) none) :=
  (Sg_eq X d co_He_mostTrodden st_He_mostTrodden 9 _).trans rfl
set_option maxRecDepth 20000 in
theorem sg_He_mostTrodden_227_17 (X : Nat × (Nat → Int32)) (d : Nat) (x2 x3 u0 : Int32) (al : List Nat) (D : Nat → Bool) (I : Nat → Nat → Int32) (L : Nat → Nat → Int64) : Rn X d co_He_mostTrodden (17, [some (vr 76), some (vr 227), some (vi x2), some (vi x3)], [vi u0], pm_mm al (pm_tb 5 D) I L) = cond (decide (u0 = 0)) (Rn X d co_He_mostTrodden (29, [some (vr 76), some (vr 227), some (vi x2), some (vi x3)], [], pm_mm al (pm_tb 5 D) I L)) (((Cl X d 1 [vi x3] (pm_mm al (pm_tb 5 D) I L)).bind pm_ai).bind (fun r => Rn X d co_He_mostTrodden (25, [some (vr 76), some (vr 227), some (vi x2), some (vi x3)], [vi r.1, vi x2], r.2))) :=
  (Sg_eq X d co_He_mostTrodden st_He_mostTrodden 4 _).trans rfl
set_option maxRecDepth 20000 in
theorem sg_He_mostTrodden_227_25 (X : Nat × (Nat → Int32)) (d : Nat) (o2 : Option pm_V) (x3 u0 u1 : Int32) (al : List Nat) (D : Nat → Bool) (I : Nat → Nat → Int32) (L : Nat → Nat → Int64) : Rn X d co_He_mostTrodden (25, [some (vr 76), some (vr 227), o2, some (vi x3)], [vi u1, vi u0], pm_mm al (pm_tb 5 D) I L) = ((Cl X d 4 [vi u0, vi u1] (pm_mm al (pm_tb 5 D) I L)).bind pm_ai).bind (fun r => Rn X d co_He_mostTrodden (28, [some (vr 76), some (vr 227), o2, some (vi x3)], [vi r.1], r.2)) :=
  (Sg_eq X d co_He_mostTrodden st_He_mostTrodden 1 _).trans rfl
set_option maxRecDepth 20000 in
theorem sg_He_mostTrodden_227_28 (X : Nat × (Nat → Int32)) (d : Nat) (o2 : Option pm_V) (x3 u0 : Int32) (al : List Nat) (D : Nat → Bool) (I : Nat → Nat → Int32) (L : Nat → Nat → Int64) : Rn X d co_He_mostTrodden (28, [some (vr 76), some (vr 227), o2, some (vi x3)], [vi u0], pm_mm al (pm_tb 5 D) I L) = Rn X d co_He_mostTrodden (29, [some (vr 76), some (vr 227), some (vi u0), some (vi x3)], [], pm_mm al (pm_tb 5 D) I L) :=
  (Sg_eq X d co_He_mostTrodden st_He_mostTrodden 2 _).trans rfl
set_option maxRecDepth 20000 in
theorem sg_He_mostTrodden_227_29 (X : Nat × (Nat → Int32)) (d : Nat) (x2 x3 : Int32) (al : List Nat) (D : Nat → Bool) (I : Nat → Nat → Int32) (L : Nat → Nat → Int64) : Rn X d co_He_mostTrodden (29, [some (vr 76), some (vr 227), some (vi x2), some (vi x3)], [], pm_mm al (pm_tb 5 D) I L) = Rn X d co_He_mostTrodden (4, [some (vr 76), some (vr 227), some (vi x2), some (vi (x3 + 1))], [], pm_mm al (pm_tb 5 D) I L) :=
  (Sg_eq X d co_He_mostTrodden st_He_mostTrodden 3 _).trans rfl
set_option maxRecDepth 20000 in
theorem sg_He_mostTrodden_230_0 (X : Nat × (Nat → Int32)) (d : Nat) (o2 o3 : Option pm_V) (al : List Nat) (D : Nat → Bool) (I : Nat → Nat → Int32) (L : Nat → Nat → Int64) : Rn X d co_He_mostTrodden (0, [some (vr 76), some (vr 230), o2, o3], [], pm_mm al (pm_tb 6 D) I L) = Rn X d co_He_mostTrodden (4, [some (vr 76), some (vr 230), some (vi (-1)), some (vi 0)], [], pm_mm al (pm_tb 6 D) I L) :=
  (Sg_eq X d co_He_mostTrodden st_He_mostTrodden 5 _).trans rfl
set_option maxRecDepth 20000 in
theorem sg_He_mostTrodden_230_4 (X : Nat × (Nat → Int32)) (d : Nat) (x2 x3 : Int32) (al : List Nat) (D : Nat → Bool) (I : Nat → Nat → Int32) (L : Nat → Nat → Int64) : Rn X d co_He_mostTrodden (4, [some (vr 76), some (vr 230), some (vi x2), some (vi x3)], [], pm_mm al (pm_tb 6 D) I L) = cond (decide (4096 ≤ x3)) (some (some (vi x2), pm_mm al (pm_tb 6 D) I L)) (cond (pm_in x3 4096) (((Cl X d 21 [vr 76, vl (L 230 x3.toNatClampNeg)] (pm_mm al (pm_tb 6 D) I L)).bind pm_ai).bind (fun r => Rn X d co_He_mostTrodden (17, [some (vr 76), some (vr 230), some (vi x2), some (vi x3)], [vi r.1], r.2))) none) :=
  (Sg_eq X d co_He_mostTrodden st_He_mostTrodden 9 _).trans rfl
set_option maxRecDepth 20000 in
theorem sg_He_mostTrodden_230_17 (X : Nat × (Nat → Int32)) (d : Nat) (x2 x3 u0 : Int32) (al : List Nat) (D : Nat → Bool) (I : Nat → Nat → Int32) (L : Nat → Nat → Int64) : Rn X d co_He_mostTrodden (17, [some (vr 76), some (vr 230), some (vi x2), some (vi x3)], [vi u0], pm_mm al (pm_tb 6 D) I L) = cond (decide (u0 = 0)) (Rn X d co_He_mostTrodden (29, [some (vr 76), some (vr 230), some (vi x2), some (vi x3)], [], pm_mm al (pm_tb 6 D) I L)) (((Cl X d 1 [vi x3] (pm_mm al (pm_tb 6 D) I L)).bind pm_ai).bind (fun r => Rn X d co_He_mostTrodden (25, [some (vr 76), some (vr 230), some (vi x2), some (vi x3)], [vi r.1, vi x2], r.2))) :=
  (Sg_eq X d co_He_mostTrodden st_He_mostTrodden 4 _).trans rfl
set_option maxRecDepth 20000 in
theorem sg_He_mostTrodden_230_25 (X : Nat × (Nat → Int32)) (d : Nat) (o2 : Option pm_V) (x3 u0 u1 : Int32) (al : List Nat) (D : Nat → Bool) (I : Nat → Nat → Int32) (L : Nat → Nat → Int64) : Rn X d co_He_mostTrodden (25, [some (vr 76), some (vr 230), o2, some (vi x3)], [vi u1, vi u0], pm_mm al (pm_tb 6 D) I L) = ((Cl X d 4 [vi u0, vi u1] (pm_mm al (pm_tb 6 D) I L)).bind pm_ai).bind (fun r => Rn X d co_He_mostTrodden (28, [some (vr 76), some (vr 230), o2, some (vi x3)], [vi r.1], r.2)) :=
  (Sg_eq X d co_He_mostTrodden st_He_mostTrodden 1 _).trans rfl
set_option maxRecDepth 20000 in
theorem sg_He_mostTrodden_230_28 (X : Nat × (Nat → Int32)) (d : Nat) (o2 : Option pm_V) (x3 u0 : Int32) (al : List Nat) (D : Nat → Bool) (I : Nat → Nat → Int32) (L : Nat → Nat → Int64) : Rn X d co_He_mostTrodden (28, [some (vr 76), some (vr 230), o2, some (vi x3)], [vi u0], pm_mm al (pm_tb 6 D) I L) = Rn X d co_He_mostTrodden (29, [some (vr 76), some (vr 230), some (vi u0), some (vi x3)], [], pm_mm al (pm_tb 6 D) I L) :=
  (Sg_eq X d co_He_mostTrodden st_He_mostTrodden 2 _).trans rfl
set_option maxRecDepth 20000 in
theorem sg_He_mostTrodden_230_29 (X : Nat × (Nat → Int32)) (d : Nat) (x2 x3 : Int32) (al : List Nat) (D : Nat → Bool) (I : Nat → Nat → Int32) (L : Nat → Nat → Int64) : Rn X d co_He_mostTrodden (29, [some (vr 76), some (vr 230), some (vi x2), some (vi x3)], [], pm_mm al (pm_tb 6 D) I L) = Rn X d co_He_mostTrodden (4, [some (vr 76), some (vr 230), some (vi x2), some (vi (x3 + 1))], [], pm_mm al (pm_tb 6 D) I L) :=
  (Sg_eq X d co_He_mostTrodden st_He_mostTrodden 3 _).trans rfl
def st_He_nextToHear (pc : Nat) : Bool := cond (Nat.ble 13 pc) (cond (Nat.ble 26 pc) (cond (Nat.ble 45 pc) (cond (Nat.beq pc 45) (true) (false)) (cond (Nat.beq pc 26) (true) (false))) (cond (Nat.beq pc 13) (true) (false))) (cond (Nat.ble 5 pc) (cond (Nat.beq pc 5) (true) (false)) (cond (Nat.beq pc 0) (true) (false)))
set_option maxRecDepth 20000 in
theorem sg_He_nextToHear_221_0 (X : Nat × (Nat → Int32)) (d : Nat) (o2 o3 o4 o5 : Option pm_V) (al : List Nat) (D : Nat → Bool) (I : Nat → Nat → Int32) (L : Nat → Nat → Int64) : Rn X d co_He_nextToHear (0, [some (vr 76), some (vr 221), o2, o3, o4, o5], [], pm_mm al (pm_tb 3 D) I L) = ((Cl X d 29 [vr 76, vr 221] (pm_mm al (pm_tb 3 D) I L)).bind pm_av).bind (fun r => Rn X d co_He_nextToHear (5, [some (vr 76), some (vr 221), o2, o3, o4, o5], [], r)) :=
  (Sg_eq X d co_He_nextToHear st_He_nextToHear 3 _).trans rfl
set_option maxRecDepth 20000 in
theorem sg_He_nextToHear_221_5 (X : Nat × (Nat → Int32)) (d : Nat) (o1 o2 o3 o4 o5 : Option pm_V) (al : List Nat) (D : Nat → Bool) (I : Nat → Nat → Int32) (L : Nat → Nat → Int64) : Rn X d co_He_nextToHear (5, [some (vr 76), o1, o2, o3, o4, o5], [], pm_mm al D I L) = Rn X d co_He_nextToHear (13, [some (vr 76), (pm_nl o1), some (vi 1000000), some (vi (-1)), some (vi 0), o5], [], pm_mm al D I L) :=
  (Sg_eq X d co_He_nextToHear st_He_nextToHear 7 _).trans rfl
set_option maxRecDepth 20000 in
theorem sg_He_nextToHear_221_13 (X : Nat × (Nat → Int32)) (d : Nat) (o1 : Option pm_V) (x2 x3 x4 : Int32) (o5 : Option pm_V) (al : List Nat) (D : Nat → Bool) (I : Nat → Nat → Int32) (L : Nat → Nat → Int64) : Rn X d co_He_nextToHear (13, [some (vr 76), o1, some (vi x2), some (vi x3), some (vi x4), o5], [], pm_mm al D I L) = cond (decide (12 ≤ x4)) (some (some (vi x3), pm_mm al D I L)) (((Cl X d 30 [vr 76, vi x4] (pm_mm al D I L)).bind pm_ai).bind (fun r => Rn X d co_He_nextToHear (26, [some (vr 76), o1, some (vi x2), some (vi x3), some (vi x4), o5], [vi r.1], r.2))) :=
  (Sg_eq X d co_He_nextToHear st_He_nextToHear 6 _).trans rfl
set_option maxRecDepth 20000 in
theorem sg_He_nextToHear_221_26 (X : Nat × (Nat → Int32)) (d : Nat) (o1 : Option pm_V) (x2 x3 x4 : Int32) (o5 : Option pm_V) (u0 : Int32) (al : List Nat) (D : Nat → Bool) (I : Nat → Nat → Int32) (L : Nat → Nat → Int64) : Rn X d co_He_nextToHear (26, [some (vr 76), o1, some (vi x2), some (vi x3), some (vi x4), o5], [vi u0], pm_mm al D I L) = cond (decide (u0 ≤ 0)) (Rn X d co_He_nextToHear (45, [some (vr 76), o1, some (vi x2), some (vi x3), some (vi x4), some (vi u0)], [], pm_mm al D I L)) (cond (decide (x2 ≤ u0)) (Rn X d co_He_nextToHear (45, [some (vr 76), o1, some (vi x2), some (vi x3), some (vi x4), some (vi u0)], [], pm_mm al D I L)) (Rn X d co_He_nextToHear (45, [some (vr 76), (pm_nl o1), some (vi u0), some (vi x4), some (vi x4), some (vi u0)], [], pm_mm al D I L))) :=
  (Sg_eq X d co_He_nextToHear st_He_nextToHear 11 _).trans rfl
set_option maxRecDepth 20000 in
theorem sg_He_nextToHear_221_45 (X : Nat × (Nat → Int32)) (d : Nat) (o1 : Option pm_V) (x2 x3 x4 : Int32) (o5 : Option pm_V) (al : List Nat) (D : Nat → Bool) (I : Nat → Nat → Int32) (L : Nat → Nat → Int64) : Rn X d co_He_nextToHear (45, [some (vr 76), o1, some (vi x2), some (vi x3), some (vi x4), o5], [], pm_mm al D I L) = Rn X d co_He_nextToHear (13, [some (vr 76), o1, some (vi x2), some (vi x3), some (vi (x4 + 1)), o5], [], pm_mm al D I L) :=
  (Sg_eq X d co_He_nextToHear st_He_nextToHear 3 _).trans rfl
set_option maxRecDepth 20000 in
theorem sg_He_nextToHear_224_0 (X : Nat × (Nat → Int32)) (d : Nat) (o2 o3 o4 o5 : Option pm_V) (al : List Nat) (D : Nat → Bool) (I : Nat → Nat → Int32) (L : Nat → Nat → Int64) : Rn X d co_He_nextToHear (0, [some (vr 76), some (vr 224), o2, o3, o4, o5], [], pm_mm al (pm_tb 4 D) I L) = ((Cl X d 29 [vr 76, vr 224] (pm_mm al (pm_tb 4 D) I L)).bind pm_av).bind (fun r => Rn X d co_He_nextToHear (5, [some (vr 76), some (vr 224), o2, o3, o4, o5], [], r)) :=
  (Sg_eq X d co_He_nextToHear st_He_nextToHear 3 _).trans rfl
set_option maxRecDepth 20000 in
theorem sg_He_nextToHear_224_5 (X : Nat × (Nat → Int32)) (d : Nat) (o1 o2 o3 o4 o5 : Option pm_V) (al : List Nat) (D : Nat → Bool) (I : Nat → Nat → Int32) (L : Nat → Nat → Int64) : Rn X d co_He_nextToHear (5, [some (vr 76), o1, o2, o3, o4, o5], [], pm_mm al D I L) = Rn X d co_He_nextToHear (13, [some (vr 76), (pm_nl o1), some (vi 1000000), some (vi (-1)), some (vi 0), o5], [], pm_mm al D I L) :=
  (Sg_eq X d co_He_nextToHear st_He_nextToHear 7 _).trans rfl
set_option maxRecDepth 20000 in
theorem sg_He_nextToHear_224_13 (X : Nat × (Nat → Int32)) (d : Nat) (o1 : Option pm_V) (x2 x3 x4 : Int32) (o5 : Option pm_V) (al : List Nat) (D : Nat → Bool) (I : Nat → Nat → Int32) (L : Nat → Nat → Int64) : Rn X d co_He_nextToHear (13, [some (vr 76), o1, some (vi x2), some (vi x3), some (vi x4), o5], [], pm_mm al D I L) = cond (decide (12 ≤ x4)) (some (some (vi x3), pm_mm al D I L)) (((Cl X d 30 [vr 76, vi x4] (pm_mm al D I L)).bind pm_ai).bind (fun r => Rn X d co_He_nextToHear (26, [some (vr 76), o1, some (vi x2), some (vi x3), some (vi x4), o5], [vi r.1], r.2))) :=
  (Sg_eq X d co_He_nextToHear st_He_nextToHear 6 _).trans rfl
set_option maxRecDepth 20000 in
theorem sg_He_nextToHear_224_26 (X : Nat × (Nat → Int32)) (d : Nat) (o1 : Option pm_V) (x2 x3 x4 : Int32) (o5 : Option pm_V) (u0 : Int32) (al : List Nat) (D : Nat → Bool) (I : Nat → Nat → Int32) (L : Nat → Nat → Int64) : Rn X d co_He_nextToHear (26, [some (vr 76), o1, some (vi x2), some (vi x3), some (vi x4), o5], [vi u0], pm_mm al D I L) = cond (decide (u0 ≤ 0)) (Rn X d co_He_nextToHear (45, [some (vr 76), o1, some (vi x2), some (vi x3), some (vi x4), some (vi u0)], [], pm_mm al D I L)) (cond (decide (x2 ≤ u0)) (Rn X d co_He_nextToHear (45, [some (vr 76), o1, some (vi x2), some (vi x3), some (vi x4), some (vi u0)], [], pm_mm al D I L)) (Rn X d co_He_nextToHear (45, [some (vr 76), (pm_nl o1), some (vi u0), some (vi x4), some (vi x4), some (vi u0)], [], pm_mm al D I L))) :=
  (Sg_eq X d co_He_nextToHear st_He_nextToHear 11 _).trans rfl
set_option maxRecDepth 20000 in
theorem sg_He_nextToHear_224_45 (X : Nat × (Nat → Int32)) (d : Nat) (o1 : Option pm_V) (x2 x3 x4 : Int32) (o5 : Option pm_V) (al : List Nat) (D : Nat → Bool) (I : Nat → Nat → Int32) (L : Nat → Nat → Int64) : Rn X d co_He_nextToHear (45, [some (vr 76), o1, some (vi x2), some (vi x3), some (vi x4), o5], [], pm_mm al D I L) = Rn X d co_He_nextToHear (13, [some (vr 76), o1, some (vi x2), some (vi x3), some (vi (x4 + 1)), o5], [], pm_mm al D I L) :=
  (Sg_eq X d co_He_nextToHear st_He_nextToHear 3 _).trans rfl
set_option maxRecDepth 20000 in
theorem sg_He_nextToHear_227_0 (X : Nat × (Nat → Int32)) (d : Nat) (o2 o3 o4 o5 : Option pm_V) (al : List Nat) (D : Nat → Bool) (I : Nat → Nat → Int32) (L : Nat → Nat → Int64) : Rn X d co_He_nextToHear (0, [some (vr 76), some (vr 227), o2, o3, o4, o5], [], pm_mm al (pm_tb 5 D) I L) = ((Cl X d 29 [vr 76, vr 227] (pm_mm al (pm_tb 5 D) I L)).bind pm_av).bind (fun r => Rn X d co_He_nextToHear (5, [some (vr 76), some (vr 227), o2, o3, o4, o5], [], r)) :=
  (Sg_eq X d co_He_nextToHear st_He_nextToHear 3 _).trans rfl
set_option maxRecDepth 20000 in
theorem sg_He_nextToHear_227_5 (X : Nat × (Nat → Int32)) (d : Nat) (o1 o2 o3 o4 o5 : Option pm_V) (al : List Nat) (D : Nat → Bool) (I : Nat → Nat → Int32) (L : Nat → Nat → Int64) : Rn X d co_He_nextToHear (5, [some (vr 76), o1, o2, o3, o4, o5], [], pm_mm al D I L) = Rn X d co_He_nextToHear (13, [some (vr 76), (pm_nl o1), some (vi 1000000), some (vi (-1)), some (vi 0), o5], [], pm_mm al D I L) :=
  (Sg_eq X d co_He_nextToHear st_He_nextToHear 7 _).trans rfl
set_option maxRecDepth 20000 in
theorem sg_He_nextToHear_227_13 (X : Nat × (Nat → Int32)) (d : Nat) (o1 : Option pm_V) (x2 x3 x4 : Int32) (o5 : Option pm_V) (al : List Nat) (D : Nat → Bool) (I : Nat → Nat → Int32) (L : Nat → Nat → Int64) : Rn X d co_He_nextToHear (13, [some (vr 76), o1, some (vi x2), some (vi x3), some (vi x4), o5], [], pm_mm al D I L) = cond (decide (12 ≤ x4)) (some (some (vi x3), pm_mm al D I L)) (((Cl X d 30 [vr 76, vi x4] (pm_mm al D I L)).bind pm_ai).bind (fun r => Rn X d co_He_nextToHear (26, [some (vr 76), o1, some (vi x2), some (vi x3), some (vi x4), o5], [vi r.1], r.2))) :=
  (Sg_eq X d co_He_nextToHear st_He_nextToHear 6 _).trans rfl
set_option maxRecDepth 20000 in
theorem sg_He_nextToHear_227_26 (X : Nat × (Nat → Int32)) (d : Nat) (o1 : Option pm_V) (x2 x3 x4 : Int32) (o5 : Option pm_V) (u0 : Int32) (al : List Nat) (D : Nat → Bool) (I : Nat → Nat → Int32) (L : Nat → Nat → Int64) : Rn X d co_He_nextToHear (26, [some (vr 76), o1, some (vi x2), some (vi x3), some (vi x4), o5], [vi u0], pm_mm al D I L) = cond (decide (u0 ≤ 0)) (Rn X d co_He_nextToHear (45, [some (vr 76), o1, some (vi x2), some (vi x3), some (vi x4), some (vi u0)], [], pm_mm al D I L)) (cond (decide (x2 ≤ u0)) (Rn X d co_He_nextToHear (45, [some (vr 76), o1, some (vi x2), some (vi x3), some (vi x4), some (vi u0)], [], pm_mm al D I L)) (Rn X d co_He_nextToHear (45, [some (vr 76), (pm_nl o1), some (vi u0), some (vi x4), some (vi x4), some (vi u0)], [], pm_mm al D I L))) :=
  (Sg_eq X d co_He_nextToHear st_He_nextToHear 11 _).trans rfl
set_option maxRecDepth 20000 in
theorem sg_He_nextToHear_227_45 (X : Nat × (Nat → Int32)) (d : Nat) (o1 : Option pm_V) (x2 x3 x4 : Int32) (o5 : Option pm_V) (al : List Nat) (D : Nat → Bool) (I : Nat → Nat → Int32) (L : Nat → Nat → Int64) : Rn X d co_He_nextToHear (45, [some (vr 76), o1, some (vi x2), some (vi x3), some (vi x4), o5], [], pm_mm al D I L) = Rn X d co_He_nextToHear (13, [some (vr 76), o1, some (vi x2), some (vi x3), some (vi (x4 + 1)), o5], [], pm_mm al D I L) :=
  (Sg_eq X d co_He_nextToHear st_He_nextToHear 3 _).trans rfl
set_option maxRecDepth 20000 in
theorem sg_He_nextToHear_230_0 (X : Nat × (Nat → Int32)) (d : Nat) (o2 o3 o4 o5 : Option pm_V) (al : List Nat) (D : Nat → Bool) (I : Nat → Nat → Int32) (L : Nat → Nat → Int64) : Rn X d co_He_nextToHear (0, [some (vr 76), some (vr 230), o2, o3, o4, o5], [], pm_mm al (pm_tb 6 D) I L) = ((Cl X d 29 [vr 76, vr 230] (pm_mm al (pm_tb 6 D) I L)).bind pm_av).bind (fun r => Rn X d co_He_nextToHear (5, [some (vr 76), some (vr 230), o2, o3, o4, o5], [], r)) :=
  (Sg_eq X d co_He_nextToHear st_He_nextToHear 3 _).trans rfl
set_option maxRecDepth 20000 in
theorem sg_He_nextToHear_230_5 (X : Nat × (Nat → Int32)) (d : Nat) (o1 o2 o3 o4 o5 : Option pm_V) (al : List Nat) (D : Nat → Bool) (I : Nat → Nat → Int32) (L : Nat → Nat → Int64) : Rn X d co_He_nextToHear (5, [some (vr 76), o1, o2, o3, o4, o5], [], pm_mm al D I L) = Rn X d co_He_nextToHear (13, [some (vr 76), (pm_nl o1), some (vi 1000000), some (vi (-1)), some (vi 0), o5], [], pm_mm al D I L) :=
  (Sg_eq X d co_He_nextToHear st_He_nextToHear 7 _).trans rfl
set_option maxRecDepth 20000 in
theorem sg_He_nextToHear_230_13 (X : Nat × (Nat → Int32)) (d : Nat) (o1 : Option pm_V) (x2 x3 x4 : Int32) (o5 : Option pm_V) (al : List Nat) (D : Nat → Bool) (I : Nat → Nat → Int32) (L : Nat → Nat → Int64) : Rn X d co_He_nextToHear (13, [some (vr 76), o1, some (vi x2), some (vi x3), some (vi x4), o5], [], pm_mm al D I L) = cond (decide (12 ≤ x4)) (some (some (vi x3), pm_mm al D I L)) (((Cl X d 30 [vr 76, vi x4] (pm_mm al D I L)).bind pm_ai).bind (fun r => Rn X d co_He_nextToHear (26, [some (vr 76), o1, some (vi x2), some (vi x3), some (vi x4), o5], [vi r.1], r.2))) :=
  (Sg_eq X d co_He_nextToHear st_He_nextToHear 6 _).trans rfl
set_option maxRecDepth 20000 in
theorem sg_He_nextToHear_230_26 (X : Nat × (Nat → Int32)) (d : Nat) (o1 : Option pm_V) (x2 x3 x4 : Int32) (o5 : Option pm_V) (u0 : Int32) (al : List Nat) (D : Nat → Bool) (I : Nat → Nat → Int32) (L : Nat → Nat → Int64) : Rn X d co_He_nextToHear (26, [some (vr 76), o1, some (vi x2), some (vi x3), some (vi x4), o5], [vi u0], pm_mm al D I L) = cond (decide (u0 ≤ 0)) (Rn X d co_He_nextToHear (45, [some (vr 76), o1, some (vi x2), some (vi x3), some (vi x4), some (vi u0)], [], pm_mm al D I L)) (cond (decide (x2 ≤ u0)) (Rn X d co_He_nextToHear (45, [some (vr 76), o1, some (vi x2), some (vi x3), some (vi x4), some (vi u0)], [], pm_mm al D I L)) (Rn X d co_He_nextToHear (45, [some (vr 76), (pm_nl o1), some (vi u0), some (vi x4), some (vi x4), some (vi u0)], [], pm_mm al D I L))) :=
  (Sg_eq X d co_He_nextToHear st_He_nextToHear 11 _).trans rfl
set_option maxRecDepth 20000 in
theorem sg_He_nextToHear_230_45 (X : Nat × (Nat → Int32)) (d : Nat) (o1 : Option pm_V) (x2 x3 x4 : Int32) (o5 : Option pm_V) (al : List Nat) (D : Nat → Bool) (I : Nat → Nat → Int32) (L : Nat → Nat → Int64) : Rn X d co_He_nextToHear (45, [some (vr 76), o1, some (vi x2), some (vi x3), some (vi x4), o5], [], pm_mm al D I L) = Rn X d co_He_nextToHear (13, [some (vr 76), o1, some (vi x2), some (vi x3), some (vi (x4 + 1)), o5], [], pm_mm al D I L) :=
  (Sg_eq X d co_He_nextToHear st_He_nextToHear 3 _).trans rfl
def st_He_countAlike (pc : Nat) : Bool := cond (Nat.ble 39 pc) (cond (Nat.ble 65 pc) (cond (Nat.ble 77 pc) (cond (Nat.beq pc 77) (true) (false)) (cond (Nat.beq pc 65) (true) (false))) (cond (Nat.ble 44 pc) (cond (Nat.beq pc 44) (true) (false)) (cond (Nat.beq pc 39) (true) (false)))) (cond (Nat.ble 2 pc) (cond (Nat.ble 26 pc) (cond (Nat.beq pc 26) (true) (false)) (cond (Nat.beq pc 2) (true) (false))) (cond (Nat.beq pc 0) (true) (false)))
set_option maxRecDepth 20000 in
theorem sg_He_countAlike_221_0 (X : Nat × (Nat → Int32)) (d : Nat) (o2 o3 : Option pm_V) (al : List Nat) (D : Nat → Bool) (I : Nat → Nat → Int32) (L : Nat → Nat → Int64) : Rn X d co_He_countAlike (0, [some (vr 76), some (vr 221), o2, o3], [], pm_mm al (pm_tb 3 D) I L) = Rn X d co_He_countAlike (2, [some (vr 76), some (vr 221), some (vi 0), o3], [], pm_mm al (pm_tb 3 D) I L) :=
  (Sg_eq X d co_He_countAlike st_He_countAlike 3 _).trans rfl
set_option maxRecDepth 20000 in
theorem sg_He_countAlike_221_2 (X : Nat × (Nat → Int32)) (d : Nat) (x2 : Int32) (o3 : Option pm_V) (al : List Nat) (D : Nat → Bool) (I : Nat → Nat → Int32) (L : Nat → Nat → Int64) : Rn X d co_He_countAlike (2, [some (vr 76), some (vr 221), some (vi x2), o3], [], pm_mm al (pm_tb 3 D) I L) = cond (decide (96 ≤ x2)) (Rn X d co_He_countAlike (26, [some (vr 76), some (vr 221), some (vi 0), o3], [], pm_mm al (pm_tb 3 D) I L)) (cond (pm_in x2 96) (Rn X d co_He_countAlike (2, [some (vr 76), some (vr 221), some (vi (x2 + 1)), o3], [], pm_mm al (pm_tb 3 D) (pm_up I 77 x2.toNatClampNeg 0) L)) none) :=
  (Sg_eq X d co_He_countAlike st_He_countAlike 13 _).trans rfl
set_option maxRecDepth 20000 in
theorem sg_He_countAlike_221_26 (X : Nat × (Nat → Int32)) (d : Nat) (x2 : Int32) (o3 : Option pm_V) (al : List Nat) (D : Nat → Bool) (I : Nat → Nat → Int32) (L : Nat → Nat → Int64) : Rn X d co_He_countAlike (26, [some (vr 76), some (vr 221), some (vi x2), o3], [], pm_mm al (pm_tb 3 D) I L) = cond (decide (4096 ≤ x2)) (some (none, pm_mm al (pm_tb 3 D) I L)) (cond (pm_in x2 4096) (((Cl X d 21 [vr 76, vl (L 221 x2.toNatClampNeg)] (pm_mm al (pm_tb 3 D) I L)).bind pm_ai).bind (fun r => Rn X d co_He_countAlike (39, [some (vr 76), some (vr 221), some (vi x2), o3], [vi r.1], r.2))) none) :=
  (Sg_eq X d co_He_countAlike st_He_countAlike 9 _).trans rfl
set_option maxRecDepth 20000 in
theorem sg_He_countAlike_221_39 (X : Nat × (Nat → Int32)) (d : Nat) (x2 : Int32) (o3 : Option pm_V) (u0 : Int32) (al : List Nat) (D : Nat → Bool) (I : Nat → Nat → Int32) (L : Nat → Nat → Int64) : Rn X d co_He_countAlike (39, [some (vr 76), some (vr 221), some (vi x2), o3], [vi u0], pm_mm al (pm_tb 3 D) I L) = cond (decide (u0 = 0)) (Rn X d co_He_countAlike (77, [some (vr 76), some (vr 221), some (vi x2), o3], [], pm_mm al (pm_tb 3 D) I L)) (Rn X d co_He_countAlike (44, [some (vr 76), some (vr 221), some (vi x2), some (vi 0)], [], pm_mm al (pm_tb 3 D) I L)) :=
  (Sg_eq X d co_He_countAlike st_He_countAlike 4 _).trans rfl
set_option maxRecDepth 20000 in
theorem sg_He_countAlike_221_44 (X : Nat × (Nat → Int32)) (d : Nat) (x2 x3 : Int32) (al : List Nat) (D : Nat → Bool) (I : Nat → Nat → Int32) (L : Nat → Nat → Int64) : Rn X d co_He_countAlike (44, [some (vr 76), some (vr 221), some (vi x2), some (vi x3)], [], pm_mm al (pm_tb 3 D) I L) = cond (decide (12 ≤ x3)) (Rn X d co_He_countAlike (77, [some (vr 76), some (vr 221), some (vi x2), some (vi x3)], [], pm_mm al (pm_tb 3 D) I L)) (cond (pm_in x2 4096) (((Cl X d 103 [vl (L 221 x2.toNatClampNeg), vi x3] (pm_mm al (pm_tb 3 D) I L)).bind pm_ai).bind (fun r => Rn X d co_He_countAlike (65, [some (vr 76), some (vr 221), some (vi x2), some (vi x3)], [vi r.1, vi (x3 * 8), vr 77], r.2))) none) :=
  (Sg_eq X d co_He_countAlike st_He_countAlike 13 _).trans rfl
set_option maxRecDepth 20000 in
theorem sg_He_countAlike_221_65 (X : Nat × (Nat → Int32)) (d : Nat) (x2 x3 u1 u2 : Int32) (al : List Nat) (D : Nat → Bool) (I : Nat → Nat → Int32) (L : Nat → Nat → Int64) : Rn X d co_He_countAlike (65, [some (vr 76), some (vr 221), some (vi x2), some (vi x3)], [vi u2, vi u1, vr 77], pm_mm al (pm_tb 3 D) I L) = cond (pm_in (u1 + u2) 96) (cond (pm_in (u1 + u2) 96) (Rn X d co_He_countAlike (44, [some (vr 76), some (vr 221), some (vi x2), some (vi (x3 + 1))], [], pm_mm al (pm_tb 3 D) (pm_up I 77 ((u1 + u2).toNatClampNeg) ((I 77 ((u1 + u2).toNatClampNeg)) + 1)) L)) none) none :=
  (Sg_eq X d co_He_countAlike st_He_countAlike 9 _).trans rfl
set_option maxRecDepth 20000 in
theorem sg_He_countAlike_221_77 (X : Nat × (Nat → Int32)) (d : Nat) (x2 : Int32) (o3 : Option pm_V) (al : List Nat) (D : Nat → Bool) (I : Nat → Nat → Int32) (L : Nat → Nat → Int64) : Rn X d co_He_countAlike (77, [some (vr 76), some (vr 221), some (vi x2), o3], [], pm_mm al (pm_tb 3 D) I L) = Rn X d co_He_countAlike (26, [some (vr 76), some (vr 221), some (vi (x2 + 1)), o3], [], pm_mm al (pm_tb 3 D) I L) :=
  (Sg_eq X d co_He_countAlike st_He_countAlike 3 _).trans rfl
set_option maxRecDepth 20000 in
theorem sg_He_countAlike_224_0 (X : Nat × (Nat → Int32)) (d : Nat) (o2 o3 : Option pm_V) (al : List Nat) (D : Nat → Bool) (I : Nat → Nat → Int32) (L : Nat → Nat → Int64) : Rn X d co_He_countAlike (0, [some (vr 76), some (vr 224), o2, o3], [], pm_mm al (pm_tb 4 D) I L) = Rn X d co_He_countAlike (2, [some (vr 76), some (vr 224), some (vi 0), o3], [], pm_mm al (pm_tb 4 D) I L) :=
  (Sg_eq X d co_He_countAlike st_He_countAlike 3 _).trans rfl
set_option maxRecDepth 20000 in
theorem sg_He_countAlike_224_2 (X : Nat × (Nat → Int32)) (d : Nat) (x2 : Int32) (o3 : Option pm_V) (al : List Nat) (D : Nat → Bool) (I : Nat → Nat → Int32) (L : Nat → Nat → Int64) : Rn X d co_He_countAlike (2, [some (vr 76), some (vr 224), some (vi x2), o3], [], pm_mm al (pm_tb 4 D) I L) = cond (decide (96 ≤ x2)) (Rn X d co_He_countAlike (26, [some (vr 76), some (vr 224), some (vi 0), o3], [], pm_mm al (pm_tb 4 D) I L)) (cond (pm_in x2 96) (Rn X d co_He_countAlike (2, [some (vr 76), some (vr 224), some (vi (x2 + 1)), o3], [], pm_mm al (pm_tb 4 D) (pm_up I 77 x2.toNatClampNeg 0) L)) none) :=
  (Sg_eq X d co_He_countAlike st_He_countAlike 13 _).trans rfl
set_option maxRecDepth 20000 in
theorem sg_He_countAlike_224_26 (X : Nat × (Nat → Int32)) (d : Nat) (x2 : Int32) (o3 : Option pm_V) (al : List Nat) (D : Nat → Bool) (I : Nat → Nat → Int32) (L : Nat → Nat → Int64) : Rn X d co_He_countAlike (26, [some (vr 76), some (vr 224), some (vi x2), o3], [], pm_mm al (pm_tb 4 D) I L) = cond (decide (4096 ≤ x2)) (some (none, pm_mm al (pm_tb 4 D) I L)) (cond (pm_in x2 4096) (((Cl X d 21 [vr 76, vl (L 224 x2.toNatClampNeg)] (pm_mm al (pm_tb 4 D) I L)).bind pm_ai).bind (fun r => Rn X d co_He_countAlike (39, [some (vr 76), some (vr 224), some (vi x2), o3], [vi r.1], r.2))) none) :=
  (Sg_eq X d co_He_countAlike st_He_countAlike 9 _).trans rfl
set_option maxRecDepth 20000 in
theorem sg_He_countAlike_224_39 (X : Nat × (Nat → Int32)) (d : Nat) (x2 : Int32) (o3 : Option pm_V) (u0 : Int32) (al : List Nat) (D : Nat → Bool) (I : Nat → Nat → Int32) (L : Nat → Nat → Int64) : Rn X d co_He_countAlike (39, [some (vr 76), some (vr 224), some (vi x2), o3], [vi u0], pm_mm al (pm_tb 4 D) I L) = cond (decide (u0 = 0)) (Rn X d co_He_countAlike (77, [some (vr 76), some (vr 224), some (vi x2), o3], [], pm_mm al (pm_tb 4 D) I L)) (Rn X d co_He_countAlike (44, [some (vr 76), some (vr 224), some (vi x2), some (vi 0)], [], pm_mm al (pm_tb 4 D) I L)) :=
  (Sg_eq X d co_He_countAlike st_He_countAlike 4 _).trans rfl
set_option maxRecDepth 20000 in
theorem sg_He_countAlike_224_44 (X : Nat × (Nat → Int32)) (d : Nat) (x2 x3 : Int32) (al : List Nat) (D : Nat → Bool) (I : Nat → Nat → Int32) (L : Nat → Nat → Int64) : Rn X d co_He_countAlike (44, [some (vr 76), some (vr 224), some (vi x2), some (vi x3)], [], pm_mm al (pm_tb 4 D) I L) = cond (decide (12 ≤ x3)) (Rn X d co_He_countAlike (77, [some (vr 76), some (vr 224), some (vi x2), some (vi x3)], [], pm_mm al (pm_tb 4 D) I L)) (cond (pm_in x2 4096) (((Cl X d 103 [vl (L 224 x2.toNatClampNeg), vi x3] (pm_mm al (pm_tb 4 D) I L)).bind pm_ai).bind (fun r => Rn X d co_He_countAlike (65, [some (vr 76), some (vr 224), some (vi x2), some (vi x3)], [vi r.1, vi (x3 * 8), vr 77], r.2))) none) :=
  (Sg_eq X d co_He_countAlike st_He_countAlike 13 _).trans rfl
set_option maxRecDepth 20000 in
theorem sg_He_countAlike_224_65 (X : Nat × (Nat → Int32)) (d : Nat) (x2 x3 u1 u2 : Int32) (al : List Nat) (D : Nat → Bool) (I : Nat → Nat → Int32) (L : Nat → Nat → Int64) : Rn X d co_He_countAlike (65, [some (vr 76), some (vr 224), some (vi x2), some (vi x3)], [vi u2, vi u1, vr 77], pm_mm al (pm_tb 4 D) I L) = cond (pm_in (u1 + u2) 96) (cond (pm_in (u1 + u2) 96) (Rn X d co_He_countAlike (44, [some (vr 76), some (vr 224), some (vi x2), some (vi (x3 + 1))], [], pm_mm al (pm_tb 4 D) (pm_up I 77 ((u1 + u2).toNatClampNeg) ((I 77 ((u1 + u2).toNatClampNeg)) + 1)) L)) none) none :=
  (Sg_eq X d co_He_countAlike st_He_countAlike 9 _).trans rfl
set_option maxRecDepth 20000 in
theorem sg_He_countAlike_224_77 (X : Nat × (Nat → Int32)) (d : Nat) (x2 : Int32) (o3 : Option pm_V) (al : List Nat) (D : Nat → Bool) (I : Nat → Nat → Int32) (L : Nat → Nat → Int64) : Rn X d co_He_countAlike (77, [some (vr 76), some (vr 224), some (vi x2), o3], [], pm_mm al (pm_tb 4 D) I L) = Rn X d co_He_countAlike (26, [some (vr 76), some (vr 224), some (vi (x2 + 1)), o3], [], pm_mm al (pm_tb 4 D) I L) :=
  (Sg_eq X d co_He_countAlike st_He_countAlike 3 _).trans rfl
set_option maxRecDepth 20000 in
theorem sg_He_countAlike_227_0 (X : Nat × (Nat → Int32)) (d : Nat) (o2 o3 : Option pm_V) (al : List Nat) (D : Nat → Bool) (I : Nat → Nat → Int32) (L : Nat → Nat → Int64) : Rn X d co_He_countAlike (0, [some (vr 76), some (vr 227), o2, o3], [], pm_mm al (pm_tb 5 D) I L) = Rn X d co_He_countAlike (2, [some (vr 76), some (vr 227), some (vi 0), o3], [], pm_mm al (pm_tb 5 D) I L) :=
  (Sg_eq X d co_He_countAlike st_He_countAlike 3 _).trans rfl
set_option maxRecDepth 20000 in
theorem sg_He_countAlike_227_2 (X : Nat × (Nat → Int32)) (d : Nat) (x2 : Int32) (o3 : Option pm_V) (al : List Nat) (D : Nat → Bool) (I : Nat → Nat → Int32) (L : Nat → Nat → Int64) : Rn X d co_He_countAlike (2, [some (vr 76), some (vr 227), some (vi x2), o3], [], pm_mm al (pm_tb 5 D) I L) = cond (decide (96 ≤ x2)) (Rn X d co_He_countAlike (26, [some (vr 76), some (vr 227), some (vi 0), o3], [], pm_mm al (pm_tb 5 D) I L)) (cond (pm_in x2 96) (Rn X d co_He_countAlike (2, [some (vr 76), some (vr 227), some (vi (x2 + 1)), o3], [], pm_mm al (pm_tb 5 D) (pm_up I 77 x2.toNatClampNeg 0) L)) none) :=
  (Sg_eq X d co_He_countAlike st_He_countAlike 13 _).trans rfl
set_option maxRecDepth 20000 in
theorem sg_He_countAlike_227_26 (X : Nat × (Nat → Int32)) (d : Nat) (x2 : Int32) (o3 : Option pm_V) (al : List Nat) (D : Nat → Bool) (I : Nat → Nat → Int32) (L : Nat → Nat → Int64) : Rn X d co_He_countAlike (26, [some (vr 76), some (vr 227), some (vi x2), o3], [], pm_mm al (pm_tb 5 D) I L) = cond (decide (4096 ≤ x2)) (some (none, pm_mm al (pm_tb 5 D) I L)) (cond (pm_in x2 4096) (((Cl X d 21 [vr 76, vl (L 227 x2.toNatClampNeg)] (pm_mm al (pm_tb 5 D) I L)).bind pm_ai).bind (fun r => Rn X d co_He_countAlike (39, [some (vr 76), some (vr 227), some (vi x2), o3], [vi r.1], r.2))) none) :=
  (Sg_eq X d co_He_countAlike st_He_countAlike 9 _).trans rfl
set_option maxRecDepth 20000 in
theorem sg_He_countAlike_227_39 (X : Nat × (Nat → Int32)) (d : Nat) (x2 : Int32) (o3 : Option pm_V) (u0 : Int32) (al : List Nat) (D : Nat → Bool) (I : Nat → Nat → Int32) (L : Nat → Nat → Int64) : Rn X d co_He_countAlike (39, [some (vr 76), some (vr 227), some (vi x2), o3], [vi u0], pm_mm al (pm_tb 5 D) I L) = cond (decide (u0 = 0)) (Rn X d co_He_countAlike (77, [some (vr 76), some (vr 227), some (vi x2), o3], [], pm_mm al (pm_tb 5 D) I L)) (Rn X d co_He_countAlike (44, [some (vr 76), some (vr 227), some (vi x2), some (vi 0)], [], pm_mm al (pm_tb 5 D) I L)) :=
  (Sg_eq X d co_He_countAlike st_He_countAlike 4 _).trans rfl
set_option maxRecDepth 20000 in
theorem sg_He_countAlike_227_44 (X : Nat × (Nat → Int32)) (d : Nat) (x2 x3 : Int32) (al : List Nat) (D : Nat → Bool) (I : Nat → Nat → Int32) (L : Nat → Nat → Int64) : Rn X d co_He_countAlike (44, [some (vr 76), some (vr 227), some (vi x2), some (vi x3)], [], pm_mm al (pm_tb 5 D) I L) = cond (decide (12 ≤ x3)) (Rn X d co_He_countAlike (77, [some (vr 76), some (vr 227), some (vi x2), some (vi x3)], [], pm_mm al (pm_tb 5 D) I L)) (cond (pm_in x2 4096) (((Cl X d 103 [vl (L 227 x2.toNatClampNeg), vi x3] (pm_mm al (pm_tb 5 D) I L)).bind pm_ai).bind (fun r => Rn X d co_He_countAlike (65, [some (vr 76), some (vr 227), some (vi x2), some (vi x3)], [vi r.1, vi (x3 * 8), vr 77], r.2))) none) :=
  (Sg_eq X d co_He_countAlike st_He_countAlike 13 _).trans rfl
set_option maxRecDepth 20000 in
theorem sg_He_countAlike_227_65 (X : Nat × (Nat → Int32)) (d : Nat) (x2 x3 u1 u2 : Int32) (al : List Nat) (D : Nat → Bool) (I : Nat → Nat → Int32) (L : Nat → Nat → Int64) : Rn X d co_He_countAlike (65, [some (vr 76), some (vr 227), some (vi x2), some (vi x3)], [vi u2, vi u1, vr 77], pm_mm al (pm_tb 5 D) I L) = cond (pm_in (u1 + u2) 96) (cond (pm_in (u1 + u2) 96) (Rn X d co_He_countAlike (44, [some (vr 76), some (vr 227), some (vi x2), some (vi (x3 + 1))], [], pm_mm al (pm_tb 5 D) (pm_up I 77 ((u1 + u2).toNatClampNeg) ((I 77 ((u1 + u2).toNatClampNeg)) + 1)) L)) none) none :=
  (Sg_eq X d co_He_countAlike st_He_countAlike 9 _).trans rfl
set_option maxRecDepth 20000 in
theorem sg_He_countAlike_227_77 (X : Nat × (Nat → Int32)) (d : Nat) (x2 : Int32) (o3 : Option pm_V) (al : List Nat) (D : Nat → Bool) (I : Nat → Nat → Int32) (L : Nat → Nat → Int64) : Rn X d co_He_countAlike (77, [some (vr 76), some (vr 227), some (vi x2), o3], [], pm_mm al (pm_tb 5 D) I L) = Rn X d co_He_countAlike (26, [some (vr 76), some (vr 227), some (vi (x2 + 1)), o3], [], pm_mm al (pm_tb 5 D) I L) :=
  (Sg_eq X d co_He_countAlike st_He_countAlike 3 _).trans rfl
set_option maxRecDepth 20000 in
theorem sg_He_countAlike_230_0 (X : Nat × (Nat → Int32)) (d : Nat) (o2 o3 : Option pm_V) (al : List Nat) (D : Nat → Bool) (I : Nat → Nat → Int32) (L : Nat → Nat → Int64) : Rn X d co_He_countAlike (0, [some (vr 76), some (vr 230), o2, o3], [], pm_mm al (pm_tb 6 D) I L) = Rn X d co_He_countAlike (2, [some (vr 76), some (vr 230), some (vi 0), o3], [], pm_mm al (pm_tb 6 D) I L) :=
  (Sg_eq X d co_He_countAlike st_He_countAlike 3 _).trans rfl
set_option maxRecDepth 20000 in
theorem sg_He_countAlike_230_2 (X : Nat × (Nat → Int32)) (d : Nat) (x2 : Int32) (o3 : Option pm_V) (al : List Nat) (D : Nat → Bool) (I : Nat → Nat → Int32) (L : Nat → Nat → Int64) : Rn X d co_He_countAlike (2, [some (vr 76), some (vr 230), some (vi x2), o3], [], pm_mm al (pm_tb 6 D) I L) = cond (decide (96 ≤ x2)) (Rn X d co_He_countAlike (26, [some (vr 76), some (vr 230), some (vi 0), o3], [], pm_mm al (pm_tb 6 D) I L)) (cond (pm_in x2 96) (Rn X d co_He_countAlike (2, [some (vr 76), some (vr 230), some (vi (x2 + 1)), o3], [], pm_mm al (pm_tb 6 D) (pm_up I 77 x2.toNatClampNeg 0) L)) none) :=
  (Sg_eq X d co_He_countAlike st_He_countAlike 13 _).trans rfl
set_option maxRecDepth 20000 in
theorem sg_He_countAlike_230_26 (X : Nat × (Nat → Int32)) (d : Nat) (x2 : Int32) (o3 : Option pm_V) (al : List Nat) (D : Nat → Bool) (I : Nat → Nat → Int32) (L : Nat → Nat → Int64) : Rn X d co_He_countAlike (26, [some (vr 76), some (vr 230), some (vi x2), o3], [], pm_mm al (pm_tb 6 D) I L) = cond (decide (4096 ≤ x2)) (some (none, pm_mm al (pm_tb 6 D) I L)) (cond (pm_in x2 4096) (((Cl X d 21 [vr 76, vl (L 230 x2.toNatClampNeg)] (pm_mm al (pm_tb 6 D) I L)).bind pm_ai).bind (fun r => Rn X d co_He_countAlike (39, [some (vr 76), some (vr 230), some (vi x2), o3], [vi r.1], r.2))) none) :=
  (Sg_eq X d co_He_countAlike st_He_countAlike 9 _).trans rfl
set_option maxRecDepth 20000 in
theorem sg_He_countAlike_230_39 (X : Nat × (Nat → Int32)) (d : Nat) (x2 : Int32) (o3 : Option pm_V) (u0 : Int32) (al : List Nat) (D : Nat → Bool) (I : Nat → Nat → Int32) (L : Nat → Nat → Int64) : Rn X d co_He_countAlike (39, [some (vr 76), some (vr 230), some (vi x2), o3], [vi u0], pm_mm al (pm_tb 6 D) I L) = cond (decide (u0 = 0)) (Rn X d co_He_countAlike (77, [some (vr 76), some (vr 230), some (vi x2), o3], [], pm_mm al (pm_tb 6 D) I L)) (Rn X d co_He_countAlike (44, [some (vr 76), some (vr 230), some (vi x2), some (vi 0)], [], pm_mm al (pm_tb 6 D) I L)) :=
  (Sg_eq X d co_He_countAlike st_He_countAlike 4 _).trans rfl
set_option maxRecDepth 20000 in
theorem sg_He_countAlike_230_44 (X : Nat × (Nat → Int32)) (d : Nat) (x2 x3 : Int32) (al : List Nat) (D : Nat → Bool) (I : Nat → Nat → Int32) (L : Nat → Nat → Int64) : Rn X d co_He_countAlike (44, [some (vr 76), some (vr 230), some (vi x2), some (vi x3)], [], pm_mm al (pm_tb 6 D) I L) = cond (decide (12 ≤ x3)) (Rn X d co_He_countAlike (77, [some (vr 76), some (vr 230), some (vi x2), some (vi x3)], [], pm_mm al (pm_tb 6 D) I L)) (cond (pm_in x2 4096) (((Cl X d 103 [vl (L 230 x2.toNatClampNeg), vi x3] (pm_mm al (pm_tb 6 D) I L)).bind pm_ai).bind (fun r => Rn X d co_He_countAlike (65, [some (vr 76), some (vr 230), some (vi x2), some (vi x3)], [vi r.1, vi (x3 * 8), vr 77], r.2))) none) :=
  (Sg_eq X d co_He_countAlike st_He_countAlike 13 _).trans rfl
set_option maxRecDepth 20000 in
theorem sg_He_countAlike_230_65 (X : Nat × (Nat → Int32)) (d : Nat) (x2 x3 u1 u2 : Int32) (al : List Nat) (D : Nat → Bool) (I : Nat → Nat → Int32) (L : Nat → Nat → Int64) : Rn X d co_He_countAlike (65, [some (vr 76), some (vr 230), some (vi x2), some (vi x3)], [vi u2, vi u1, vr 77], pm_mm al (pm_tb 6 D) I L) = cond (pm_in (u1 + u2) 96) (cond (pm_in (u1 + u2) 96) (Rn X d co_He_countAlike (44, [some (vr 76), some (vr 230), some (vi x2), some (vi (x3 + 1))], [], pm_mm al (pm_tb 6 D) (pm_up I 77 ((u1 + u2).toNatClampNeg) ((I 77 ((u1 + u2).toNatClampNeg)) + 1)) L)) none) none :=
  (Sg_eq X d co_He_countAlike st_He_countAlike 9 _).trans rfl
set_option maxRecDepth 20000 in
theorem sg_He_countAlike_230_77 (X : Nat × (Nat → Int32)) (d : Nat) (x2 : Int32) (o3 : Option pm_V) (al : List Nat) (D : Nat → Bool) (I : Nat → Nat → Int32) (L : Nat → Nat → Int64) : Rn X d co_He_countAlike (77, [some (vr 76), some (vr 230), some (vi x2), o3], [], pm_mm al (pm_tb 6 D) I L) = Rn X d co_He_countAlike (26, [some (vr 76), some (vr 230), some (vi (x2 + 1)), o3], [], pm_mm al (pm_tb 6 D) I L) :=
  (Sg_eq X d co_He_countAlike st_He_countAlike 3 _).trans rfl
def st_He_mostAlike (pc : Nat) : Bool := cond (Nat.ble 4 pc) (cond (Nat.ble 25 pc) (cond (Nat.beq pc 25) (true) (false)) (cond (Nat.beq pc 4) (true) (false))) (cond (Nat.beq pc 0) (true) (false))
set_option maxRecDepth 20000 in
theorem sg_He_mostAlike_0 (X : Nat × (Nat → Int32)) (d : Nat) (x1 : Int32) (o2 o3 : Option pm_V) (al : List Nat) (D : Nat → Bool) (I : Nat → Nat → Int32) (L : Nat → Nat → Int64) : Rn X d co_He_mostAlike (0, [some (vr 76), some (vi x1), o2, o3], [], pm_mm al D I L) = Rn X d co_He_mostAlike (4, [some (vr 76), some (vi x1), some (vi 0), some (vi 0)], [], pm_mm al D I L) :=
  (Sg_eq X d co_He_mostAlike st_He_mostAlike 5 _).trans rfl
set_option maxRecDepth 20000 in
theorem sg_He_mostAlike_4 (X : Nat × (Nat → Int32)) (d : Nat) (x1 x2 x3 : Int32) (al : List Nat) (D : Nat → Bool) (I : Nat → Nat → Int32) (L : Nat → Nat → Int64) : Rn X d co_He_mostAlike (4, [some (vr 76), some (vi x1), some (vi x2), some (vi x3)], [], pm_mm al D I L) = cond (decide (8 ≤ x3)) (some (some (vi x2), pm_mm al D I L)) (cond (pm_in ((x1 * 8) + x3) 96) (((Cl X d 4 [vi x2, vi (I 77 (((x1 * 8) + x3).toNatClampNeg))] (pm_mm al D I L)).bind pm_ai).bind (fun r => Rn X d co_He_mostAlike (25, [some (vr 76), some (vi x1), some (vi x2), some (vi x3)], [vi r.1], r.2))) none) :=
  (Sg_eq X d co_He_mostAlike st_He_mostAlike 13 _).trans rfl
set_option maxRecDepth 20000 in
theorem sg_He_mostAlike_25 (X : Nat × (Nat → Int32)) (d : Nat) (x1 : Int32) (o2 : Option pm_V) (x3 u0 : Int32) (al : List Nat) (D : Nat → Bool) (I : Nat → Nat → Int32) (L : Nat → Nat → Int64) : Rn X d co_He_mostAlike (25, [some (vr 76), some (vi x1), o2, some (vi x3)], [vi u0], pm_mm al D I L) = Rn X d co_He_mostAlike (4, [some (vr 76), some (vi x1), some (vi u0), some (vi (x3 + 1))], [], pm_mm al D I L) :=
  (Sg_eq X d co_He_mostAlike st_He_mostAlike 4 _).trans rfl
def st_Pl_init (pc : Nat) : Bool := cond (Nat.beq pc 0) (true) (false)
def st_Pl_takeBand (pc : Nat) : Bool := cond (Nat.ble 62 pc) (cond (Nat.beq pc 62) (true) (false)) (cond (Nat.beq pc 0) (true) (false))
set_option maxRecDepth 20000 in
theorem sg_Pl_takeBand_9_0 (X : Nat × (Nat → Int32)) (d : Nat) (al : List Nat) (D : Nat → Bool) (I : Nat → Nat → Int32) (L : Nat → Nat → Int64) : Rn X d co_Pl_takeBand (0, [some (vr 49), some (vr 9)], [], pm_mm al D I L) = ((Cl X d 161 [vr 51] (pm_mm al D (pm_ups (pm_up (pm_up (pm_up (pm_up (pm_up I 49 0 (I 9 0)) 49 4 (I 9 1)) 49 1 (I 9 2)) 49 2 (I 9 3)) 49 3 (I 9 4)) 50 (va_cpy (I 10) (I 50) 0 0 6)) L)).bind pm_av).bind (fun r => Rn X d co_Pl_takeBand (62, [some (vr 49), some (vr 9)], [], r)) :=
  (Sg_eq X d co_Pl_takeBand st_Pl_takeBand 31 _).trans rfl
set_option maxRecDepth 20000 in
theorem sg_Pl_takeBand_9_62 (X : Nat × (Nat → Int32)) (d : Nat) (o0 o1 : Option pm_V) (al : List Nat) (D : Nat → Bool) (I : Nat → Nat → Int32) (L : Nat → Nat → Int64) : Rn X d co_Pl_takeBand (62, [o0, o1], [], pm_mm al D I L) = some (none, pm_mm al D I L) :=
  (Sg_eq X d co_Pl_takeBand st_Pl_takeBand 1 _).trans rfl
set_option maxRecDepth 20000 in
theorem sg_Pl_takeBand_14_0 (X : Nat × (Nat → Int32)) (d : Nat) (al : List Nat) (D : Nat → Bool) (I : Nat → Nat → Int32) (L : Nat → Nat → Int64) : Rn X d co_Pl_takeBand (0, [some (vr 49), some (vr 14)], [], pm_mm al D I L) = ((Cl X d 161 [vr 51] (pm_mm al D (pm_ups (pm_up (pm_up (pm_up (pm_up (pm_up I 49 0 (I 14 0)) 49 4 (I 14 1)) 49 1 (I 14 2)) 49 2 (I 14 3)) 49 3 (I 14 4)) 50 (va_cpy (I 15) (I 50) 0 0 6)) L)).bind pm_av).bind (fun r => Rn X d co_Pl_takeBand (62, [some (vr 49), some (vr 14)], [], r)) :=
  (Sg_eq X d co_Pl_takeBand st_Pl_takeBand 31 _).trans rfl
set_option maxRecDepth 20000 in
theorem sg_Pl_takeBand_14_62 (X : Nat × (Nat → Int32)) (d : Nat) (o0 o1 : Option pm_V) (al : List Nat) (D : Nat → Bool) (I : Nat → Nat → Int32) (L : Nat → Nat → Int64) : Rn X d co_Pl_takeBand (62, [o0, o1], [], pm_mm al D I L) = some (none, pm_mm al D I L) :=
  (Sg_eq X d co_Pl_takeBand st_Pl_takeBand 1 _).trans rfl
def st_Pl_takeScore (pc : Nat) : Bool := cond (Nat.ble 2 pc) (cond (Nat.ble 18 pc) (cond (Nat.beq pc 18) (true) (false)) (cond (Nat.beq pc 2) (true) (false))) (cond (Nat.beq pc 0) (true) (false))
set_option maxRecDepth 20000 in
theorem sg_Pl_takeScore_19_0 (X : Nat × (Nat → Int32)) (d : Nat) (o2 : Option pm_V) (al : List Nat) (D : Nat → Bool) (I : Nat → Nat → Int32) (L : Nat → Nat → Int64) : Rn X d co_Pl_takeScore (0, [some (vr 49), some (vr 19), o2], [], pm_mm al D I L) = Rn X d co_Pl_takeScore (2, [some (vr 49), some (vr 19), some (vi 0)], [], pm_mm al D I L) :=
  (Sg_eq X d co_Pl_takeScore st_Pl_takeScore 3 _).trans rfl
set_option maxRecDepth 20000 in
theorem sg_Pl_takeScore_19_2 (X : Nat × (Nat → Int32)) (d : Nat) (x2 : Int32) (al : List Nat) (D : Nat → Bool) (I : Nat → Nat → Int32) (L : Nat → Nat → Int64) : Rn X d co_Pl_takeScore (2, [some (vr 49), some (vr 19), some (vi x2)], [], pm_mm al D I L) = cond (decide (12 ≤ x2)) (some (none, pm_mm al D I L)) (((Cl X d 81 [vr 19, vi x2] (pm_mm al D I L)).bind pm_ai).bind (fun r => Rn X d co_Pl_takeScore (18, [some (vr 49), some (vr 19), some (vi x2)], [vi r.1, vi x2, vr 52], r.2))) :=
  (Sg_eq X d co_Pl_takeScore st_Pl_takeScore 9 _).trans rfl
set_option maxRecDepth 20000 in
theorem sg_Pl_takeScore_19_18 (X : Nat × (Nat → Int32)) (d : Nat) (x2 u1 u2 : Int32) (al : List Nat) (D : Nat → Bool) (I : Nat → Nat → Int32) (L : Nat → Nat → Int64) : Rn X d co_Pl_takeScore (18, [some (vr 49), some (vr 19), some (vi x2)], [vi u2, vi u1, vr 52], pm_mm al D I L) = cond (pm_in u1 12) (Rn X d co_Pl_takeScore (2, [some (vr 49), some (vr 19), some (vi (x2 + 1))], [], pm_mm al D (pm_up I 52 u1.toNatClampNeg (u2 &&& ((1 <<< ((I 49 3) &&& 31)) - 1))) L)) none :=
  (Sg_eq X d co_Pl_takeScore st_Pl_takeScore 11 _).trans rfl
set_option maxRecDepth 20000 in
theorem sg_Pl_takeScore_23_0 (X : Nat × (Nat → Int32)) (d : Nat) (o2 : Option pm_V) (al : List Nat) (D : Nat → Bool) (I : Nat → Nat → Int32) (L : Nat → Nat → Int64) : Rn X d co_Pl_takeScore (0, [some (vr 49), some (vr 23), o2], [], pm_mm al D I L) = Rn X d co_Pl_takeScore (2, [some (vr 49), some (vr 23), some (vi 0)], [], pm_mm al D I L) :=
  (Sg_eq X d co_Pl_takeScore st_Pl_takeScore 3 _).trans rfl
set_option maxRecDepth 20000 in
theorem sg_Pl_takeScore_23_2 (X : Nat × (Nat → Int32)) (d : Nat) (x2 : Int32) (al : List Nat) (D : Nat → Bool) (I : Nat → Nat → Int32) (L : Nat → Nat → Int64) : Rn X d co_Pl_takeScore (2, [some (vr 49), some (vr 23), some (vi x2)], [], pm_mm al D I L) = cond (decide (12 ≤ x2)) (some (none, pm_mm al D I L)) (((Cl X d 81 [vr 23, vi x2] (pm_mm al D I L)).bind pm_ai).bind (fun r => Rn X d co_Pl_takeScore (18, [some (vr 49), some (vr 23), some (vi x2)], [vi r.1, vi x2, vr 52], r.2))) :=
  (Sg_eq X d co_Pl_takeScore st_Pl_takeScore 9 _).trans rfl
set_option maxRecDepth 20000 in
theorem sg_Pl_takeScore_23_18 (X : Nat × (Nat → Int32)) (d : Nat) (x2 u1 u2 : Int32) (al : List Nat) (D : Nat → Bool) (I : Nat → Nat → Int32) (L : Nat → Nat → Int64) : Rn X d co_Pl_takeScore (18, [some (vr 49), some (vr 23), some (vi x2)], [vi u2, vi u1, vr 52], pm_mm al D I L) = cond (pm_in u1 12) (Rn X d co_Pl_takeScore (2, [some (vr 49), some (vr 23), some (vi (x2 + 1))], [], pm_mm al D (pm_up I 52 u1.toNatClampNeg (u2 &&& ((1 <<< ((I 49 3) &&& 31)) - 1))) L)) none :=
  (Sg_eq X d co_Pl_takeScore st_Pl_takeScore 11 _).trans rfl
def st_Pl_takeNotesLeft (pc : Nat) : Bool := cond (Nat.ble 6 pc) (cond (Nat.ble 29 pc) (cond (Nat.beq pc 29) (true) (false)) (cond (Nat.beq pc 6) (true) (false))) (cond (Nat.ble 4 pc) (cond (Nat.beq pc 4) (true) (false)) (cond (Nat.beq pc 0) (true) (false)))
set_option maxRecDepth 20000 in
theorem sg_Pl_takeNotesLeft_19_0 (X : Nat × (Nat → Int32)) (d : Nat) (x2 : Int32) (o3 : Option pm_V) (al : List Nat) (D : Nat → Bool) (I : Nat → Nat → Int32) (L : Nat → Nat → Int64) : Rn X d co_Pl_takeNotesLeft (0, [some (vr 49), some (vr 19), some (vi x2), o3], [], pm_mm al D I L) = ((Cl X d 42 [vr 49] (pm_mm al D I L)).bind pm_av).bind (fun r => Rn X d co_Pl_takeNotesLeft (4, [some (vr 49), some (vr 19), some (vi x2), o3], [], r)) :=
  (Sg_eq X d co_Pl_takeNotesLeft st_Pl_takeNotesLeft 2 _).trans rfl
set_option maxRecDepth 20000 in
theorem sg_Pl_takeNotesLeft_19_4 (X : Nat × (Nat → Int32)) (d : Nat) (x2 : Int32) (o3 : Option pm_V) (al : List Nat) (D : Nat → Bool) (I : Nat → Nat → Int32) (L : Nat → Nat → Int64) : Rn X d co_Pl_takeNotesLeft (4, [some (vr 49), some (vr 19), some (vi x2), o3], [], pm_mm al D I L) = Rn X d co_Pl_takeNotesLeft (6, [some (vr 49), some (vr 19), some (vi x2), some (vi 0)], [], pm_mm al D I L) :=
  (Sg_eq X d co_Pl_takeNotesLeft st_Pl_takeNotesLeft 3 _).trans rfl
set_option maxRecDepth 20000 in
theorem sg_Pl_takeNotesLeft_19_6 (X : Nat × (Nat → Int32)) (d : Nat) (x2 x3 : Int32) (al : List Nat) (D : Nat → Bool) (I : Nat → Nat → Int32) (L : Nat → Nat → Int64) : Rn X d co_Pl_takeNotesLeft (6, [some (vr 49), some (vr 19), some (vi x2), some (vi x3)], [], pm_mm al D I L) = cond (decide ((I 19 0) ≤ x3)) (some (none, pm_mm al D I L)) (cond (decide (((x2 >>> (x3 &&& 31)) &&& 1) = 0)) (((Cl X d 43 [vr 49, vr 19, vi x3, vi 0] (pm_mm al D I L)).bind pm_av).bind (fun r => Rn X d co_Pl_takeNotesLeft (29, [some (vr 49), some (vr 19), some (vi x2), some (vi x3)], [], r))) (Rn X d co_Pl_takeNotesLeft (29, [some (vr 49), some (vr 19), some (vi x2), some (vi x3)], [], pm_mm al D I L))) :=
  (Sg_eq X d co_Pl_takeNotesLeft st_Pl_takeNotesLeft 15 _).trans rfl
set_option maxRecDepth 20000 in
theorem sg_Pl_takeNotesLeft_19_29 (X : Nat × (Nat → Int32)) (d : Nat) (x2 x3 : Int32) (al : List Nat) (D : Nat → Bool) (I : Nat → Nat → Int32) (L : Nat → Nat → Int64) : Rn X d co_Pl_takeNotesLeft (29, [some (vr 49), some (vr 19), some (vi x2), some (vi x3)], [], pm_mm al D I L) = Rn X d co_Pl_takeNotesLeft (6, [some (vr 49), some (vr 19), some (vi x2), some (vi (x3 + 1))], [], pm_mm al D I L) :=
  (Sg_eq X d co_Pl_takeNotesLeft st_Pl_takeNotesLeft 3 _).trans rfl
set_option maxRecDepth 20000 in
theorem sg_Pl_takeNotesLeft_23_0 (X : Nat × (Nat → Int32)) (d : Nat) (x2 : Int32) (o3 : Option pm_V) (al : List Nat) (D : Nat → Bool) (I : Nat → Nat → Int32) (L : Nat → Nat → Int64) : Rn X d co_Pl_takeNotesLeft (0, [some (vr 49), some (vr 23), some (vi x2), o3], [], pm_mm al D I L) = ((Cl X d 42 [vr 49] (pm_mm al D I L)).bind pm_av).bind (fun r => Rn X d co_Pl_takeNotesLeft (4, [some (vr 49), some (vr 23), some (vi x2), o3], [], r)) :=
  (Sg_eq X d co_Pl_takeNotesLeft st_Pl_takeNotesLeft 2 _).trans rfl
set_option maxRecDepth 20000 in
theorem sg_Pl_takeNotesLeft_23_4 (X : Nat × (Nat → Int32)) (d : Nat) (x2 : Int32) (o3 : Option pm_V) (al : List Nat) (D : Nat → Bool) (I : Nat → Nat → Int32) (L : Nat → Nat → Int64) : Rn X d co_Pl_takeNotesLeft (4, [some (vr 49), some (vr 23), some (vi x2), o3], [], pm_mm al D I L) = Rn X d co_Pl_takeNotesLeft (6, [some (vr 49), some (vr 23), some (vi x2), some (vi 0)], [], pm_mm al D I L) :=
  (Sg_eq X d co_Pl_takeNotesLeft st_Pl_takeNotesLeft 3 _).trans rfl
set_option maxRecDepth 20000 in
theorem sg_Pl_takeNotesLeft_23_6 (X : Nat × (Nat → Int32)) (d : Nat) (x2 x3 : Int32) (al : List Nat) (D : Nat → Bool) (I : Nat → Nat → Int32) (L : Nat → Nat → Int64) : Rn X d co_Pl_takeNotesLeft (6, [some (vr 49), some (vr 23), some (vi x2), some (vi x3)], [], pm_mm al D I L) = cond (decide ((I 23 0) ≤ x3)) (some (none, pm_mm al D I L)) (cond (decide (((x2 >>> (x3 &&& 31)) &&& 1) = 0)) (((Cl X d 43 [vr 49, vr 23, vi x3, vi 0] (pm_mm al D I L)).bind pm_av).bind (fun r => Rn X d co_Pl_takeNotesLeft (29, [some (vr 49), some (vr 23), some (vi x2), some (vi x3)], [], r))) (Rn X d co_Pl_takeNotesLeft (29, [some (vr 49), some (vr 23), some (vi x2), some (vi x3)], [], pm_mm al D I L))) :=
  (Sg_eq X d co_Pl_takeNotesLeft st_Pl_takeNotesLeft 15 _).trans rfl
set_option maxRecDepth 20000 in
theorem sg_Pl_takeNotesLeft_23_29 (X : Nat × (Nat → Int32)) (d : Nat) (x2 x3 : Int32) (al : List Nat) (D : Nat → Bool) (I : Nat → Nat → Int32) (L : Nat → Nat → Int64) : Rn X d co_Pl_takeNotesLeft (29, [some (vr 49), some (vr 23), some (vi x2), some (vi x3)], [], pm_mm al D I L) = Rn X d co_Pl_takeNotesLeft (6, [some (vr 49), some (vr 23), some (vi x2), some (vi (x3 + 1))], [], pm_mm al D I L) :=
  (Sg_eq X d co_Pl_takeNotesLeft st_Pl_takeNotesLeft 3 _).trans rfl
def st_Pl_clearNotes (pc : Nat) : Bool := cond (Nat.ble 2 pc) (cond (Nat.beq pc 2) (true) (false)) (cond (Nat.beq pc 0) (true) (false))
set_option maxRecDepth 20000 in
theorem sg_Pl_clearNotes_0 (X : Nat × (Nat → Int32)) (d : Nat) (o1 : Option pm_V) (al : List Nat) (D : Nat → Bool) (I : Nat → Nat → Int32) (L : Nat → Nat → Int64) : Rn X d co_Pl_clearNotes (0, [some (vr 49), o1], [], pm_mm al D I L) = Rn X d co_Pl_clearNotes (2, [some (vr 49), some (vi 0)], [], pm_mm al D I L) :=
  (Sg_eq X d co_Pl_clearNotes st_Pl_clearNotes 3 _).trans rfl
set_option maxRecDepth 20000 in
theorem sg_Pl_clearNotes_2 (X : Nat × (Nat → Int32)) (d : Nat) (x1 : Int32) (al : List Nat) (D : Nat → Bool) (I : Nat → Nat → Int32) (L : Nat → Nat → Int64) : Rn X d co_Pl_clearNotes (2, [some (vr 49), some (vi x1)], [], pm_mm al D I L) = cond (decide (12 ≤ x1)) (some (none, pm_mm al D I L)) (cond (pm_in x1 12) (Rn X d co_Pl_clearNotes (2, [some (vr 49), some (vi (x1 + 1))], [], pm_mm al D (pm_up I 52 x1.toNatClampNeg 0) L)) none) :=
  (Sg_eq X d co_Pl_clearNotes st_Pl_clearNotes 11 _).trans rfl
def st_Pl_addNote (pc : Nat) : Bool := cond (Nat.ble 38 pc) (cond (Nat.ble 44 pc) (cond (Nat.beq pc 44) (true) (false)) (cond (Nat.beq pc 38) (true) (false))) (cond (Nat.beq pc 0) (true) (false))
set_option maxRecDepth 20000 in
theorem sg_Pl_addNote_19_0 (X : Nat × (Nat → Int32)) (d : Nat) (x2 x3 : Int32) (o4 o5 o6 : Option pm_V) (al : List Nat) (D : Nat → Bool) (I : Nat → Nat → Int32) (L : Nat → Nat → Int64) : Rn X d co_Pl_addNote (0, [some (vr 49), some (vr 19), some (vi x2), some (vi x3), o4, o5, o6], [], pm_mm al D I L) = cond (pm_in x2 8) (cond (decide ((I 20 x2.toNatClampNeg) < (I 49 3))) (cond (pm_in x2 8) (cond (pm_in x2 8) (((Cl X d 5 [vi 12, vi (((I 21 x2.toNatClampNeg) + x3) + (I 22 x2.toNatClampNeg))] (pm_mm al D I L)).bind pm_ai).bind (fun r => Rn X d co_Pl_addNote (38, [some (vr 49), some (vr 19), some (vi x2), some (vi x3), some (vi ((I 21 x2.toNatClampNeg) + x3)), o5, o6], [vi r.1], r.2))) none) none) (some (none, pm_mm al D I L))) none :=
  (Sg_eq X d co_Pl_addNote st_Pl_addNote 22 _).trans rfl
set_option maxRecDepth 20000 in
theorem sg_Pl_addNote_19_38 (X : Nat × (Nat → Int32)) (d : Nat) (x2 : Int32) (o3 : Option pm_V) (x4 : Int32) (o5 o6 : Option pm_V) (u0 : Int32) (al : List Nat) (D : Nat → Bool) (I : Nat → Nat → Int32) (L : Nat → Nat → Int64) : Rn X d co_Pl_addNote (38, [some (vr 49), some (vr 19), some (vi x2), o3, some (vi x4), o5, o6], [vi u0], pm_mm al D I L) = Rn X d co_Pl_addNote (44, [some (vr 49), some (vr 19), some (vi x2), o3, some (vi x4), some (vi u0), some (vi x4)], [], pm_mm al D I L) :=
  (Sg_eq X d co_Pl_addNote st_Pl_addNote 4 _).trans rfl
set_option maxRecDepth 20000 in
theorem sg_Pl_addNote_19_44 (X : Nat × (Nat → Int32)) (d : Nat) (x2 : Int32) (o3 o4 : Option pm_V) (x5 x6 : Int32) (al : List Nat) (D : Nat → Bool) (I : Nat → Nat → Int32) (L : Nat → Nat → Int64) : Rn X d co_Pl_addNote (44, [some (vr 49), some (vr 19), some (vi x2), o3, o4, some (vi x5), some (vi x6)], [], pm_mm al D I L) = cond (decide (x5 ≤ x6)) (some (none, pm_mm al D I L)) (cond (pm_in x6 12) (cond (pm_in x2 8) (cond (pm_in x6 12) (Rn X d co_Pl_addNote (44, [some (vr 49), some (vr 19), some (vi x2), o3, o4, some (vi x5), some (vi (x6 + 1))], [], pm_mm al D (pm_up I 52 x6.toNatClampNeg ((I 52 x6.toNatClampNeg) ||| (1 <<< ((I 20 x2.toNatClampNeg) &&& 31)))) L)) none) none) none) :=
  (Sg_eq X d co_Pl_addNote st_Pl_addNote 19 _).trans rfl
set_option maxRecDepth 20000 in
theorem sg_Pl_addNote_23_0 (X : Nat × (Nat → Int32)) (d : Nat) (x2 x3 : Int32) (o4 o5 o6 : Option pm_V) (al : List Nat) (D : Nat → Bool) (I : Nat → Nat → Int32) (L : Nat → Nat → Int64) : Rn X d co_Pl_addNote (0, [some (vr 49), some (vr 23), some (vi x2), some (vi x3), o4, o5, o6], [], pm_mm al D I L) = cond (pm_in x2 8) (cond (decide ((I 24 x2.toNatClampNeg) < (I 49 3))) (cond (pm_in x2 8) (cond (pm_in x2 8) (((Cl X d 5 [vi 12, vi (((I 25 x2.toNatClampNeg) + x3) + (I 26 x2.toNatClampNeg))] (pm_mm al D I L)).bind pm_ai).bind (fun r => Rn X d co_Pl_addNote (38, [some (vr 49), some (vr 23), some (vi x2), some (vi x3), some (vi ((I 25 x2.toNatClampNeg) + x3)), o5, o6], [vi r.1], r.2))) none) none) (some (none, pm_mm al D I L))) none :=
  (Sg_eq X d co_Pl_addNote st_Pl_addNote 22 _).trans rfl
set_option maxRecDepth 20000 in
theorem sg_Pl_addNote_23_38 (X : Nat × (Nat → Int32)) (d : Nat) (x2 : Int32) (o3 : Option pm_V) (x4 : Int32) (o5 o6 : Option pm_V) (u0 : Int32) (al : List Nat) (D : Nat → Bool) (I : Nat → Nat → Int32) (L : Nat → Nat → Int64) : Rn X d co_Pl_addNote (38, [some (vr 49), some (vr 23), some (vi x2), o3, some (vi x4), o5, o6], [vi u0], pm_mm al D I L) = Rn X d co_Pl_addNote (44, [some (vr 49), some (vr 23), some (vi x2), o3, some (vi x4), some (vi u0), some (vi x4)], [], pm_mm al D I L) :=
  (Sg_eq X d co_Pl_addNote st_Pl_addNote 4 _).trans rfl
set_option maxRecDepth 20000 in
theorem sg_Pl_addNote_23_44 (X : Nat × (Nat → Int32)) (d : Nat) (x2 : Int32) (o3 o4 : Option pm_V) (x5 x6 : Int32) (al : List Nat) (D : Nat → Bool) (I : Nat → Nat → Int32) (L : Nat → Nat → Int64) : Rn X d co_Pl_addNote (44, [some (vr 49), some (vr 23), some (vi x2), o3, o4, some (vi x5), some (vi x6)], [], pm_mm al D I L) = cond (decide (x5 ≤ x6)) (some (none, pm_mm al D I L)) (cond (pm_in x6 12) (cond (pm_in x2 8) (cond (pm_in x6 12) (Rn X d co_Pl_addNote (44, [some (vr 49), some (vr 23), some (vi x2), o3, o4, some (vi x5), some (vi (x6 + 1))], [], pm_mm al D (pm_up I 52 x6.toNatClampNeg ((I 52 x6.toNatClampNeg) ||| (1 <<< ((I 24 x2.toNatClampNeg) &&& 31)))) L)) none) none) none) :=
  (Sg_eq X d co_Pl_addNote st_Pl_addNote 19 _).trans rfl
def st_Pl_follow (pc : Nat) : Bool := cond (Nat.ble 3 pc) (cond (Nat.beq pc 3) (true) (false)) (cond (Nat.beq pc 0) (true) (false))
set_option maxRecDepth 20000 in
theorem sg_Pl_follow_0 (X : Nat × (Nat → Int32)) (d : Nat) (x1 : Int32) (o2 : Option pm_V) (al : List Nat) (D : Nat → Bool) (I : Nat → Nat → Int32) (L : Nat → Nat → Int64) : Rn X d co_Pl_follow (0, [some (vr 49), some (vi x1), o2], [], pm_mm al D I L) = Rn X d co_Pl_follow (3, [some (vr 49), some (vi x1), some (vi 11)], [], pm_mm al D I L) :=
  (Sg_eq X d co_Pl_follow st_Pl_follow 3 _).trans rfl
set_option maxRecDepth 20000 in
theorem sg_Pl_follow_3 (X : Nat × (Nat → Int32)) (d : Nat) (x1 x2 : Int32) (al : List Nat) (D : Nat → Bool) (I : Nat → Nat → Int32) (L : Nat → Nat → Int64) : Rn X d co_Pl_follow (3, [some (vr 49), some (vi x1), some (vi x2)], [], pm_mm al D I L) = cond (decide (x2 < x1)) (some (none, pm_mm al D I L)) (cond (pm_in x2 12) (cond (pm_in (x2 - x1) 12) (cond (pm_in x2 12) (Rn X d co_Pl_follow (3, [some (vr 49), some (vi x1), some (vi (x2 + (-1)))], [], pm_mm al D (pm_up I 52 x2.toNatClampNeg ((I 52 x2.toNatClampNeg) ||| (I 52 ((x2 - x1).toNatClampNeg)))) L)) none) none) none) :=
  (Sg_eq X d co_Pl_follow st_Pl_follow 19 _).trans rfl
def st_Pl_begin (pc : Nat) : Bool := cond (Nat.beq pc 0) (true) (false)
set_option maxRecDepth 20000 in
theorem sg_Pl_begin_0 (X : Nat × (Nat → Int32)) (d : Nat) (al : List Nat) (D : Nat → Bool) (I : Nat → Nat → Int32) (L : Nat → Nat → Int64) : Rn X d co_Pl_begin (0, [some (vr 49)], [], pm_mm al D I L) = some (none, pm_mm al D (pm_up (pm_up (pm_up (pm_up (pm_up I 53 0 (I 49 0)) 54 0 (I 49 2)) 55 0 0) 58 0 0) 49 15 0) L) :=
  (Sg_eq X d co_Pl_begin st_Pl_begin 26 _).trans rfl
def st_Pl_step (pc : Nat) : Bool := cond (Nat.ble 75 pc) (cond (Nat.ble 91 pc) (cond (Nat.ble 115 pc) (cond (Nat.beq pc 115) (true) (false)) (cond (Nat.beq pc 91) (true) (false))) (cond (Nat.ble 76 pc) (cond (Nat.beq pc 76) (true) (false)) (cond (Nat.beq pc 75) (true) (false)))) (cond (Nat.ble 49 pc) (cond (Nat.ble 53 pc) (cond (Nat.beq pc 53) (true) (false)) (cond (Nat.beq pc 49) (true) (false))) (cond (Nat.beq pc 0) (true) (false)))
set_option maxRecDepth 20000 in
theorem sg_Pl_step_0 (X : Nat × (Nat → Int32)) (d : Nat) (x1 x2 : Int32) (o3 : Option pm_V) (al : List Nat) (D : Nat → Bool) (I : Nat → Nat → Int32) (L : Nat → Nat → Int64) : Rn X d co_Pl_step (0, [some (vr 49), some (vi x1), some (vi x2), o3], [], pm_mm al D I L) = cond (pm_in x1 13) (cond (decide (x2 = 0)) (Rn X d co_Pl_step (53, [some (vr 49), some (vi x1), some (vi x2), some (vi (I 53 x1.toNatClampNeg))], [], pm_mm al D I L)) (cond (pm_in x1 13) (cond (decide ((I 54 x1.toNatClampNeg) ≤ 0)) (Rn X d co_Pl_step (53, [some (vr 49), some (vi x1), some (vi x2), some (vi (I 53 x1.toNatClampNeg))], [], pm_mm al D I L)) (cond (pm_in x1 13) (cond (pm_in (x1 + 1) 13) (((Cl X d 5 [vi (I 49 0), vi ((I 53 x1.toNatClampNeg) + (I 49 1))] (pm_mm al D (pm_up I 54 ((x1 + 1).toNatClampNeg) ((I 54 x1.toNatClampNeg) - 1)) L)).bind pm_ai).bind (fun r => Rn X d co_Pl_step (49, [some (vr 49), some (vi x1), some (vi x2), some (vi (I 53 x1.toNatClampNeg))], [vi r.1], r.2))) none) none)) none)) none :=
  (Sg_eq X d co_Pl_step st_Pl_step 31 _).trans rfl
set_option maxRecDepth 20000 in
theorem sg_Pl_step_49 (X : Nat × (Nat → Int32)) (d : Nat) (x1 : Int32) (o2 o3 : Option pm_V) (u0 : Int32) (al : List Nat) (D : Nat → Bool) (I : Nat → Nat → Int32) (L : Nat → Nat → Int64) : Rn X d co_Pl_step (49, [some (vr 49), some (vi x1), o2, o3], [vi u0], pm_mm al D I L) = Rn X d co_Pl_step (76, [some (vr 49), some (vi x1), (pm_nl o2), some (vi u0)], [], pm_mm al D I L) :=
  (Sg_eq X d co_Pl_step st_Pl_step 3 _).trans rfl
set_option maxRecDepth 20000 in
theorem sg_Pl_step_53 (X : Nat × (Nat → Int32)) (d : Nat) (x1 : Int32) (o2 : Option pm_V) (x3 : Int32) (al : List Nat) (D : Nat → Bool) (I : Nat → Nat → Int32) (L : Nat → Nat → Int64) : Rn X d co_Pl_step (53, [some (vr 49), some (vi x1), o2, some (vi x3)], [], pm_mm al D I L) = cond (pm_in x1 13) (((Cl X d 5 [vi (I 49 2), vi ((I 54 x1.toNatClampNeg) + 1)] (pm_mm al D I L)).bind pm_ai).bind (fun r => Rn X d co_Pl_step (75, [some (vr 49), some (vi x1), o2, some (vi x3)], [vi r.1, vi (x1 + 1), vr 54], r.2))) none :=
  (Sg_eq X d co_Pl_step st_Pl_step 14 _).trans rfl
set_option maxRecDepth 20000 in
theorem sg_Pl_step_75 (X : Nat × (Nat → Int32)) (d : Nat) (x1 : Int32) (o2 : Option pm_V) (x3 u1 u2 : Int32) (al : List Nat) (D : Nat → Bool) (I : Nat → Nat → Int32) (L : Nat → Nat → Int64) : Rn X d co_Pl_step (75, [some (vr 49), some (vi x1), o2, some (vi x3)], [vi u2, vi u1, vr 54], pm_mm al D I L) = cond (pm_in u1 13) (Rn X d co_Pl_step (76, [some (vr 49), some (vi x1), o2, some (vi x3)], [], pm_mm al D (pm_up I 54 u1.toNatClampNeg u2) L)) none :=
  (Sg_eq X d co_Pl_step st_Pl_step 2 _).trans rfl
set_option maxRecDepth 20000 in
theorem sg_Pl_step_76 (X : Nat × (Nat → Int32)) (d : Nat) (x1 : Int32) (o2 : Option pm_V) (x3 : Int32) (al : List Nat) (D : Nat → Bool) (I : Nat → Nat → Int32) (L : Nat → Nat → Int64) : Rn X d co_Pl_step (76, [some (vr 49), some (vi x1), o2, some (vi x3)], [], pm_mm al D I L) = ((Cl X d 5 [vi x3, vi (I 49 4)] (pm_mm al D I L)).bind pm_ai).bind (fun r => Rn X d co_Pl_step (91, [some (vr 49), some (vi x1), o2, some (vi x3)], [vi r.1, vi (x1 + 1), vr 56], r.2)) :=
  (Sg_eq X d co_Pl_step st_Pl_step 9 _).trans rfl
set_option maxRecDepth 20000 in
theorem sg_Pl_step_91 (X : Nat × (Nat → Int32)) (d : Nat) (x1 : Int32) (o2 : Option pm_V) (x3 u1 u2 : Int32) (al : List Nat) (D : Nat → Bool) (I : Nat → Nat → Int32) (L : Nat → Nat → Int64) : Rn X d co_Pl_step (91, [some (vr 49), some (vi x1), o2, some (vi x3)], [vi u2, vi u1, vr 56], pm_mm al D I L) = cond (pm_in u1 13) (cond (pm_in (x1 + 1) 13) (cond (pm_in (x1 + 1) 13) (((Cl X d 47 [vr 49, vi x1] (pm_mm al D (pm_up (pm_up I 56 u1.toNatClampNeg u2) 53 ((x1 + 1).toNatClampNeg) (x3 - ((pm_up I 56 u1.toNatClampNeg u2) 56 ((x1 + 1).toNatClampNeg)))) L)).bind pm_av).bind (fun r => Rn X d co_Pl_step (115, [some (vr 49), some (vi x1), o2, some (vi x3)], [], r))) none) none) none :=
  (Sg_eq X d co_Pl_step st_Pl_step 18 _).trans rfl
set_option maxRecDepth 20000 in
theorem sg_Pl_step_115 (X : Nat × (Nat → Int32)) (d : Nat) (o0 o1 o2 o3 : Option pm_V) (al : List Nat) (D : Nat → Bool) (I : Nat → Nat → Int32) (L : Nat → Nat → Int64) : Rn X d co_Pl_step (115, [o0, o1, o2, o3], [], pm_mm al D I L) = some (none, pm_mm al D I L) :=
  (Sg_eq X d co_Pl_step st_Pl_step 1 _).trans rfl
def st_Pl_drawAll (pc : Nat) : Bool := cond (Nat.ble 123 pc) (cond (Nat.ble 129 pc) (cond (Nat.beq pc 129) (true) (false)) (cond (Nat.beq pc 123) (true) (false))) (cond (Nat.ble 37 pc) (cond (Nat.beq pc 37) (true) (false)) (cond (Nat.beq pc 0) (true) (false)))
set_option maxRecDepth 20000 in
theorem sg_Pl_drawAll_0 (X : Nat × (Nat → Int32)) (d : Nat) (x1 : Int32) (o2 o3 o4 o5 o6 o7 o8 : Option pm_V) (al : List Nat) (D : Nat → Bool) (I : Nat → Nat → Int32) (L : Nat → Nat → Int64) : Rn X d co_Pl_drawAll (0, [some (vr 49), some (vi x1), o2, o3, o4, o5, o6, o7, o8], [], pm_mm al D I L) = cond (pm_in (x1 + 1) 13) (cond (pm_in x1 12) (cond (pm_in x1 13) (Rn X d co_Pl_drawAll (37, [some (vr 49), some (vi x1), some (vi (I 53 ((x1 + 1).toNatClampNeg))), some (vi (I 53 ((x1 + 1).toNatClampNeg))), some (vi ((I 52 x1.toNatClampNeg) &&& ((I 55 x1.toNatClampNeg) ^^^ (-1)))), some (vi 0), some (vi 0), some (vi 0), o8], [], pm_mm al D I L)) none) none) none :=
  (Sg_eq X d co_Pl_drawAll st_Pl_drawAll 28 _).trans rfl
set_option maxRecDepth 20000 in
theorem sg_Pl_drawAll_37 (X : Nat × (Nat → Int32)) (d : Nat) (x1 x2 x3 x4 x5 x6 x7 : Int32) (o8 : Option pm_V) (al : List Nat) (D : Nat → Bool) (I : Nat → Nat → Int32) (L : Nat → Nat → Int64) : Rn X d co_Pl_drawAll (37, [some (vr 49), some (vi x1), some (vi x2), some (vi x3), some (vi x4), some (vi x5), some (vi x6), some (vi x7), o8], [], pm_mm al D I L) = cond (decide ((I 49 3) ≤ x7)) (Rn X d co_Pl_drawAll (129, [some (vr 49), some (vi x1), some (vi x2), some (vi x3), some (vi x4), some (vi x5), some (vi x6), some (vi x7), o8], [], pm_mm al D I L)) (cond (decide (x4 = 0)) (Rn X d co_Pl_drawAll (129, [some (vr 49), some (vi x1), some (vi x2), some (vi x3), some (vi x4), some (vi x5), some (vi x6), some (vi x7), o8], [], pm_mm al D I L)) (cond (pm_in x7 6) (cond (decide (((x4 >>> ((I 51 x7.toNatClampNeg) &&& 31)) &&& 1) = 0)) (Rn X d co_Pl_drawAll (123, [some (vr 49), some (vi x1), some (vi x2), some (vi x3), some (vi x4), some (vi x5), some (vi x6), some (vi x7), some (vi (I 51 x7.toNatClampNeg))], [], pm_mm al D I L)) (cond (pm_in (I 51 x7.toNatClampNeg) 6) (cond (decide (x2 < (I 50 ((I 51 x7.toNatClampNeg).toNatClampNeg)))) (cond (pm_in (I 51 x7.toNatClampNeg) 6) (cond (decide (x3 < (I 50 ((I 51 x7.toNatClampNeg).toNatClampNeg)))) (Rn X d co_Pl_drawAll (123, [some (vr 49), some (vi x1), some (vi x2), some (vi x3), some (vi x4), some (vi x5), some (vi x6), some (vi x7), some (vi (I 51 x7.toNatClampNeg))], [], pm_mm al D I L)) (Rn X d co_Pl_drawAll (123, [some (vr 49), some (vi x1), some (vi x2), some (vi x3), some (vi x4), some (vi x5), some (vi (x6 ||| (1 <<< ((I 51 x7.toNatClampNeg) &&& 31)))), some (vi x7), some (vi (I 51 x7.toNatClampNeg))], [], pm_mm al D I L))) none) (cond (pm_in (I 51 x7.toNatClampNeg) 6) (Rn X d co_Pl_drawAll (123, [some (vr 49), some (vi x1), some (vi (x2 - (I 50 ((I 51 x7.toNatClampNeg).toNatClampNeg)))), some (vi x3), some (vi x4), some (vi (x5 ||| (1 <<< ((I 51 x7.toNatClampNeg) &&& 31)))), some (vi x6), some (vi x7), some (vi (I 51 x7.toNatClampNeg))], [], pm_mm al D I L)) none)) none)) none)) :=
  (Sg_eq X d co_Pl_drawAll st_Pl_drawAll 38 _).trans rfl
set_option maxRecDepth 20000 in
theorem sg_Pl_drawAll_123 (X : Nat × (Nat → Int32)) (d : Nat) (x1 x2 x3 x4 x5 x6 x7 : Int32) (o8 : Option pm_V) (al : List Nat) (D : Nat → Bool) (I : Nat → Nat → Int32) (L : Nat → Nat → Int64) : Rn X d co_Pl_drawAll (123, [some (vr 49), some (vi x1), some (vi x2), some (vi x3), some (vi x4), some (vi x5), some (vi x6), some (vi x7), o8], [], pm_mm al D I L) = Rn X d co_Pl_drawAll (37, [some (vr 49), some (vi x1), some (vi x2), some (vi x3), some (vi x4), some (vi x5), some (vi x6), some (vi (x7 + 1)), o8], [], pm_mm al D I L) :=
  (Sg_eq X d co_Pl_drawAll st_Pl_drawAll 3 _).trans rfl
set_option maxRecDepth 20000 in
theorem sg_Pl_drawAll_129 (X : Nat × (Nat → Int32)) (d : Nat) (x1 x2 : Int32) (o3 : Option pm_V) (x4 x5 x6 : Int32) (o7 o8 : Option pm_V) (al : List Nat) (D : Nat → Bool) (I : Nat → Nat → Int32) (L : Nat → Nat → Int64) : Rn X d co_Pl_drawAll (129, [some (vr 49), some (vi x1), some (vi x2), o3, some (vi x4), some (vi x5), some (vi x6), o7, o8], [], pm_mm al D I L) = cond (pm_in (x1 + 1) 13) (cond (pm_in (x1 + 1) 13) (cond (pm_in (x1 + 1) 13) (cond (pm_in (x1 + 1) 13) (cond (pm_in x1 13) (cond (pm_in x1 13) (cond (pm_in (x1 + 1) 13) (cond (pm_in (x1 + 1) 13) (some (none, pm_mm al D (pm_up (pm_up (pm_up (pm_up (pm_up I 53 ((x1 + 1).toNatClampNeg) x2) 57 ((x1 + 1).toNatClampNeg) x5) 58 ((x1 + 1).toNatClampNeg) (x4 &&& (x5 ^^^ (-1)))) 59 ((x1 + 1).toNatClampNeg) x6) 55 ((x1 + 1).toNatClampNeg) ((I 55 x1.toNatClampNeg) ||| (((pm_up (pm_up (pm_up I 53 ((x1 + 1).toNatClampNeg) x2) 57 ((x1 + 1).toNatClampNeg) x5) 58 ((x1 + 1).toNatClampNeg) (x4 &&& (x5 ^^^ (-1)))) 58 x1.toNatClampNeg) &&& ((pm_up (pm_up (pm_up I 53 ((x1 + 1).toNatClampNeg) x2) 57 ((x1 + 1).toNatClampNeg) x5) 58 ((x1 + 1).toNatClampNeg) (x4 &&& (x5 ^^^ (-1)))) 58 ((x1 + 1).toNatClampNeg))))) L)) none) none) none) none) none) none) none) none :=
  (Sg_eq X d co_Pl_drawAll st_Pl_drawAll 55 _).trans rfl
def st_Pl_through (pc : Nat) : Bool := cond (Nat.ble 25 pc) (cond (Nat.ble 51 pc) (cond (Nat.ble 57 pc) (cond (Nat.beq pc 57) (true) (false)) (cond (Nat.beq pc 51) (true) (false))) (cond (Nat.beq pc 25) (true) (false))) (cond (Nat.ble 4 pc) (cond (Nat.ble 6 pc) (cond (Nat.beq pc 6) (true) (false)) (cond (Nat.beq pc 4) (true) (false))) (cond (Nat.beq pc 0) (true) (false)))
set_option maxRecDepth 20000 in
theorem sg_Pl_through_0 (X : Nat × (Nat → Int32)) (d : Nat) (x1 : Int32) (o2 o3 : Option pm_V) (al : List Nat) (D : Nat → Bool) (I : Nat → Nat → Int32) (L : Nat → Nat → Int64) : Rn X d co_Pl_through (0, [some (vr 49), some (vi x1), o2, o3], [], pm_mm al D I L) = ((Cl X d 45 [vr 49] (pm_mm al D I L)).bind pm_av).bind (fun r => Rn X d co_Pl_through (4, [some (vr 49), some (vi x1), o2, o3], [], r)) :=
  (Sg_eq X d co_Pl_through st_Pl_through 2 _).trans rfl
set_option maxRecDepth 20000 in
theorem sg_Pl_through_4 (X : Nat × (Nat → Int32)) (d : Nat) (x1 : Int32) (o2 o3 : Option pm_V) (al : List Nat) (D : Nat → Bool) (I : Nat → Nat → Int32) (L : Nat → Nat → Int64) : Rn X d co_Pl_through (4, [some (vr 49), some (vi x1), o2, o3], [], pm_mm al D I L) = Rn X d co_Pl_through (6, [some (vr 49), some (vi x1), some (vi 0), o3], [], pm_mm al D I L) :=
  (Sg_eq X d co_Pl_through st_Pl_through 3 _).trans rfl
set_option maxRecDepth 20000 in
theorem sg_Pl_through_6 (X : Nat × (Nat → Int32)) (d : Nat) (x1 x2 : Int32) (o3 : Option pm_V) (al : List Nat) (D : Nat → Bool) (I : Nat → Nat → Int32) (L : Nat → Nat → Int64) : Rn X d co_Pl_through (6, [some (vr 49), some (vi x1), some (vi x2), o3], [], pm_mm al D I L) = cond (decide (12 ≤ x2)) (some (none, pm_mm al D I L)) (cond (decide (((x1 >>> (x2 &&& 31)) &&& 1) = 0)) (Rn X d co_Pl_through (25, [some (vr 49), some (vi x1), some (vi x2), o3], [vi 0], pm_mm al D I L)) (Rn X d co_Pl_through (25, [some (vr 49), some (vi x1), some (vi x2), o3], [vi 1], pm_mm al D I L))) :=
  (Sg_eq X d co_Pl_through st_Pl_through 12 _).trans rfl
set_option maxRecDepth 20000 in
theorem sg_Pl_through_25 (X : Nat × (Nat → Int32)) (d : Nat) (x1 x2 : Int32) (o3 : Option pm_V) (u0 : Int32) (al : List Nat) (D : Nat → Bool) (I : Nat → Nat → Int32) (L : Nat → Nat → Int64) : Rn X d co_Pl_through (25, [some (vr 49), some (vi x1), some (vi x2), o3], [vi u0], pm_mm al D I L) = cond (decide (u0 = 0)) (Rn X d co_Pl_through (51, [some (vr 49), some (vi x1), some (vi x2), some (vi u0)], [], pm_mm al D I L)) (cond (pm_in x2 13) (cond (decide ((I 54 x2.toNatClampNeg) = 0)) (Rn X d co_Pl_through (51, [some (vr 49), some (vi x1), some (vi x2), some (vi u0)], [], pm_mm al D (pm_up I 49 15 ((I 49 15) ||| (1 <<< (x2 &&& 31)))) L)) (Rn X d co_Pl_through (51, [some (vr 49), some (vi x1), some (vi x2), some (vi u0)], [], pm_mm al D I L))) none) :=
  (Sg_eq X d co_Pl_through st_Pl_through 17 _).trans rfl
set_option maxRecDepth 20000 in
theorem sg_Pl_through_51 (X : Nat × (Nat → Int32)) (d : Nat) (x1 x2 x3 : Int32) (al : List Nat) (D : Nat → Bool) (I : Nat → Nat → Int32) (L : Nat → Nat → Int64) : Rn X d co_Pl_through (51, [some (vr 49), some (vi x1), some (vi x2), some (vi x3)], [], pm_mm al D I L) = ((Cl X d 46 [vr 49, vi x2, vi x3] (pm_mm al D I L)).bind pm_av).bind (fun r => Rn X d co_Pl_through (57, [some (vr 49), some (vi x1), some (vi x2), some (vi x3)], [], r)) :=
  (Sg_eq X d co_Pl_through st_Pl_through 4 _).trans rfl
set_option maxRecDepth 20000 in
theorem sg_Pl_through_57 (X : Nat × (Nat → Int32)) (d : Nat) (x1 x2 : Int32) (o3 : Option pm_V) (al : List Nat) (D : Nat → Bool) (I : Nat → Nat → Int32) (L : Nat → Nat → Int64) : Rn X d co_Pl_through (57, [some (vr 49), some (vi x1), some (vi x2), o3], [], pm_mm al D I L) = Rn X d co_Pl_through (6, [some (vr 49), some (vi x1), some (vi (x2 + 1)), o3], [], pm_mm al D I L) :=
  (Sg_eq X d co_Pl_through st_Pl_through 3 _).trans rfl
def st_Pl_well (pc : Nat) : Bool := cond (Nat.ble 32 pc) (cond (Nat.ble 37 pc) (cond (Nat.ble 40 pc) (cond (Nat.beq pc 40) (true) (false)) (cond (Nat.beq pc 37) (true) (false))) (cond (Nat.beq pc 32) (true) (false))) (cond (Nat.ble 4 pc) (cond (Nat.ble 6 pc) (cond (Nat.beq pc 6) (true) (false)) (cond (Nat.beq pc 4) (true) (false))) (cond (Nat.beq pc 0) (true) (false)))
set_option maxRecDepth 20000 in
theorem sg_Pl_well_0 (X : Nat × (Nat → Int32)) (d : Nat) (x1 x2 : Int32) (o3 : Option pm_V) (al : List Nat) (D : Nat → Bool) (I : Nat → Nat → Int32) (L : Nat → Nat → Int64) : Rn X d co_Pl_well (0, [some (vr 49), some (vi x1), some (vi x2), o3], [], pm_mm al D I L) = ((Cl X d 45 [vr 49] (pm_mm al D I L)).bind pm_av).bind (fun r => Rn X d co_Pl_well (4, [some (vr 49), some (vi x1), some (vi x2), o3], [], r)) :=
  (Sg_eq X d co_Pl_well st_Pl_well 2 _).trans rfl
set_option maxRecDepth 20000 in
theorem sg_Pl_well_4 (X : Nat × (Nat → Int32)) (d : Nat) (x1 x2 : Int32) (o3 : Option pm_V) (al : List Nat) (D : Nat → Bool) (I : Nat → Nat → Int32) (L : Nat → Nat → Int64) : Rn X d co_Pl_well (4, [some (vr 49), some (vi x1), some (vi x2), o3], [], pm_mm al D I L) = Rn X d co_Pl_well (6, [some (vr 49), some (vi x1), some (vi x2), some (vi 0)], [], pm_mm al D I L) :=
  (Sg_eq X d co_Pl_well st_Pl_well 3 _).trans rfl
set_option maxRecDepth 20000 in
theorem sg_Pl_well_6 (X : Nat × (Nat → Int32)) (d : Nat) (x1 x2 x3 : Int32) (al : List Nat) (D : Nat → Bool) (I : Nat → Nat → Int32) (L : Nat → Nat → Int64) : Rn X d co_Pl_well (6, [some (vr 49), some (vi x1), some (vi x2), some (vi x3)], [], pm_mm al D I L) = cond (decide (12 ≤ x3)) (some (some (vi 1), pm_mm al D I L)) (cond (decide (((x1 >>> (x3 &&& 31)) &&& 1) = 0)) (cond (pm_in x3 13) (cond (decide (x2 ≤ (I 53 x3.toNatClampNeg))) (Rn X d co_Pl_well (37, [some (vr 49), some (vi x1), some (vi x2), some (vi x3)], [vi 0, vi x3, vr 49], pm_mm al D I L)) (Rn X d co_Pl_well (32, [some (vr 49), some (vi x1), some (vi x2), some (vi x3)], [vi x3, vr 49], pm_mm al D I L))) none) (Rn X d co_Pl_well (32, [some (vr 49), some (vi x1), some (vi x2), some (vi x3)], [vi x3, vr 49], pm_mm al D I L))) :=
  (Sg_eq X d co_Pl_well st_Pl_well 19 _).trans rfl
set_option maxRecDepth 20000 in
theorem sg_Pl_well_32 (X : Nat × (Nat → Int32)) (d : Nat) (x1 x2 x3 u1 : Int32) (al : List Nat) (D : Nat → Bool) (I : Nat → Nat → Int32) (L : Nat → Nat → Int64) : Rn X d co_Pl_well (32, [some (vr 49), some (vi x1), some (vi x2), some (vi x3)], [vi u1, vr 49], pm_mm al D I L) = Rn X d co_Pl_well (37, [some (vr 49), some (vi x1), some (vi x2), some (vi x3)], [vi 1, vi u1, vr 49], pm_mm al D I L) :=
  (Sg_eq X d co_Pl_well st_Pl_well 3 _).trans rfl
set_option maxRecDepth 20000 in
theorem sg_Pl_well_37 (X : Nat × (Nat → Int32)) (d : Nat) (x1 x2 x3 u1 u2 : Int32) (al : List Nat) (D : Nat → Bool) (I : Nat → Nat → Int32) (L : Nat → Nat → Int64) : Rn X d co_Pl_well (37, [some (vr 49), some (vi x1), some (vi x2), some (vi x3)], [vi u2, vi u1, vr 49], pm_mm al D I L) = ((Cl X d 46 [vr 49, vi u1, vi u2] (pm_mm al D I L)).bind pm_av).bind (fun r => Rn X d co_Pl_well (40, [some (vr 49), some (vi x1), some (vi x2), some (vi x3)], [], r)) :=
  (Sg_eq X d co_Pl_well st_Pl_well 1 _).trans rfl
set_option maxRecDepth 20000 in
theorem sg_Pl_well_40 (X : Nat × (Nat → Int32)) (d : Nat) (x1 x2 x3 : Int32) (al : List Nat) (D : Nat → Bool) (I : Nat → Nat → Int32) (L : Nat → Nat → Int64) : Rn X d co_Pl_well (40, [some (vr 49), some (vi x1), some (vi x2), some (vi x3)], [], pm_mm al D I L) = cond (pm_in (x3 + 1) 13) (cond (decide ((I 58 ((x3 + 1).toNatClampNeg)) = 0)) (Rn X d co_Pl_well (6, [some (vr 49), some (vi x1), some (vi x2), some (vi (x3 + 1))], [], pm_mm al D I L)) (some (some (vi 0), pm_mm al D I L))) none :=
  (Sg_eq X d co_Pl_well st_Pl_well 10 _).trans rfl
def st_Pl_silences (pc : Nat) : Bool := cond (Nat.ble 38 pc) (cond (Nat.ble 54 pc) (cond (Nat.ble 62 pc) (cond (Nat.beq pc 62) (true) (false)) (cond (Nat.beq pc 54) (true) (false))) (cond (Nat.ble 41 pc) (cond (Nat.beq pc 41) (true) (false)) (cond (Nat.beq pc 38) (true) (false)))) (cond (Nat.ble 4 pc) (cond (Nat.ble 9 pc) (cond (Nat.beq pc 9) (true) (false)) (cond (Nat.beq pc 4) (true) (false))) (cond (Nat.beq pc 0) (true) (false)))
set_option maxRecDepth 20000 in
theorem sg_Pl_silences_0 (X : Nat × (Nat → Int32)) (d : Nat) (x1 x2 : Int32) (o3 o4 : Option pm_V) (al : List Nat) (D : Nat → Bool) (I : Nat → Nat → Int32) (L : Nat → Nat → Int64) : Rn X d co_Pl_silences (0, [some (vr 49), some (vi x1), some (vi x2), o3, o4], [], pm_mm al D I L) = ((Cl X d 45 [vr 49] (pm_mm al D I L)).bind pm_av).bind (fun r => Rn X d co_Pl_silences (4, [some (vr 49), some (vi x1), some (vi x2), o3, o4], [], r)) :=
  (Sg_eq X d co_Pl_silences st_Pl_silences 2 _).trans rfl
set_option maxRecDepth 20000 in
theorem sg_Pl_silences_4 (X : Nat × (Nat → Int32)) (d : Nat) (x1 x2 : Int32) (o3 o4 : Option pm_V) (al : List Nat) (D : Nat → Bool) (I : Nat → Nat → Int32) (L : Nat → Nat → Int64) : Rn X d co_Pl_silences (4, [some (vr 49), some (vi x1), some (vi x2), o3, o4], [], pm_mm al D I L) = Rn X d co_Pl_silences (9, [some (vr 49), some (vi x1), some (vi x2), some (vi 0), some (vi 0)], [], pm_mm al D I L) :=
  (Sg_eq X d co_Pl_silences st_Pl_silences 5 _).trans rfl
set_option maxRecDepth 20000 in
theorem sg_Pl_silences_9 (X : Nat × (Nat → Int32)) (d : Nat) (x1 x2 x3 x4 : Int32) (al : List Nat) (D : Nat → Bool) (I : Nat → Nat → Int32) (L : Nat → Nat → Int64) : Rn X d co_Pl_silences (9, [some (vr 49), some (vi x1), some (vi x2), some (vi x3), some (vi x4)], [], pm_mm al D I L) = cond (decide (12 ≤ x4)) (Rn X d co_Pl_silences (62, [some (vr 49), some (vi x1), some (vi x2), some (vi x3), some (vi x4)], [], pm_mm al D I L)) (cond (decide (x2 ≤ x3)) (Rn X d co_Pl_silences (62, [some (vr 49), some (vi x1), some (vi x2), some (vi x3), some (vi x4)], [], pm_mm al D I L)) (cond (decide (((x1 >>> (x4 &&& 31)) &&& 1) = 0)) (Rn X d co_Pl_silences (38, [some (vr 49), some (vi x1), some (vi x2), some (vi x3), some (vi x4)], [vi 0, vi x4, vr 49], pm_mm al D I L)) (Rn X d co_Pl_silences (38, [some (vr 49), some (vi x1), some (vi x2), some (vi x3), some (vi x4)], [vi 1, vi x4, vr 49], pm_mm al D I L)))) :=
  (Sg_eq X d co_Pl_silences st_Pl_silences 17 _).trans rfl
set_option maxRecDepth 20000 in
theorem sg_Pl_silences_38 (X : Nat × (Nat → Int32)) (d : Nat) (x1 x2 x3 x4 u1 u2 : Int32) (al : List Nat) (D : Nat → Bool) (I : Nat → Nat → Int32) (L : Nat → Nat → Int64) : Rn X d co_Pl_silences (38, [some (vr 49), some (vi x1), some (vi x2), some (vi x3), some (vi x4)], [vi u2, vi u1, vr 49], pm_mm al D I L) = ((Cl X d 46 [vr 49, vi u1, vi u2] (pm_mm al D I L)).bind pm_av).bind (fun r => Rn X d co_Pl_silences (41, [some (vr 49), some (vi x1), some (vi x2), some (vi x3), some (vi x4)], [], r)) :=
  (Sg_eq X d co_Pl_silences st_Pl_silences 1 _).trans rfl
set_option maxRecDepth 20000 in
theorem sg_Pl_silences_41 (X : Nat × (Nat → Int32)) (d : Nat) (x1 x2 x3 x4 : Int32) (al : List Nat) (D : Nat → Bool) (I : Nat → Nat → Int32) (L : Nat → Nat → Int64) : Rn X d co_Pl_silences (41, [some (vr 49), some (vi x1), some (vi x2), some (vi x3), some (vi x4)], [], pm_mm al D I L) = cond (pm_in (x4 + 1) 13) (((Cl X d 1 [vi (I 58 ((x4 + 1).toNatClampNeg))] (pm_mm al D I L)).bind pm_ai).bind (fun r => Rn X d co_Pl_silences (54, [some (vr 49), some (vi x1), some (vi x2), some (vi x3), some (vi x4)], [vi r.1, vi x3], r.2))) none :=
  (Sg_eq X d co_Pl_silences st_Pl_silences 8 _).trans rfl
set_option maxRecDepth 20000 in
theorem sg_Pl_silences_54 (X : Nat × (Nat → Int32)) (d : Nat) (x1 x2 : Int32) (o3 : Option pm_V) (x4 u0 u1 : Int32) (al : List Nat) (D : Nat → Bool) (I : Nat → Nat → Int32) (L : Nat → Nat → Int64) : Rn X d co_Pl_silences (54, [some (vr 49), some (vi x1), some (vi x2), o3, some (vi x4)], [vi u1, vi u0], pm_mm al D I L) = Rn X d co_Pl_silences (9, [some (vr 49), some (vi x1), some (vi x2), some (vi (u0 + u1)), some (vi (x4 + 1))], [], pm_mm al D I L) :=
  (Sg_eq X d co_Pl_silences st_Pl_silences 5 _).trans rfl
set_option maxRecDepth 20000 in
theorem sg_Pl_silences_62 (X : Nat × (Nat → Int32)) (d : Nat) (o0 o1 o2 : Option pm_V) (x3 : Int32) (o4 : Option pm_V) (al : List Nat) (D : Nat → Bool) (I : Nat → Nat → Int32) (L : Nat → Nat → Int64) : Rn X d co_Pl_silences (62, [o0, o1, o2, some (vi x3), o4], [], pm_mm al D I L) = some (some (vi x3), pm_mm al D I L) :=
  (Sg_eq X d co_Pl_silences st_Pl_silences 2 _).trans rfl
def st_Pl_behind (pc : Nat) : Bool := cond (Nat.beq pc 0) (true) (false)
set_option maxRecDepth 20000 in
theorem sg_Pl_behind_0 (X : Nat × (Nat → Int32)) (d : Nat) (x1 x2 : Int32) (al : List Nat) (D : Nat → Bool) (I : Nat → Nat → Int32) (L : Nat → Nat → Int64) : Rn X d co_Pl_behind (0, [some (vr 49), some (vi x1), some (vi x2)], [], pm_mm al D I L) = cond (decide (x2 = 0)) (cond (pm_in (x1 + 1) 13) (some (some (vi (I 53 ((x1 + 1).toNatClampNeg))), pm_mm al D I L)) none) (cond (decide (x2 = 1)) (cond (pm_in (x1 + 1) 13) (some (some (vi (I 54 ((x1 + 1).toNatClampNeg))), pm_mm al D I L)) none) (cond (decide (x2 = 2)) (cond (pm_in (x1 + 1) 13) (some (some (vi (I 57 ((x1 + 1).toNatClampNeg))), pm_mm al D I L)) none) (cond (decide (x2 = 3)) (cond (pm_in (x1 + 1) 13) (some (some (vi (I 58 ((x1 + 1).toNatClampNeg))), pm_mm al D I L)) none) (cond (decide (x2 = 4)) (cond (pm_in (x1 + 1) 13) (some (some (vi (I 59 ((x1 + 1).toNatClampNeg))), pm_mm al D I L)) none) (cond (decide (x2 = 5)) (cond (pm_in (x1 + 1) 13) (some (some (vi (I 55 ((x1 + 1).toNatClampNeg))), pm_mm al D I L)) none) (some (some (vi (-1)), pm_mm al D I L))))))) :=
  (Sg_eq X d co_Pl_behind st_Pl_behind 9 _).trans rfl
def st_Pl_firstSilence (pc : Nat) : Bool := cond (Nat.ble 2 pc) (cond (Nat.beq pc 2) (true) (false)) (cond (Nat.beq pc 0) (true) (false))
set_option maxRecDepth 20000 in
theorem sg_Pl_firstSilence_0 (X : Nat × (Nat → Int32)) (d : Nat) (o1 : Option pm_V) (al : List Nat) (D : Nat → Bool) (I : Nat → Nat → Int32) (L : Nat → Nat → Int64) : Rn X d co_Pl_firstSilence (0, [some (vr 49), o1], [], pm_mm al D I L) = Rn X d co_Pl_firstSilence (2, [some (vr 49), some (vi 0)], [], pm_mm al D I L) :=
  (Sg_eq X d co_Pl_firstSilence st_Pl_firstSilence 3 _).trans rfl
set_option maxRecDepth 20000 in
theorem sg_Pl_firstSilence_2 (X : Nat × (Nat → Int32)) (d : Nat) (x1 : Int32) (al : List Nat) (D : Nat → Bool) (I : Nat → Nat → Int32) (L : Nat → Nat → Int64) : Rn X d co_Pl_firstSilence (2, [some (vr 49), some (vi x1)], [], pm_mm al D I L) = cond (decide (12 ≤ x1)) (some (some (vi (-1)), pm_mm al D I L)) (cond (pm_in (x1 + 1) 13) (cond (decide ((I 58 ((x1 + 1).toNatClampNeg)) = 0)) (Rn X d co_Pl_firstSilence (2, [some (vr 49), some (vi (x1 + 1))], [], pm_mm al D I L)) (some (some (vi x1), pm_mm al D I L))) none) :=
  (Sg_eq X d co_Pl_firstSilence st_Pl_firstSilence 13 _).trans rfl
def st_Pl_firstToFaint (pc : Nat) : Bool := cond (Nat.ble 2 pc) (cond (Nat.ble 10 pc) (cond (Nat.beq pc 10) (true) (false)) (cond (Nat.beq pc 2) (true) (false))) (cond (Nat.beq pc 0) (true) (false))
set_option maxRecDepth 20000 in
theorem sg_Pl_firstToFaint_0 (X : Nat × (Nat → Int32)) (d : Nat) (o1 o2 : Option pm_V) (al : List Nat) (D : Nat → Bool) (I : Nat → Nat → Int32) (L : Nat → Nat → Int64) : Rn X d co_Pl_firstToFaint (0, [some (vr 49), o1, o2], [], pm_mm al D I L) = Rn X d co_Pl_firstToFaint (2, [some (vr 49), some (vi 0), o2], [], pm_mm al D I L) :=
  (Sg_eq X d co_Pl_firstToFaint st_Pl_firstToFaint 3 _).trans rfl
set_option maxRecDepth 20000 in
theorem sg_Pl_firstToFaint_2 (X : Nat × (Nat → Int32)) (d : Nat) (x1 : Int32) (o2 : Option pm_V) (al : List Nat) (D : Nat → Bool) (I : Nat → Nat → Int32) (L : Nat → Nat → Int64) : Rn X d co_Pl_firstToFaint (2, [some (vr 49), some (vi x1), o2], [], pm_mm al D I L) = cond (decide (12 ≤ x1)) (some (some (vi (-1)), pm_mm al D I L)) (Rn X d co_Pl_firstToFaint (10, [some (vr 49), some (vi x1), some (vi 0)], [], pm_mm al D I L)) :=
  (Sg_eq X d co_Pl_firstToFaint st_Pl_firstToFaint 6 _).trans rfl
set_option maxRecDepth 20000 in
theorem sg_Pl_firstToFaint_10 (X : Nat × (Nat → Int32)) (d : Nat) (x1 x2 : Int32) (al : List Nat) (D : Nat → Bool) (I : Nat → Nat → Int32) (L : Nat → Nat → Int64) : Rn X d co_Pl_firstToFaint (10, [some (vr 49), some (vi x1), some (vi x2)], [], pm_mm al D I L) = cond (decide ((I 49 3) ≤ x2)) (Rn X d co_Pl_firstToFaint (2, [some (vr 49), some (vi (x1 + 1)), some (vi x2)], [], pm_mm al D I L)) (cond (pm_in (x1 + 1) 13) (cond (decide ((((I 55 ((x1 + 1).toNatClampNeg)) >>> (x2 &&& 31)) &&& 1) = 0)) (Rn X d co_Pl_firstToFaint (10, [some (vr 49), some (vi x1), some (vi (x2 + 1))], [], pm_mm al D I L)) (some (some (vi x2), pm_mm al D I L))) none) :=
  (Sg_eq X d co_Pl_firstToFaint st_Pl_firstToFaint 18 _).trans rfl
def st_Pl_loudest (pc : Nat) : Bool := cond (Nat.ble 21 pc) (cond (Nat.ble 32 pc) (cond (Nat.ble 37 pc) (cond (Nat.beq pc 37) (true) (false)) (cond (Nat.beq pc 32) (true) (false))) (cond (Nat.beq pc 21) (true) (false))) (cond (Nat.ble 4 pc) (cond (Nat.beq pc 4) (true) (false)) (cond (Nat.beq pc 0) (true) (false)))
set_option maxRecDepth 20000 in
theorem sg_Pl_loudest_0 (X : Nat × (Nat → Int32)) (d : Nat) (o1 o2 : Option pm_V) (al : List Nat) (D : Nat → Bool) (I : Nat → Nat → Int32) (L : Nat → Nat → Int64) : Rn X d co_Pl_loudest (0, [some (vr 49), o1, o2], [], pm_mm al D I L) = Rn X d co_Pl_loudest (4, [some (vr 49), some (vi 0), some (vi 1)], [], pm_mm al D I L) :=
  (Sg_eq X d co_Pl_loudest st_Pl_loudest 5 _).trans rfl
set_option maxRecDepth 20000 in
theorem sg_Pl_loudest_4 (X : Nat × (Nat → Int32)) (d : Nat) (x1 x2 : Int32) (al : List Nat) (D : Nat → Bool) (I : Nat → Nat → Int32) (L : Nat → Nat → Int64) : Rn X d co_Pl_loudest (4, [some (vr 49), some (vi x1), some (vi x2)], [], pm_mm al D I L) = cond (decide (12 ≤ x2)) (some (some (vi x1), pm_mm al D I L)) (cond (pm_in (x2 + 1) 13) (((Cl X d 1 [vi (I 57 ((x2 + 1).toNatClampNeg))] (pm_mm al D I L)).bind pm_ai).bind (fun r => Rn X d co_Pl_loudest (21, [some (vr 49), some (vi x1), some (vi x2)], [vi r.1], r.2))) none) :=
  (Sg_eq X d co_Pl_loudest st_Pl_loudest 10 _).trans rfl
set_option maxRecDepth 20000 in
theorem sg_Pl_loudest_21 (X : Nat × (Nat → Int32)) (d : Nat) (x1 x2 u0 : Int32) (al : List Nat) (D : Nat → Bool) (I : Nat → Nat → Int32) (L : Nat → Nat → Int64) : Rn X d co_Pl_loudest (21, [some (vr 49), some (vi x1), some (vi x2)], [vi u0], pm_mm al D I L) = cond (pm_in (x1 + 1) 13) (((Cl X d 1 [vi (I 57 ((x1 + 1).toNatClampNeg))] (pm_mm al D I L)).bind pm_ai).bind (fun r => Rn X d co_Pl_loudest (32, [some (vr 49), some (vi x1), some (vi x2)], [vi r.1, vi u0], r.2))) none :=
  (Sg_eq X d co_Pl_loudest st_Pl_loudest 7 _).trans rfl
set_option maxRecDepth 20000 in
theorem sg_Pl_loudest_32 (X : Nat × (Nat → Int32)) (d : Nat) (x1 x2 u0 u1 : Int32) (al : List Nat) (D : Nat → Bool) (I : Nat → Nat → Int32) (L : Nat → Nat → Int64) : Rn X d co_Pl_loudest (32, [some (vr 49), some (vi x1), some (vi x2)], [vi u1, vi u0], pm_mm al D I L) = cond (decide (u0 ≤ u1)) (Rn X d co_Pl_loudest (37, [some (vr 49), some (vi x1), some (vi x2)], [], pm_mm al D I L)) (Rn X d co_Pl_loudest (37, [some (vr 49), some (vi x2), some (vi x2)], [], pm_mm al D I L)) :=
  (Sg_eq X d co_Pl_loudest st_Pl_loudest 4 _).trans rfl
set_option maxRecDepth 20000 in
theorem sg_Pl_loudest_37 (X : Nat × (Nat → Int32)) (d : Nat) (x1 x2 : Int32) (al : List Nat) (D : Nat → Bool) (I : Nat → Nat → Int32) (L : Nat → Nat → Int64) : Rn X d co_Pl_loudest (37, [some (vr 49), some (vi x1), some (vi x2)], [], pm_mm al D I L) = Rn X d co_Pl_loudest (4, [some (vr 49), some (vi x1), some (vi (x2 + 1))], [], pm_mm al D I L) :=
  (Sg_eq X d co_Pl_loudest st_Pl_loudest 3 _).trans rfl
def st_Pl_leakedInAll (pc : Nat) : Bool := cond (Nat.ble 4 pc) (cond (Nat.beq pc 4) (true) (false)) (cond (Nat.beq pc 0) (true) (false))
set_option maxRecDepth 20000 in
theorem sg_Pl_leakedInAll_0 (X : Nat × (Nat → Int32)) (d : Nat) (o1 o2 : Option pm_V) (al : List Nat) (D : Nat → Bool) (I : Nat → Nat → Int32) (L : Nat → Nat → Int64) : Rn X d co_Pl_leakedInAll (0, [some (vr 49), o1, o2], [], pm_mm al D I L) = Rn X d co_Pl_leakedInAll (4, [some (vr 49), some (vi 0), some (vi 0)], [], pm_mm al D I L) :=
  (Sg_eq X d co_Pl_leakedInAll st_Pl_leakedInAll 5 _).trans rfl
set_option maxRecDepth 20000 in
theorem sg_Pl_leakedInAll_4 (X : Nat × (Nat → Int32)) (d : Nat) (x1 x2 : Int32) (al : List Nat) (D : Nat → Bool) (I : Nat → Nat → Int32) (L : Nat → Nat → Int64) : Rn X d co_Pl_leakedInAll (4, [some (vr 49), some (vi x1), some (vi x2)], [], pm_mm al D I L) = cond (decide (12 ≤ x2)) (some (some (vi x1), pm_mm al D I L)) (cond (pm_in (x2 + 1) 13) (Rn X d co_Pl_leakedInAll (4, [some (vr 49), some (vi (x1 + (I 56 ((x2 + 1).toNatClampNeg)))), some (vi (x2 + 1))], [], pm_mm al D I L)) none) :=
  (Sg_eq X d co_Pl_leakedInAll st_Pl_leakedInAll 15 _).trans rfl
def st_Pl_worthInAll (pc : Nat) : Bool := cond (Nat.ble 13 pc) (cond (Nat.ble 45 pc) (cond (Nat.beq pc 45) (true) (false)) (cond (Nat.beq pc 13) (true) (false))) (cond (Nat.ble 4 pc) (cond (Nat.beq pc 4) (true) (false)) (cond (Nat.beq pc 0) (true) (false)))
set_option maxRecDepth 20000 in
theorem sg_Pl_worthInAll_11_0 (X : Nat × (Nat → Int32)) (d : Nat) (o2 o3 o4 : Option pm_V) (al : List Nat) (D : Nat → Bool) (I : Nat → Nat → Int32) (L : Nat → Nat → Int64) : Rn X d co_Pl_worthInAll (0, [some (vr 49), some (vr 11), o2, o3, o4], [], pm_mm al D I L) = Rn X d co_Pl_worthInAll (4, [some (vr 49), some (vr 11), some (vi 0), some (vi 0), o4], [], pm_mm al D I L) :=
  (Sg_eq X d co_Pl_worthInAll st_Pl_worthInAll 5 _).trans rfl
set_option maxRecDepth 20000 in
theorem sg_Pl_worthInAll_11_4 (X : Nat × (Nat → Int32)) (d : Nat) (x2 x3 : Int32) (o4 : Option pm_V) (al : List Nat) (D : Nat → Bool) (I : Nat → Nat → Int32) (L : Nat → Nat → Int64) : Rn X d co_Pl_worthInAll (4, [some (vr 49), some (vr 11), some (vi x2), some (vi x3), o4], [], pm_mm al D I L) = cond (decide (12 ≤ x3)) (some (some (vi x2), pm_mm al D I L)) (Rn X d co_Pl_worthInAll (13, [some (vr 49), some (vr 11), some (vi x2), some (vi x3), some (vi 0)], [], pm_mm al D I L)) :=
  (Sg_eq X d co_Pl_worthInAll st_Pl_worthInAll 6 _).trans rfl
set_option maxRecDepth 20000 in
theorem sg_Pl_worthInAll_11_13 (X : Nat × (Nat → Int32)) (d : Nat) (x2 x3 x4 : Int32) (al : List Nat) (D : Nat → Bool) (I : Nat → Nat → Int32) (L : Nat → Nat → Int64) : Rn X d co_Pl_worthInAll (13, [some (vr 49), some (vr 11), some (vi x2), some (vi x3), some (vi x4)], [], pm_mm al D I L) = cond (decide ((I 49 3) ≤ x4)) (Rn X d co_Pl_worthInAll (4, [some (vr 49), some (vr 11), some (vi x2), some (vi (x3 + 1)), some (vi x4)], [], pm_mm al D I L)) (cond (pm_in (x3 + 1) 13) (cond (decide ((((I 57 ((x3 + 1).toNatClampNeg)) >>> (x4 &&& 31)) &&& 1) = 0)) (Rn X d co_Pl_worthInAll (45, [some (vr 49), some (vr 11), some (vi x2), some (vi x3), some (vi x4)], [], pm_mm al D I L)) (cond (pm_in x4 6) (Rn X d co_Pl_worthInAll (45, [some (vr 49), some (vr 11), some (vi (x2 + (I 11 x4.toNatClampNeg))), some (vi x3), some (vi x4)], [], pm_mm al D I L)) none)) none) :=
  (Sg_eq X d co_Pl_worthInAll st_Pl_worthInAll 22 _).trans rfl
set_option maxRecDepth 20000 in
theorem sg_Pl_worthInAll_11_45 (X : Nat × (Nat → Int32)) (d : Nat) (x2 x3 x4 : Int32) (al : List Nat) (D : Nat → Bool) (I : Nat → Nat → Int32) (L : Nat → Nat → Int64) : Rn X d co_Pl_worthInAll (45, [some (vr 49), some (vr 11), some (vi x2), some (vi x3), some (vi x4)], [], pm_mm al D I L) = Rn X d co_Pl_worthInAll (13, [some (vr 49), some (vr 11), some (vi x2), some (vi x3), some (vi (x4 + 1))], [], pm_mm al D I L) :=
  (Sg_eq X d co_Pl_worthInAll st_Pl_worthInAll 3 _).trans rfl
set_option maxRecDepth 20000 in
theorem sg_Pl_worthInAll_16_0 (X : Nat × (Nat → Int32)) (d : Nat) (o2 o3 o4 : Option pm_V) (al : List Nat) (D : Nat → Bool) (I : Nat → Nat → Int32) (L : Nat → Nat → Int64) : Rn X d co_Pl_worthInAll (0, [some (vr 49), some (vr 16), o2, o3, o4], [], pm_mm al D I L) = Rn X d co_Pl_worthInAll (4, [some (vr 49), some (vr 16), some (vi 0), some (vi 0), o4], [], pm_mm al D I L) :=
  (Sg_eq X d co_Pl_worthInAll st_Pl_worthInAll 5 _).trans rfl
set_option maxRecDepth 20000 in
theorem sg_Pl_worthInAll_16_4 (X : Nat × (Nat → Int32)) (d : Nat) (x2 x3 : Int32) (o4 : Option pm_V) (al : List Nat) (D : Nat → Bool) (I : Nat → Nat → Int32) (L : Nat → Nat → Int64) : Rn X d co_Pl_worthInAll (4, [some (vr 49), some (vr 16), some (vi x2), some (vi x3), o4], [], pm_mm al D I L) = cond (decide (12 ≤ x3)) (some (some (vi x2), pm_mm al D I L)) (Rn X d co_Pl_worthInAll (13, [some (vr 49), some (vr 16), some (vi x2), some (vi x3), some (vi 0)], [], pm_mm al D I L)) :=
  (Sg_eq X d co_Pl_worthInAll st_Pl_worthInAll 6 _).trans rfl
set_option maxRecDepth 20000 in
theorem sg_Pl_worthInAll_16_13 (X : Nat × (Nat → Int32)) (d : Nat) (x2 x3 x4 : Int32) (al : List Nat) (D : Nat → Bool) (I : Nat → Nat → Int32) (L : Nat → Nat → Int64) : Rn X d co_Pl_worthInAll (13, [some (vr 49), some (vr 16), some (vi x2), some (vi x3), some (vi x4)], [], pm_mm al D I L) = cond (decide ((I 49 3) ≤ x4)) (Rn X d co_Pl_worthInAll (4, [some (vr 49), some (vr 16), some (vi x2), some (vi (x3 + 1)), some (vi x4)], [], pm_mm al D I L)) (cond (pm_in (x3 + 1) 13) (cond (decide ((((I 57 ((x3 + 1).toNatClampNeg)) >>> (x4 &&& 31)) &&& 1) = 0)) (Rn X d co_Pl_worthInAll (45, [some (vr 49), some (vr 16), some (vi x2), some (vi x3), some (vi x4)], [], pm_mm al D I L)) (cond (pm_in x4 6) (Rn X d co_Pl_worthInAll (45, [some (vr 49), some (vr 16), some (vi (x2 + (I 16 x4.toNatClampNeg))), some (vi x3), some (vi x4)], [], pm_mm al D I L)) none)) none) :=
  (Sg_eq X d co_Pl_worthInAll st_Pl_worthInAll 22 _).trans rfl
set_option maxRecDepth 20000 in
theorem sg_Pl_worthInAll_16_45 (X : Nat × (Nat → Int32)) (d : Nat) (x2 x3 x4 : Int32) (al : List Nat) (D : Nat → Bool) (I : Nat → Nat → Int32) (L : Nat → Nat → Int64) : Rn X d co_Pl_worthInAll (45, [some (vr 49), some (vr 16), some (vi x2), some (vi x3), some (vi x4)], [], pm_mm al D I L) = Rn X d co_Pl_worthInAll (13, [some (vr 49), some (vr 16), some (vi x2), some (vi x3), some (vi (x4 + 1))], [], pm_mm al D I L) :=
  (Sg_eq X d co_Pl_worthInAll st_Pl_worthInAll 3 _).trans rfl
def st_Pl_hushFrom (pc : Nat) : Bool := cond (Nat.ble 2 pc) (cond (Nat.ble 25 pc) (cond (Nat.beq pc 25) (true) (false)) (cond (Nat.beq pc 2) (true) (false))) (cond (Nat.beq pc 0) (true) (false))
set_option maxRecDepth 20000 in
theorem sg_Pl_hushFrom_0 (X : Nat × (Nat → Int32)) (d : Nat) (x1 : Int32) (o2 : Option pm_V) (al : List Nat) (D : Nat → Bool) (I : Nat → Nat → Int32) (L : Nat → Nat → Int64) : Rn X d co_Pl_hushFrom (0, [some (vr 49), some (vi x1), o2], [], pm_mm al D I L) = Rn X d co_Pl_hushFrom (2, [some (vr 49), some (vi x1), some (vi x1)], [], pm_mm al D I L) :=
  (Sg_eq X d co_Pl_hushFrom st_Pl_hushFrom 3 _).trans rfl
set_option maxRecDepth 20000 in
theorem sg_Pl_hushFrom_2 (X : Nat × (Nat → Int32)) (d : Nat) (x1 x2 : Int32) (al : List Nat) (D : Nat → Bool) (I : Nat → Nat → Int32) (L : Nat → Nat → Int64) : Rn X d co_Pl_hushFrom (2, [some (vr 49), some (vi x1), some (vi x2)], [], pm_mm al D I L) = cond (decide (12 ≤ x2)) (Rn X d co_Pl_hushFrom (25, [some (vr 49), some (vi x1), some (vi x2)], [], pm_mm al D I L)) (cond (pm_in (x2 + 1) 13) (cond (decide ((I 57 ((x2 + 1).toNatClampNeg)) = 0)) (Rn X d co_Pl_hushFrom (2, [some (vr 49), some (vi x1), some (vi (x2 + 1))], [], pm_mm al D I L)) (Rn X d co_Pl_hushFrom (25, [some (vr 49), some (vi x1), some (vi x2)], [], pm_mm al D I L))) none) :=
  (Sg_eq X d co_Pl_hushFrom st_Pl_hushFrom 13 _).trans rfl
set_option maxRecDepth 20000 in
theorem sg_Pl_hushFrom_25 (X : Nat × (Nat → Int32)) (d : Nat) (o0 : Option pm_V) (x1 x2 : Int32) (al : List Nat) (D : Nat → Bool) (I : Nat → Nat → Int32) (L : Nat → Nat → Int64) : Rn X d co_Pl_hushFrom (25, [o0, some (vi x1), some (vi x2)], [], pm_mm al D I L) = some (some (vi (x2 - x1)), pm_mm al D I L) :=
  (Sg_eq X d co_Pl_hushFrom st_Pl_hushFrom 4 _).trans rfl
def st_Pl_hush (pc : Nat) : Bool := cond (Nat.ble 16 pc) (cond (Nat.ble 19 pc) (cond (Nat.beq pc 19) (true) (false)) (cond (Nat.beq pc 16) (true) (false))) (cond (Nat.ble 4 pc) (cond (Nat.beq pc 4) (true) (false)) (cond (Nat.beq pc 0) (true) (false)))
set_option maxRecDepth 20000 in
theorem sg_Pl_hush_0 (X : Nat × (Nat → Int32)) (d : Nat) (o1 o2 : Option pm_V) (al : List Nat) (D : Nat → Bool) (I : Nat → Nat → Int32) (L : Nat → Nat → Int64) : Rn X d co_Pl_hush (0, [some (vr 49), o1, o2], [], pm_mm al D I L) = Rn X d co_Pl_hush (4, [some (vr 49), some (vi 0), some (vi 0)], [], pm_mm al D I L) :=
  (Sg_eq X d co_Pl_hush st_Pl_hush 5 _).trans rfl
set_option maxRecDepth 20000 in
theorem sg_Pl_hush_4 (X : Nat × (Nat → Int32)) (d : Nat) (x1 x2 : Int32) (al : List Nat) (D : Nat → Bool) (I : Nat → Nat → Int32) (L : Nat → Nat → Int64) : Rn X d co_Pl_hush (4, [some (vr 49), some (vi x1), some (vi x2)], [], pm_mm al D I L) = cond (decide (12 ≤ x2)) (some (some (vi x1), pm_mm al D I L)) (((Cl X d 57 [vr 49, vi x2] (pm_mm al D I L)).bind pm_ai).bind (fun r => Rn X d co_Pl_hush (16, [some (vr 49), some (vi x1), some (vi x2)], [vi r.1, vi x1], r.2))) :=
  (Sg_eq X d co_Pl_hush st_Pl_hush 7 _).trans rfl
set_option maxRecDepth 20000 in
theorem sg_Pl_hush_16 (X : Nat × (Nat → Int32)) (d : Nat) (o1 : Option pm_V) (x2 u0 u1 : Int32) (al : List Nat) (D : Nat → Bool) (I : Nat → Nat → Int32) (L : Nat → Nat → Int64) : Rn X d co_Pl_hush (16, [some (vr 49), o1, some (vi x2)], [vi u1, vi u0], pm_mm al D I L) = ((Cl X d 4 [vi u0, vi u1] (pm_mm al D I L)).bind pm_ai).bind (fun r => Rn X d co_Pl_hush (19, [some (vr 49), o1, some (vi x2)], [vi r.1], r.2)) :=
  (Sg_eq X d co_Pl_hush st_Pl_hush 1 _).trans rfl
set_option maxRecDepth 20000 in
theorem sg_Pl_hush_19 (X : Nat × (Nat → Int32)) (d : Nat) (o1 : Option pm_V) (x2 u0 : Int32) (al : List Nat) (D : Nat → Bool) (I : Nat → Nat → Int32) (L : Nat → Nat → Int64) : Rn X d co_Pl_hush (19, [some (vr 49), o1, some (vi x2)], [vi u0], pm_mm al D I L) = Rn X d co_Pl_hush (4, [some (vr 49), some (vi u0), some (vi (x2 + 1))], [], pm_mm al D I L) :=
  (Sg_eq X d co_Pl_hush st_Pl_hush 4 _).trans rfl
def st_Pl_hushBegin (pc : Nat) : Bool := cond (Nat.ble 7 pc) (cond (Nat.ble 22 pc) (cond (Nat.ble 34 pc) (cond (Nat.beq pc 34) (true) (false)) (cond (Nat.beq pc 22) (true) (false))) (cond (Nat.beq pc 7) (true) (false))) (cond (Nat.ble 4 pc) (cond (Nat.beq pc 4) (true) (false)) (cond (Nat.beq pc 0) (true) (false)))
set_option maxRecDepth 20000 in
theorem sg_Pl_hushBegin_0 (X : Nat × (Nat → Int32)) (d : Nat) (o1 o2 : Option pm_V) (al : List Nat) (D : Nat → Bool) (I : Nat → Nat → Int32) (L : Nat → Nat → Int64) : Rn X d co_Pl_hushBegin (0, [some (vr 49), o1, o2], [], pm_mm al D I L) = ((Cl X d 58 [vr 49] (pm_mm al D I L)).bind pm_ai).bind (fun r => Rn X d co_Pl_hushBegin (4, [some (vr 49), o1, o2], [vi r.1], r.2)) :=
  (Sg_eq X d co_Pl_hushBegin st_Pl_hushBegin 2 _).trans rfl
set_option maxRecDepth 20000 in
theorem sg_Pl_hushBegin_4 (X : Nat × (Nat → Int32)) (d : Nat) (o1 o2 : Option pm_V) (u0 : Int32) (al : List Nat) (D : Nat → Bool) (I : Nat → Nat → Int32) (L : Nat → Nat → Int64) : Rn X d co_Pl_hushBegin (4, [some (vr 49), o1, o2], [vi u0], pm_mm al D I L) = Rn X d co_Pl_hushBegin (7, [some (vr 49), some (vi u0), some (vi 0)], [], pm_mm al D I L) :=
  (Sg_eq X d co_Pl_hushBegin st_Pl_hushBegin 4 _).trans rfl
set_option maxRecDepth 20000 in
theorem sg_Pl_hushBegin_7 (X : Nat × (Nat → Int32)) (d : Nat) (x1 x2 : Int32) (al : List Nat) (D : Nat → Bool) (I : Nat → Nat → Int32) (L : Nat → Nat → Int64) : Rn X d co_Pl_hushBegin (7, [some (vr 49), some (vi x1), some (vi x2)], [], pm_mm al D I L) = cond (decide (12 ≤ x2)) (Rn X d co_Pl_hushBegin (34, [some (vr 49), some (vi x1), some (vi x2)], [], pm_mm al D I L)) (cond (decide (x1 ≤ 0)) (Rn X d co_Pl_hushBegin (34, [some (vr 49), some (vi x1), some (vi x2)], [], pm_mm al D I L)) (((Cl X d 57 [vr 49, vi x2] (pm_mm al D I L)).bind pm_ai).bind (fun r => Rn X d co_Pl_hushBegin (22, [some (vr 49), some (vi x1), some (vi x2)], [vi r.1], r.2)))) :=
  (Sg_eq X d co_Pl_hushBegin st_Pl_hushBegin 8 _).trans rfl
set_option maxRecDepth 20000 in
theorem sg_Pl_hushBegin_22 (X : Nat × (Nat → Int32)) (d : Nat) (x1 x2 u0 : Int32) (al : List Nat) (D : Nat → Bool) (I : Nat → Nat → Int32) (L : Nat → Nat → Int64) : Rn X d co_Pl_hushBegin (22, [some (vr 49), some (vi x1), some (vi x2)], [vi u0], pm_mm al D I L) = cond (decide (u0 = x1)) (some (some (vi x2), pm_mm al D I L)) (Rn X d co_Pl_hushBegin (7, [some (vr 49), some (vi x1), some (vi (x2 + 1))], [], pm_mm al D I L)) :=
  (Sg_eq X d co_Pl_hushBegin st_Pl_hushBegin 5 _).trans rfl
set_option maxRecDepth 20000 in
theorem sg_Pl_hushBegin_34 (X : Nat × (Nat → Int32)) (d : Nat) (o0 o1 o2 : Option pm_V) (al : List Nat) (D : Nat → Bool) (I : Nat → Nat → Int32) (L : Nat → Nat → Int64) : Rn X d co_Pl_hushBegin (34, [o0, o1, o2], [], pm_mm al D I L) = some (some (vi (-1)), pm_mm al D I L) :=
  (Sg_eq X d co_Pl_hushBegin st_Pl_hushBegin 2 _).trans rfl
def st_Sh_init (pc : Nat) : Bool := cond (Nat.beq pc 0) (true) (false)
def st_Sh_search (pc : Nat) : Bool := cond (Nat.ble 29 pc) (cond (Nat.beq pc 29) (true) (false)) (cond (Nat.beq pc 0) (true) (false))
set_option maxRecDepth 20000 in
theorem sg_Sh_search_49_19_0 (X : Nat × (Nat → Int32)) (d : Nat) (x3 x4 : Int32) (al : List Nat) (D : Nat → Bool) (I : Nat → Nat → Int32) (L : Nat → Nat → Int64) : Rn X d co_Sh_search (0, [some (vr 60), some (vr 49), some (vr 19), some (vi x3), some (vi x4)], [], pm_mm al D I L) = ((Cl X d 88 [vr 60, vr 49, vr 19, vi 0, vi 0] (pm_mm al D (pm_up (pm_up (pm_up (pm_up I 60 2 0) 60 0 0) 60 3 x3) 60 4 x4) L)).bind pm_av).bind (fun r => Rn X d co_Sh_search (29, [some (vr 60), some (vr 49), some (vr 19), some (vi x3), some (vi x4)], [], r)) :=
  (Sg_eq X d co_Sh_search st_Sh_search 18 _).trans rfl
set_option maxRecDepth 20000 in
theorem sg_Sh_search_49_19_29 (X : Nat × (Nat → Int32)) (d : Nat) (o1 o2 o3 o4 : Option pm_V) (al : List Nat) (D : Nat → Bool) (I : Nat → Nat → Int32) (L : Nat → Nat → Int64) : Rn X d co_Sh_search (29, [some (vr 60), o1, o2, o3, o4], [], pm_mm al D I L) = cond (pm_01 (I 60 2)) (some (some (vi (I 60 2)), pm_mm al D I L)) none :=
  (Sg_eq X d co_Sh_search st_Sh_search 3 _).trans rfl
set_option maxRecDepth 20000 in
theorem sg_Sh_search_49_23_0 (X : Nat × (Nat → Int32)) (d : Nat) (x3 x4 : Int32) (al : List Nat) (D : Nat → Bool) (I : Nat → Nat → Int32) (L : Nat → Nat → Int64) : Rn X d co_Sh_search (0, [some (vr 60), some (vr 49), some (vr 23), some (vi x3), some (vi x4)], [], pm_mm al D I L) = ((Cl X d 88 [vr 60, vr 49, vr 23, vi 0, vi 0] (pm_mm al D (pm_up (pm_up (pm_up (pm_up I 60 2 0) 60 0 0) 60 3 x3) 60 4 x4) L)).bind pm_av).bind (fun r => Rn X d co_Sh_search (29, [some (vr 60), some (vr 49), some (vr 23), some (vi x3), some (vi x4)], [], r)) :=
  (Sg_eq X d co_Sh_search st_Sh_search 18 _).trans rfl
set_option maxRecDepth 20000 in
theorem sg_Sh_search_49_23_29 (X : Nat × (Nat → Int32)) (d : Nat) (o1 o2 o3 o4 : Option pm_V) (al : List Nat) (D : Nat → Bool) (I : Nat → Nat → Int32) (L : Nat → Nat → Int64) : Rn X d co_Sh_search (29, [some (vr 60), o1, o2, o3, o4], [], pm_mm al D I L) = cond (pm_01 (I 60 2)) (some (some (vi (I 60 2)), pm_mm al D I L)) none :=
  (Sg_eq X d co_Sh_search st_Sh_search 3 _).trans rfl
def st_Sh_layFrom (pc : Nat) : Bool := cond (Nat.ble 59 pc) (cond (Nat.ble 88 pc) (cond (Nat.ble 94 pc) (cond (Nat.beq pc 94) (true) (false)) (cond (Nat.beq pc 88) (true) (false))) (cond (Nat.ble 71 pc) (cond (Nat.beq pc 71) (true) (false)) (cond (Nat.beq pc 59) (true) (false)))) (cond (Nat.ble 38 pc) (cond (Nat.ble 43 pc) (cond (Nat.beq pc 43) (true) (false)) (cond (Nat.beq pc 38) (true) (false))) (cond (Nat.ble 14 pc) (cond (Nat.beq pc 14) (true) (false)) (cond (Nat.beq pc 0) (true) (false))))
set_option maxRecDepth 20000 in
theorem sg_Sh_layFrom_60_49_19_0 (X : Nat × (Nat → Int32)) (d : Nat) (x3 x4 : Int32) (o5 o6 : Option pm_V) (al : List Nat) (D : Nat → Bool) (I : Nat → Nat → Int32) (L : Nat → Nat → Int64) : Rn X d co_Sh_layFrom (0, [some (vr 60), some (vr 49), some (vr 19), some (vi x3), some (vi x4), o5, o6], [], pm_mm al D I L) = cond (decide (x3 < (I 19 0))) (cond (pm_in x3 8) (cond (pm_in x3 8) (((Cl X d 5 [vi (I 60 4), vi ((12 - (I 21 x3.toNatClampNeg)) - (I 22 x3.toNatClampNeg))] (pm_mm al D I L)).bind pm_ai).bind (fun r => Rn X d co_Sh_layFrom (38, [some (vr 60), some (vr 49), some (vr 19), some (vi x3), some (vi x4), o5, o6], [vi r.1], r.2))) none) none) (((Cl X d 89 [vr 60, vi x4] (pm_mm al D I L)).bind pm_av).bind (fun r => Rn X d co_Sh_layFrom (14, [some (vr 60), some (vr 49), some (vr 19), some (vi x3), some (vi x4), o5, o6], [], r))) :=
  (Sg_eq X d co_Sh_layFrom st_Sh_layFrom 18 _).trans rfl
set_option maxRecDepth 20000 in
theorem sg_Sh_layFrom_60_49_19_14 (X : Nat × (Nat → Int32)) (d : Nat) (o0 o1 o2 o3 o4 o5 o6 : Option pm_V) (al : List Nat) (D : Nat → Bool) (I : Nat → Nat → Int32) (L : Nat → Nat → Int64) : Rn X d co_Sh_layFrom (14, [o0, o1, o2, o3, o4, o5, o6], [], pm_mm al D I L) = some (none, pm_mm al D I L) :=
  (Sg_eq X d co_Sh_layFrom st_Sh_layFrom 1 _).trans rfl
set_option maxRecDepth 20000 in
theorem sg_Sh_layFrom_60_49_19_38 (X : Nat × (Nat → Int32)) (d : Nat) (x3 x4 : Int32) (o5 o6 : Option pm_V) (u0 : Int32) (al : List Nat) (D : Nat → Bool) (I : Nat → Nat → Int32) (L : Nat → Nat → Int64) : Rn X d co_Sh_layFrom (38, [some (vr 60), some (vr 49), some (vr 19), some (vi x3), some (vi x4), o5, o6], [vi u0], pm_mm al D I L) = Rn X d co_Sh_layFrom (43, [some (vr 60), some (vr 49), some (vr 19), some (vi x3), some (vi x4), some (vi u0), some (vi 0)], [], pm_mm al D I L) :=
  (Sg_eq X d co_Sh_layFrom st_Sh_layFrom 4 _).trans rfl
set_option maxRecDepth 20000 in
theorem sg_Sh_layFrom_60_49_19_43 (X : Nat × (Nat → Int32)) (d : Nat) (x3 x4 x5 x6 : Int32) (al : List Nat) (D : Nat → Bool) (I : Nat → Nat → Int32) (L : Nat → Nat → Int64) : Rn X d co_Sh_layFrom (43, [some (vr 60), some (vr 49), some (vr 19), some (vi x3), some (vi x4), some (vi x5), some (vi x6)], [], pm_mm al D I L) = cond (decide (x5 < x6)) (Rn X d co_Sh_layFrom (94, [some (vr 60), some (vr 49), some (vr 19), some (vi x3), some (vi x4), some (vi x5), some (vi x6)], [], pm_mm al D I L)) (((Cl X d 90 [vr 60, vi (x4 + x6)] (pm_mm al D I L)).bind pm_ai).bind (fun r => Rn X d co_Sh_layFrom (59, [some (vr 60), some (vr 49), some (vr 19), some (vi x3), some (vi x4), some (vi x5), some (vi x6)], [vi r.1], r.2))) :=
  (Sg_eq X d co_Sh_layFrom st_Sh_layFrom 8 _).trans rfl
set_option maxRecDepth 20000 in
theorem sg_Sh_layFrom_60_49_19_59 (X : Nat × (Nat → Int32)) (d : Nat) (x3 x4 x5 x6 u0 : Int32) (al : List Nat) (D : Nat → Bool) (I : Nat → Nat → Int32) (L : Nat → Nat → Int64) : Rn X d co_Sh_layFrom (59, [some (vr 60), some (vr 49), some (vr 19), some (vi x3), some (vi x4), some (vi x5), some (vi x6)], [vi u0], pm_mm al D I L) = cond (decide (u0 = 0)) (Rn X d co_Sh_layFrom (94, [some (vr 60), some (vr 49), some (vr 19), some (vi x3), some (vi x4), some (vi x5), some (vi x6)], [], pm_mm al D I L)) (((Cl X d 91 [vr 60, vr 49, vr 19, vi x3, vi x6] (pm_mm al D I L)).bind pm_ai).bind (fun r => Rn X d co_Sh_layFrom (71, [some (vr 60), some (vr 49), some (vr 19), some (vi x3), some (vi x4), some (vi x5), some (vi x6)], [vi r.1], r.2))) :=
  (Sg_eq X d co_Sh_layFrom st_Sh_layFrom 7 _).trans rfl
set_option maxRecDepth 20000 in
theorem sg_Sh_layFrom_60_49_19_71 (X : Nat × (Nat → Int32)) (d : Nat) (x3 x4 x5 x6 u0 : Int32) (al : List Nat) (D : Nat → Bool) (I : Nat → Nat → Int32) (L : Nat → Nat → Int64) : Rn X d co_Sh_layFrom (71, [some (vr 60), some (vr 49), some (vr 19), some (vi x3), some (vi x4), some (vi x5), some (vi x6)], [vi u0], pm_mm al D I L) = cond (decide (u0 = 0)) (Rn X d co_Sh_layFrom (88, [some (vr 60), some (vr 49), some (vr 19), some (vi x3), some (vi x4), some (vi x5), some (vi x6)], [], pm_mm al D I L)) (((Cl X d 88 [vr 60, vr 49, vr 19, vi (x3 + 1), vi (x4 + x6)] (pm_mm al D I L)).bind pm_av).bind (fun r => Rn X d co_Sh_layFrom (88, [some (vr 60), some (vr 49), some (vr 19), some (vi x3), some (vi x4), some (vi x5), some (vi x6)], [], r))) :=
  (Sg_eq X d co_Sh_layFrom st_Sh_layFrom 11 _).trans rfl
set_option maxRecDepth 20000 in
theorem sg_Sh_layFrom_60_49_19_88 (X : Nat × (Nat → Int32)) (d : Nat) (x3 x4 x5 x6 : Int32) (al : List Nat) (D : Nat → Bool) (I : Nat → Nat → Int32) (L : Nat → Nat → Int64) : Rn X d co_Sh_layFrom (88, [some (vr 60), some (vr 49), some (vr 19), some (vi x3), some (vi x4), some (vi x5), some (vi x6)], [], pm_mm al D I L) = Rn X d co_Sh_layFrom (43, [some (vr 60), some (vr 49), some (vr 19), some (vi x3), some (vi x4), some (vi x5), some (vi (x6 + 1))], [], pm_mm al D I L) :=
  (Sg_eq X d co_Sh_layFrom st_Sh_layFrom 3 _).trans rfl
set_option maxRecDepth 20000 in
theorem sg_Sh_layFrom_60_49_19_94 (X : Nat × (Nat → Int32)) (d : Nat) (o0 o1 o2 o3 o4 o5 o6 : Option pm_V) (al : List Nat) (D : Nat → Bool) (I : Nat → Nat → Int32) (L : Nat → Nat → Int64) : Rn X d co_Sh_layFrom (94, [o0, o1, o2, o3, o4, o5, o6], [], pm_mm al D I L) = some (none, pm_mm al D I L) :=
  (Sg_eq X d co_Sh_layFrom st_Sh_layFrom 1 _).trans rfl
set_option maxRecDepth 20000 in
theorem sg_Sh_layFrom_60_49_23_0 (X : Nat × (Nat → Int32)) (d : Nat) (x3 x4 : Int32) (o5 o6 : Option pm_V) (al : List Nat) (D : Nat → Bool) (I : Nat → Nat → Int32) (L : Nat → Nat → Int64) : Rn X d co_Sh_layFrom (0, [some (vr 60), some (vr 49), some (vr 23), some (vi x3), some (vi x4), o5, o6], [], pm_mm al D I L) = cond (decide (x3 < (I 23 0))) (cond (pm_in x3 8) (cond (pm_in x3 8) (((Cl X d 5 [vi (I 60 4), vi ((12 - (I 25 x3.toNatClampNeg)) - (I 26 x3.toNatClampNeg))] (pm_mm al D I L)).bind pm_ai).bind (fun r => Rn X d co_Sh_layFrom (38, [some (vr 60), some (vr 49), some (vr 23), some (vi x3), some (vi x4), o5, o6], [vi r.1], r.2))) none) none) (((Cl X d 89 [vr 60, vi x4] (pm_mm al D I L)).bind pm_av).bind (fun r => Rn X d co_Sh_layFrom (14, [some (vr 60), some (vr 49), some (vr 23), some (vi x3), some (vi x4), o5, o6], [], r))) :=
  (Sg_eq X d co_Sh_layFrom st_Sh_layFrom 18 _).trans rfl
set_option maxRecDepth 20000 in
theorem sg_Sh_layFrom_60_49_23_14 (X : Nat × (Nat → Int32)) (d : Nat) (o0 o1 o2 o3 o4 o5 o6 : Option pm_V) (al : List Nat) (D : Nat → Bool) (I : Nat → Nat → Int32) (L : Nat → Nat → Int64) : Rn X d co_Sh_layFrom (14, [o0, o1, o2, o3, o4, o5, o6], [], pm_mm al D I L) = some (none, pm_mm al D I L) :=
  (Sg_eq X d co_Sh_layFrom st_Sh_layFrom 1 _).trans rfl
set_option maxRecDepth 20000 in
theorem sg_Sh_layFrom_60_49_23_38 (X : Nat × (Nat → Int32)) (d : Nat) (x3 x4 : Int32) (o5 o6 : Option pm_V) (u0 : Int32) (al : List Nat) (D : Nat → Bool) (I : Nat → Nat → Int32) (L : Nat → Nat → Int64) : Rn X d co_Sh_layFrom (38, [some (vr 60), some (vr 49), some (vr 23), some (vi x3), some (vi x4), o5, o6], [vi u0], pm_mm al D I L) = Rn X d co_Sh_layFrom (43, [some (vr 60), some (vr 49), some (vr 23), some (vi x3), some (vi x4), some (vi u0), some (vi 0)], [], pm_mm al D I L) :=
  (Sg_eq X d co_Sh_layFrom st_Sh_layFrom 4 _).trans rfl
set_option maxRecDepth 20000 in
theorem sg_Sh_layFrom_60_49_23_43 (X : Nat × (Nat → Int32)) (d : Nat) (x3 x4 x5 x6 : Int32) (al : List Nat) (D : Nat → Bool) (I : Nat → Nat → Int32) (L : Nat → Nat → Int64) : Rn X d co_Sh_layFrom (43, [some (vr 60), some (vr 49), some (vr 23), some (vi x3), some (vi x4), some (vi x5), some (vi x6)], [], pm_mm al D I L) = cond (decide (x5 < x6)) (Rn X d co_Sh_layFrom (94, [some (vr 60), some (vr 49), some (vr 23), some (vi x3), some (vi x4), some (vi x5), some (vi x6)], [], pm_mm al D I L)) (((Cl X d 90 [vr 60, vi (x4 + x6)] (pm_mm al D I L)).bind pm_ai).bind (fun r => Rn X d co_Sh_layFrom (59, [some (vr 60), some (vr 49), some (vr 23), some (vi x3), some (vi x4), some (vi x5), some (vi x6)], [vi r.1], r.2))) :=
  (Sg_eq X d co_Sh_layFrom st_Sh_layFrom 8 _).trans rfl
set_option maxRecDepth 20000 in
theorem sg_Sh_layFrom_60_49_23_59 (X : Nat × (Nat → Int32)) (d : Nat) (x3 x4 x5 x6 u0 : Int32) (al : List Nat) (D : Nat → Bool) (I : Nat → Nat → Int32) (L : Nat → Nat → Int64) : Rn X d co_Sh_layFrom (59, [some (vr 60), some (vr 49), some (vr 23), some (vi x3), some (vi x4), some (vi x5), some (vi x6)], [vi u0], pm_mm al D I L) = cond (decide (u0 = 0)) (Rn X d co_Sh_layFrom (94, [some (vr 60), some (vr 49), some (vr 23), some (vi x3), some (vi x4), some (vi x5), some (vi x6)], [], pm_mm al D I L)) (((Cl X d 91 [vr 60, vr 49, vr 23, vi x3, vi x6] (pm_mm al D I L)).bind pm_ai).bind (fun r => Rn X d co_Sh_layFrom (71, [some (vr 60), some (vr 49), some (vr 23), some (vi x3), some (vi x4), some (vi x5), some (vi x6)], [vi r.1], r.2))) :=
  (Sg_eq X d co_Sh_layFrom st_Sh_layFrom 7 _).trans rfl
set_option maxRecDepth 20000 in
theorem sg_Sh_layFrom_60_49_23_71 (X : Nat × (Nat → Int32)) (d : Nat) (x3 x4 x5 x6 u0 : Int32) (al : List Nat) (D : Nat → Bool) (I : Nat → Nat → Int32) (L : Nat → Nat → Int64) : Rn X d co_Sh_layFrom (71, [some (vr 60), some (vr 49), some (vr 23), some (vi x3), some (vi x4), some (vi x5), some (vi x6)], [vi u0], pm_mm al D I L) = cond (decide (u0 = 0)) (Rn X d co_Sh_layFrom (88, [some (vr 60), some (vr 49), some (vr 23), some (vi x3), some (vi x4), some (vi x5), some (vi x6)], [], pm_mm al D I L)) (((Cl X d 88 [vr 60, vr 49, vr 23, vi (x3 + 1), vi (x4 + x6)] (pm_mm al D I L)).bind pm_av).bind (fun r => Rn X d co_Sh_layFrom (88, [some (vr 60), some (vr 49), some (vr 23), some (vi x3), some (vi x4), some (vi x5), some (vi x6)], [], r))) :=
  (Sg_eq X d co_Sh_layFrom st_Sh_layFrom 11 _).trans rfl
set_option maxRecDepth 20000 in
theorem sg_Sh_layFrom_60_49_23_88 (X : Nat × (Nat → Int32)) (d : Nat) (x3 x4 x5 x6 : Int32) (al : List Nat) (D : Nat → Bool) (I : Nat → Nat → Int32) (L : Nat → Nat → Int64) : Rn X d co_Sh_layFrom (88, [some (vr 60), some (vr 49), some (vr 23), some (vi x3), some (vi x4), some (vi x5), some (vi x6)], [], pm_mm al D I L) = Rn X d co_Sh_layFrom (43, [some (vr 60), some (vr 49), some (vr 23), some (vi x3), some (vi x4), some (vi x5), some (vi (x6 + 1))], [], pm_mm al D I L) :=
  (Sg_eq X d co_Sh_layFrom st_Sh_layFrom 3 _).trans rfl
set_option maxRecDepth 20000 in
theorem sg_Sh_layFrom_60_49_23_94 (X : Nat × (Nat → Int32)) (d : Nat) (o0 o1 o2 o3 o4 o5 o6 : Option pm_V) (al : List Nat) (D : Nat → Bool) (I : Nat → Nat → Int32) (L : Nat → Nat → Int64) : Rn X d co_Sh_layFrom (94, [o0, o1, o2, o3, o4, o5, o6], [], pm_mm al D I L) = some (none, pm_mm al D I L) :=
  (Sg_eq X d co_Sh_layFrom st_Sh_layFrom 1 _).trans rfl
def st_Sh_keepRow (pc : Nat) : Bool := cond (Nat.beq pc 0) (true) (false)
set_option maxRecDepth 20000 in
theorem sg_Sh_keepRow_0 (X : Nat × (Nat → Int32)) (d : Nat) (x1 : Int32) (al : List Nat) (D : Nat → Bool) (I : Nat → Nat → Int32) (L : Nat → Nat → Int64) : Rn X d co_Sh_keepRow (0, [some (vr 60), some (vi x1)], [], pm_mm al D I L) = some (none, pm_mm al D (pm_ups (pm_up (pm_up I 60 2 1) 60 0 x1) 61 (va_cpy (I 62) (I 61) 0 0 8)) L) :=
  (Sg_eq X d co_Sh_keepRow st_Sh_keepRow 15 _).trans rfl
def st_Sh_isBetter (pc : Nat) : Bool := cond (Nat.ble 15 pc) (cond (Nat.ble 20 pc) (cond (Nat.beq pc 20) (true) (false)) (cond (Nat.beq pc 15) (true) (false))) (cond (Nat.beq pc 0) (true) (false))
set_option maxRecDepth 20000 in
theorem sg_Sh_isBetter_0 (X : Nat × (Nat → Int32)) (d : Nat) (x1 : Int32) (al : List Nat) (D : Nat → Bool) (I : Nat → Nat → Int32) (L : Nat → Nat → Int64) : Rn X d co_Sh_isBetter (0, [some (vr 60), some (vi x1)], [], pm_mm al D I L) = cond (decide ((I 60 2) = 0)) (Rn X d co_Sh_isBetter (15, [some (vr 60), some (vi x1)], [], pm_mm al D I L)) (cond (decide ((I 60 0) ≤ x1)) (Rn X d co_Sh_isBetter (20, [some (vr 60), some (vi x1)], [vi 0], pm_mm al D I L)) (Rn X d co_Sh_isBetter (15, [some (vr 60), some (vi x1)], [], pm_mm al D I L))) :=
  (Sg_eq X d co_Sh_isBetter st_Sh_isBetter 9 _).trans rfl
set_option maxRecDepth 20000 in
theorem sg_Sh_isBetter_15 (X : Nat × (Nat → Int32)) (d : Nat) (o0 o1 : Option pm_V) (al : List Nat) (D : Nat → Bool) (I : Nat → Nat → Int32) (L : Nat → Nat → Int64) : Rn X d co_Sh_isBetter (15, [o0, o1], [], pm_mm al D I L) = Rn X d co_Sh_isBetter (20, [o0, o1], [vi 1], pm_mm al D I L) :=
  (Sg_eq X d co_Sh_isBetter st_Sh_isBetter 3 _).trans rfl
set_option maxRecDepth 20000 in
theorem sg_Sh_isBetter_20 (X : Nat × (Nat → Int32)) (d : Nat) (o0 o1 : Option pm_V) (u0 : Int32) (al : List Nat) (D : Nat → Bool) (I : Nat → Nat → Int32) (L : Nat → Nat → Int64) : Rn X d co_Sh_isBetter (20, [o0, o1], [vi u0], pm_mm al D I L) = cond (pm_01 u0) (some (some (vi u0), pm_mm al D I L)) none :=
  (Sg_eq X d co_Sh_isBetter st_Sh_isBetter 1 _).trans rfl
def st_Sh_goesOn (pc : Nat) : Bool := cond (Nat.ble 25 pc) (cond (Nat.ble 61 pc) (cond (Nat.beq pc 61) (true) (false)) (cond (Nat.beq pc 25) (true) (false))) (cond (Nat.beq pc 0) (true) (false))
set_option maxRecDepth 20000 in
theorem sg_Sh_goesOn_49_19_0_0 (X : Nat × (Nat → Int32)) (d : Nat) (x4 : Int32) (al : List Nat) (D : Nat → Bool) (I : Nat → Nat → Int32) (L : Nat → Nat → Int64) : Rn X d co_Sh_goesOn (0, [some (vr 60), some (vr 49), some (vr 19), some (vi 0), some (vi x4)], [], pm_mm al D I L) = ((Cl X d 43 [vr 49, vr 19, vi 0, vi x4] (pm_mm al D (pm_ups I 52 (va_cpy (I 64) (I 52) 0 0 12)) L)).bind pm_av).bind (fun r => Rn X d co_Sh_goesOn (25, [some (vr 60), some (vr 49), some (vr 19), some (vi 0), some (vi x4)], [], r)) :=
  (Sg_eq X d co_Sh_goesOn st_Sh_goesOn 15 _).trans rfl
set_option maxRecDepth 20000 in
theorem sg_Sh_goesOn_49_19_0_25 (X : Nat × (Nat → Int32)) (d : Nat) (o2 : Option pm_V) (x4 : Int32) (al : List Nat) (D : Nat → Bool) (I : Nat → Nat → Int32) (L : Nat → Nat → Int64) : Rn X d co_Sh_goesOn (25, [some (vr 60), some (vr 49), o2, some (vi 0), some (vi x4)], [], pm_mm al D I L) = ((Cl X d 49 [vr 49, vi (I 60 3), vi 0] (pm_mm al D (pm_up (pm_ups I 65 (va_cpy (I 52) (I 65) 0 0 12)) 62 0 x4) L)).bind pm_ai).bind (fun r => Rn X d co_Sh_goesOn (61, [some (vr 60), some (vr 49), o2, some (vi 0), some (vi x4)], [vi r.1], r.2)) :=
  (Sg_eq X d co_Sh_goesOn st_Sh_goesOn 22 _).trans rfl
set_option maxRecDepth 20000 in
theorem sg_Sh_goesOn_49_19_0_61 (X : Nat × (Nat → Int32)) (d : Nat) (o0 o1 o2 o3 o4 : Option pm_V) (u0 : Int32) (al : List Nat) (D : Nat → Bool) (I : Nat → Nat → Int32) (L : Nat → Nat → Int64) : Rn X d co_Sh_goesOn (61, [o0, o1, o2, o3, o4], [vi u0], pm_mm al D I L) = cond (pm_01 u0) (some (some (vi u0), pm_mm al D I L)) none :=
  (Sg_eq X d co_Sh_goesOn st_Sh_goesOn 1 _).trans rfl
set_option maxRecDepth 20000 in
theorem sg_Sh_goesOn_49_19_1_0 (X : Nat × (Nat → Int32)) (d : Nat) (x4 : Int32) (al : List Nat) (D : Nat → Bool) (I : Nat → Nat → Int32) (L : Nat → Nat → Int64) : Rn X d co_Sh_goesOn (0, [some (vr 60), some (vr 49), some (vr 19), some (vi 1), some (vi x4)], [], pm_mm al D I L) = ((Cl X d 43 [vr 49, vr 19, vi 1, vi x4] (pm_mm al D (pm_ups I 52 (va_cpy (I 65) (I 52) 0 0 12)) L)).bind pm_av).bind (fun r => Rn X d co_Sh_goesOn (25, [some (vr 60), some (vr 49), some (vr 19), some (vi 1), some (vi x4)], [], r)) :=
  (Sg_eq X d co_Sh_goesOn st_Sh_goesOn 15 _).trans rfl
set_option maxRecDepth 20000 in
theorem sg_Sh_goesOn_49_19_1_25 (X : Nat × (Nat → Int32)) (d : Nat) (o2 : Option pm_V) (x4 : Int32) (al : List Nat) (D : Nat → Bool) (I : Nat → Nat → Int32) (L : Nat → Nat → Int64) : Rn X d co_Sh_goesOn (25, [some (vr 60), some (vr 49), o2, some (vi 1), some (vi x4)], [], pm_mm al D I L) = ((Cl X d 49 [vr 49, vi (I 60 3), vi 0] (pm_mm al D (pm_up (pm_ups I 66 (va_cpy (I 52) (I 66) 0 0 12)) 62 1 x4) L)).bind pm_ai).bind (fun r => Rn X d co_Sh_goesOn (61, [some (vr 60), some (vr 49), o2, some (vi 1), some (vi x4)], [vi r.1], r.2)) :=
  (Sg_eq X d co_Sh_goesOn st_Sh_goesOn 22 _).trans rfl
set_option maxRecDepth 20000 in
theorem sg_Sh_goesOn_49_19_1_61 (X : Nat × (Nat → Int32)) (d : Nat) (o0 o1 o2 o3 o4 : Option pm_V) (u0 : Int32) (al : List Nat) (D : Nat → Bool) (I : Nat → Nat → Int32) (L : Nat → Nat → Int64) : Rn X d co_Sh_goesOn (61, [o0, o1, o2, o3, o4], [vi u0], pm_mm al D I L) = cond (pm_01 u0) (some (some (vi u0), pm_mm al D I L)) none :=
  (Sg_eq X d co_Sh_goesOn st_Sh_goesOn 1 _).trans rfl
set_option maxRecDepth 20000 in
theorem sg_Sh_goesOn_49_19_2_0 (X : Nat × (Nat → Int32)) (d : Nat) (x4 : Int32) (al : List Nat) (D : Nat → Bool) (I : Nat → Nat → Int32) (L : Nat → Nat → Int64) : Rn X d co_Sh_goesOn (0, [some (vr 60), some (vr 49), some (vr 19), some (vi 2), some (vi x4)], [], pm_mm al D I L) = ((Cl X d 43 [vr 49, vr 19, vi 2, vi x4] (pm_mm al D (pm_ups I 52 (va_cpy (I 66) (I 52) 0 0 12)) L)).bind pm_av).bind (fun r => Rn X d co_Sh_goesOn (25, [some (vr 60), some (vr 49), some (vr 19), some (vi 2), some (vi x4)], [], r)) :=
  (Sg_eq X d co_Sh_goesOn st_Sh_goesOn 15 _).trans rfl
set_option maxRecDepth 20000 in
theorem sg_Sh_goesOn_49_19_2_25 (X : Nat × (Nat → Int32)) (d : Nat) (o2 : Option pm_V) (x4 : Int32) (al : List Nat) (D : Nat → Bool) (I : Nat → Nat → Int32) (L : Nat → Nat → Int64) : Rn X d co_Sh_goesOn (25, [some (vr 60), some (vr 49), o2, some (vi 2), some (vi x4)], [], pm_mm al D I L) = ((Cl X d 49 [vr 49, vi (I 60 3), vi 0] (pm_mm al D (pm_up (pm_ups I 67 (va_cpy (I 52) (I 67) 0 0 12)) 62 2 x4) L)).bind pm_ai).bind (fun r => Rn X d co_Sh_goesOn (61, [some (vr 60), some (vr 49), o2, some (vi 2), some (vi x4)], [vi r.1], r.2)) :=
  (Sg_eq X d co_Sh_goesOn st_Sh_goesOn 22 _).trans rfl
set_option maxRecDepth 20000 in
theorem sg_Sh_goesOn_49_19_2_61 (X : Nat × (Nat → Int32)) (d : Nat) (o0 o1 o2 o3 o4 : Option pm_V) (u0 : Int32) (al : List Nat) (D : Nat → Bool) (I : Nat → Nat → Int32) (L : Nat → Nat → Int64) : Rn X d co_Sh_goesOn (61, [o0, o1, o2, o3, o4], [vi u0], pm_mm al D I L) = cond (pm_01 u0) (some (some (vi u0), pm_mm al D I L)) none :=
  (Sg_eq X d co_Sh_goesOn st_Sh_goesOn 1 _).trans rfl
set_option maxRecDepth 20000 in
theorem sg_Sh_goesOn_49_19_3_0 (X : Nat × (Nat → Int32)) (d : Nat) (x4 : Int32) (al : List Nat) (D : Nat → Bool) (I : Nat → Nat → Int32) (L : Nat → Nat → Int64) : Rn X d co_Sh_goesOn (0, [some (vr 60), some (vr 49), some (vr 19), some (vi 3), some (vi x4)], [], pm_mm al D I L) = ((Cl X d 43 [vr 49, vr 19, vi 3, vi x4] (pm_mm al D (pm_ups I 52 (va_cpy (I 67) (I 52) 0 0 12)) L)).bind pm_av).bind (fun r => Rn X d co_Sh_goesOn (25, [some (vr 60), some (vr 49), some (vr 19), some (vi 3), some (vi x4)], [], r)) :=
  (Sg_eq X d co_Sh_goesOn st_Sh_goesOn 15 _).trans rfl
set_option maxRecDepth 20000 in
theorem sg_Sh_goesOn_49_19_3_25 (X : Nat × (Nat → Int32)) (d : Nat) (o2 : Option pm_V) (x4 : Int32) (al : List Nat) (D : Nat → Bool) (I : Nat → Nat → Int32) (L : Nat → Nat → Int64) : Rn X d co_Sh_goesOn (25, [some (vr 60), some (vr 49), o2, some (vi 3), some (vi x4)], [], pm_mm al D I L) = ((Cl X d 49 [vr 49, vi (I 60 3), vi 0] (pm_mm al D (pm_up (pm_ups I 68 (va_cpy (I 52) (I 68) 0 0 12)) 62 3 x4) L)).bind pm_ai).bind (fun r => Rn X d co_Sh_goesOn (61, [some (vr 60), some (vr 49), o2, some (vi 3), some (vi x4)], [vi r.1], r.2)) :=
  (Sg_eq X d co_Sh_goesOn st_Sh_goesOn 22 _).trans rfl
set_option maxRecDepth 20000 in
theorem sg_Sh_goesOn_49_19_3_61 (X : Nat × (Nat → Int32)) (d : Nat) (o0 o1 o2 o3 o4 : Option pm_V) (u0 : Int32) (al : List Nat) (D : Nat → Bool) (I : Nat → Nat → Int32) (L : Nat → Nat → Int64) : Rn X d co_Sh_goesOn (61, [o0, o1, o2, o3, o4], [vi u0], pm_mm al D I L) = cond (pm_01 u0) (some (some (vi u0), pm_mm al D I L)) none :=
  (Sg_eq X d co_Sh_goesOn st_Sh_goesOn 1 _).trans rfl
set_option maxRecDepth 20000 in
theorem sg_Sh_goesOn_49_19_4_0 (X : Nat × (Nat → Int32)) (d : Nat) (x4 : Int32) (al : List Nat) (D : Nat → Bool) (I : Nat → Nat → Int32) (L : Nat → Nat → Int64) : Rn X d co_Sh_goesOn (0, [some (vr 60), some (vr 49), some (vr 19), some (vi 4), some (vi x4)], [], pm_mm al D I L) = ((Cl X d 43 [vr 49, vr 19, vi 4, vi x4] (pm_mm al D (pm_ups I 52 (va_cpy (I 68) (I 52) 0 0 12)) L)).bind pm_av).bind (fun r => Rn X d co_Sh_goesOn (25, [some (vr 60), some (vr 49), some (vr 19), some (vi 4), some (vi x4)], [], r)) :=
  (Sg_eq X d co_Sh_goesOn st_Sh_goesOn 15 _).trans rfl
set_option maxRecDepth 20000 in
theorem sg_Sh_goesOn_49_19_4_25 (X : Nat × (Nat → Int32)) (d : Nat) (o2 : Option pm_V) (x4 : Int32) (al : List Nat) (D : Nat → Bool) (I : Nat → Nat → Int32) (L : Nat → Nat → Int64) : Rn X d co_Sh_goesOn (25, [some (vr 60), some (vr 49), o2, some (vi 4), some (vi x4)], [], pm_mm al D I L) = ((Cl X d 49 [vr 49, vi (I 60 3), vi 0] (pm_mm al D (pm_up (pm_ups I 69 (va_cpy (I 52) (I 69) 0 0 12)) 62 4 x4) L)).bind pm_ai).bind (fun r => Rn X d co_Sh_goesOn (61, [some (vr 60), some (vr 49), o2, some (vi 4), some (vi x4)], [vi r.1], r.2)) :=
  (Sg_eq X d co_Sh_goesOn st_Sh_goesOn 22 _).trans rfl
set_option maxRecDepth 20000 in
theorem sg_Sh_goesOn_49_19_4_61 (X : Nat × (Nat → Int32)) (d : Nat) (o0 o1 o2 o3 o4 : Option pm_V) (u0 : Int32) (al : List Nat) (D : Nat → Bool) (I : Nat → Nat → Int32) (L : Nat → Nat → Int64) : Rn X d co_Sh_goesOn (61, [o0, o1, o2, o3, o4], [vi u0], pm_mm al D I L) = cond (pm_01 u0) (some (some (vi u0), pm_mm al D I L)) none :=
  (Sg_eq X d co_Sh_goesOn st_Sh_goesOn 1 _).trans rfl
set_option maxRecDepth 20000 in
theorem sg_Sh_goesOn_49_19_5_0 (X : Nat × (Nat → Int32)) (d : Nat) (x4 : Int32) (al : List Nat) (D : Nat → Bool) (I : Nat → Nat → Int32) (L : Nat → Nat → Int64) : Rn X d co_Sh_goesOn (0, [some (vr 60), some (vr 49), some (vr 19), some (vi 5), some (vi x4)], [], pm_mm al D I L) = ((Cl X d 43 [vr 49, vr 19, vi 5, vi x4] (pm_mm al D (pm_ups I 52 (va_cpy (I 69) (I 52) 0 0 12)) L)).bind pm_av).bind (fun r => Rn X d co_Sh_goesOn (25, [some (vr 60), some (vr 49), some (vr 19), some (vi 5), some (vi x4)], [], r)) :=
  (Sg_eq X d co_Sh_goesOn st_Sh_goesOn 15 _).trans rfl
set_option maxRecDepth 20000 in
theorem sg_Sh_goesOn_49_19_5_25 (X : Nat × (Nat → Int32)) (d : Nat) (o2 : Option pm_V) (x4 : Int32) (al : List Nat) (D : Nat → Bool) (I : Nat → Nat → Int32) (L : Nat → Nat → Int64) : Rn X d co_Sh_goesOn (25, [some (vr 60), some (vr 49), o2, some (vi 5), some (vi x4)], [], pm_mm al D I L) = ((Cl X d 49 [vr 49, vi (I 60 3), vi 0] (pm_mm al D (pm_up (pm_ups I 70 (va_cpy (I 52) (I 70) 0 0 12)) 62 5 x4) L)).bind pm_ai).bind (fun r => Rn X d co_Sh_goesOn (61, [some (vr 60), some (vr 49), o2, some (vi 5), some (vi x4)], [vi r.1], r.2)) :=
  (Sg_eq X d co_Sh_goesOn st_Sh_goesOn 22 _).trans rfl
set_option maxRecDepth 20000 in
theorem sg_Sh_goesOn_49_19_5_61 (X : Nat × (Nat → Int32)) (d : Nat) (o0 o1 o2 o3 o4 : Option pm_V) (u0 : Int32) (al : List Nat) (D : Nat → Bool) (I : Nat → Nat → Int32) (L : Nat → Nat → Int64) : Rn X d co_Sh_goesOn (61, [o0, o1, o2, o3, o4], [vi u0], pm_mm al D I L) = cond (pm_01 u0) (some (some (vi u0), pm_mm al D I L)) none :=
  (Sg_eq X d co_Sh_goesOn st_Sh_goesOn 1 _).trans rfl
set_option maxRecDepth 20000 in
theorem sg_Sh_goesOn_49_19_6_0 (X : Nat × (Nat → Int32)) (d : Nat) (x4 : Int32) (al : List Nat) (D : Nat → Bool) (I : Nat → Nat → Int32) (L : Nat → Nat → Int64) : Rn X d co_Sh_goesOn (0, [some (vr 60), some (vr 49), some (vr 19), some (vi 6), some (vi x4)], [], pm_mm al D I L) = ((Cl X d 43 [vr 49, vr 19, vi 6, vi x4] (pm_mm al D (pm_ups I 52 (va_cpy (I 70) (I 52) 0 0 12)) L)).bind pm_av).bind (fun r => Rn X d co_Sh_goesOn (25, [some (vr 60), some (vr 49), some (vr 19), some (vi 6), some (vi x4)], [], r)) :=
  (Sg_eq X d co_Sh_goesOn st_Sh_goesOn 15 _).trans rfl
set_option maxRecDepth 20000 in
theorem sg_Sh_goesOn_49_19_6_25 (X : Nat × (Nat → Int32)) (d : Nat) (o2 : Option pm_V) (x4 : Int32) (al : List Nat) (D : Nat → Bool) (I : Nat → Nat → Int32) (L : Nat → Nat → Int64) : Rn X d co_Sh_goesOn (25, [some (vr 60), some (vr 49), o2, some (vi 6), some (vi x4)], [], pm_mm al D I L) = ((Cl X d 49 [vr 49, vi (I 60 3), vi 0] (pm_mm al D (pm_up (pm_ups I 71 (va_cpy (I 52) (I 71) 0 0 12)) 62 6 x4) L)).bind pm_ai).bind (fun r => Rn X d co_Sh_goesOn (61, [some (vr 60), some (vr 49), o2, some (vi 6), some (vi x4)], [vi r.1], r.2)) :=
  (Sg_eq X d co_Sh_goesOn st_Sh_goesOn 22 _).trans rfl
set_option maxRecDepth 20000 in
theorem sg_Sh_goesOn_49_19_6_61 (X : Nat × (Nat → Int32)) (d : Nat) (o0 o1 o2 o3 o4 : Option pm_V) (u0 : Int32) (al : List Nat) (D : Nat → Bool) (I : Nat → Nat → Int32) (L : Nat → Nat → Int64) : Rn X d co_Sh_goesOn (61, [o0, o1, o2, o3, o4], [vi u0], pm_mm al D I L) = cond (pm_01 u0) (some (some (vi u0), pm_mm al D I L)) none :=
  (Sg_eq X d co_Sh_goesOn st_Sh_goesOn 1 _).trans rfl
set_option maxRecDepth 20000 in
theorem sg_Sh_goesOn_49_19_7_0 (X : Nat × (Nat → Int32)) (d : Nat) (x4 : Int32) (al : List Nat) (D : Nat → Bool) (I : Nat → Nat → Int32) (L : Nat → Nat → Int64) : Rn X d co_Sh_goesOn (0, [some (vr 60), some (vr 49), some (vr 19), some (vi 7), some (vi x4)], [], pm_mm al D I L) = ((Cl X d 43 [vr 49, vr 19, vi 7, vi x4] (pm_mm al D (pm_ups I 52 (va_cpy (I 71) (I 52) 0 0 12)) L)).bind pm_av).bind (fun r => Rn X d co_Sh_goesOn (25, [some (vr 60), some (vr 49), some (vr 19), some (vi 7), some (vi x4)], [], r)) :=
  (Sg_eq X d co_Sh_goesOn st_Sh_goesOn 15 _).trans rfl
set_option maxRecDepth 20000 in
theorem sg_Sh_goesOn_49_19_7_25 (X : Nat × (Nat → Int32)) (d : Nat) (o2 : Option pm_V) (x4 : Int32) (al : List Nat) (D : Nat → Bool) (I : Nat → Nat → Int32) (L : Nat → Nat → Int64) : Rn X d co_Sh_goesOn (25, [some (vr 60), some (vr 49), o2, some (vi 7), some (vi x4)], [], pm_mm al D I L) = ((Cl X d 49 [vr 49, vi (I 60 3), vi 0] (pm_mm al D (pm_up (pm_ups I 72 (va_cpy (I 52) (I 72) 0 0 12)) 62 7 x4) L)).bind pm_ai).bind (fun r => Rn X d co_Sh_goesOn (61, [some (vr 60), some (vr 49), o2, some (vi 7), some (vi x4)], [vi r.1], r.2)) :=
  (Sg_eq X d co_Sh_goesOn st_Sh_goesOn 22 _).trans rfl
set_option maxRecDepth 20000 in
theorem sg_Sh_goesOn_49_19_7_61 (X : Nat × (Nat → Int32)) (d : Nat) (o0 o1 o2 o3 o4 : Option pm_V) (u0 : Int32) (al : List Nat) (D : Nat → Bool) (I : Nat → Nat → Int32) (L : Nat → Nat → Int64) : Rn X d co_Sh_goesOn (61, [o0, o1, o2, o3, o4], [vi u0], pm_mm al D I L) = cond (pm_01 u0) (some (some (vi u0), pm_mm al D I L)) none :=
  (Sg_eq X d co_Sh_goesOn st_Sh_goesOn 1 _).trans rfl
set_option maxRecDepth 20000 in
theorem sg_Sh_goesOn_49_23_0_0 (X : Nat × (Nat → Int32)) (d : Nat) (x4 : Int32) (al : List Nat) (D : Nat → Bool) (I : Nat → Nat → Int32) (L : Nat → Nat → Int64) : Rn X d co_Sh_goesOn (0, [some (vr 60), some (vr 49), some (vr 23), some (vi 0), some (vi x4)], [], pm_mm al D I L) = ((Cl X d 43 [vr 49, vr 23, vi 0, vi x4] (pm_mm al D (pm_ups I 52 (va_cpy (I 64) (I 52) 0 0 12)) L)).bind pm_av).bind (fun r => Rn X d co_Sh_goesOn (25, [some (vr 60), some (vr 49), some (vr 23), some (vi 0), some (vi x4)], [], r)) :=
  (Sg_eq X d co_Sh_goesOn st_Sh_goesOn 15 _).trans rfl
set_option maxRecDepth 20000 in
theorem sg_Sh_goesOn_49_23_0_25 (X : Nat × (Nat → Int32)) (d : Nat) (o2 : Option pm_V) (x4 : Int32) (al : List Nat) (D : Nat → Bool) (I : Nat → Nat → Int32) (L : Nat → Nat → Int64) : Rn X d co_Sh_goesOn (25, [some (vr 60), some (vr 49), o2, some (vi 0), some (vi x4)], [], pm_mm al D I L) = ((Cl X d 49 [vr 49, vi (I 60 3), vi 0] (pm_mm al D (pm_up (pm_ups I 65 (va_cpy (I 52) (I 65) 0 0 12)) 62 0 x4) L)).bind pm_ai).bind (fun r => Rn X d co_Sh_goesOn (61, [some (vr 60), some (vr 49), o2, some (vi 0), some (vi x4)], [vi r.1], r.2)) :=
  (Sg_eq X d co_Sh_goesOn st_Sh_goesOn 22 _).trans rfl
set_option maxRecDepth 20000 in
theorem sg_Sh_goesOn_49_23_0_61 (X : Nat × (Nat → Int32)) (d : Nat) (o0 o1 o2 o3 o4 : Option pm_V) (u0 : Int32) (al : List Nat) (D : Nat → Bool) (I : Nat → Nat → Int32) (L : Nat → Nat → Int64) : Rn X d co_Sh_goesOn (61, [o0, o1, o2, o3, o4], [vi u0], pm_mm al D I L) = cond (pm_01 u0) (some (some (vi u0), pm_mm al D I L)) none :=
  (Sg_eq X d co_Sh_goesOn st_Sh_goesOn 1 _).trans rfl
set_option maxRecDepth 20000 in
theorem sg_Sh_goesOn_49_23_1_0 (X : Nat × (Nat → Int32)) (d : Nat) (x4 : Int32) (al : List Nat) (D : Nat → Bool) (I : Nat → Nat → Int32) (L : Nat → Nat → Int64) : Rn X d co_Sh_goesOn (0, [some (vr 60), some (vr 49), some (vr 23), some (vi 1), some (vi x4)], [], pm_mm al D I L) = ((Cl X d 43 [vr 49, vr 23, vi 1, vi x4] (pm_mm al D (pm_ups I 52 (va_cpy (I 65) (I 52) 0 0 12)) L)).bind pm_av).bind (fun r => Rn X d co_Sh_goesOn (25, [some (vr 60), some (vr 49), some (vr 23), some (vi 1), some (vi x4)], [], r)) :=
  (Sg_eq X d co_Sh_goesOn st_Sh_goesOn 15 _).trans rfl
set_option maxRecDepth 20000 in
theorem sg_Sh_goesOn_49_23_1_25 (X : Nat × (Nat → Int32)) (d : Nat) (o2 : Option pm_V) (x4 : Int32) (al : List Nat) (D : Nat → Bool) (I : Nat → Nat → Int32) (L : Nat → Nat → Int64) : Rn X d co_Sh_goesOn (25, [some (vr 60), some (vr 49), o2, some (vi 1), some (vi x4)], [], pm_mm al D I L) = ((Cl X d 49 [vr 49, vi (I 60 3), vi 0] (pm_mm al D (pm_up (pm_ups I 66 (va_cpy (I 52) (I 66) 0 0 12)) 62 1 x4) L)).bind pm_ai).bind (fun r => Rn X d co_Sh_goesOn (61, [some (vr 60), some (vr 49), o2, some (vi 1), some (vi x4)], [vi r.1], r.2)) :=
  (Sg_eq X d co_Sh_goesOn st_Sh_goesOn 22 _).trans rfl
set_option maxRecDepth 20000 in
theorem sg_Sh_goesOn_49_23_1_61 (X : Nat × (Nat → Int32)) (d : Nat) (o0 o1 o2 o3 o4 : Option pm_V) (u0 : Int32) (al : List Nat) (D : Nat → Bool) (I : Nat → Nat → Int32) (L : Nat → Nat → Int64) : Rn X d co_Sh_goesOn (61, [o0, o1, o2, o3, o4], [vi u0], pm_mm al D I L) = cond (pm_01 u0) (some (some (vi u0), pm_mm al D I L)) none :=
  (Sg_eq X d co_Sh_goesOn st_Sh_goesOn 1 _).trans rfl
set_option maxRecDepth 20000 in
theorem sg_Sh_goesOn_49_23_2_0 (X : Nat × (Nat → Int32)) (d : Nat) (x4 : Int32) (al : List Nat) (D : Nat → Bool) (I : Nat → Nat → Int32) (L : Nat → Nat → Int64) : Rn X d co_Sh_goesOn (0, [some (vr 60), some (vr 49), some (vr 23), some (vi 2), some (vi x4)], [], pm_mm al D I L) = ((Cl X d 43 [vr 49, vr 23, vi 2, vi x4] (pm_mm al D (pm_ups I 52 (va_cpy (I 66) (I 52) 0 0 12)) L)).bind pm_av).bind (fun r => Rn X d co_Sh_goesOn (25, [some (vr 60), some (vr 49), some (vr 23), some (vi 2), some (vi x4)], [], r)) :=
  (Sg_eq X d co_Sh_goesOn st_Sh_goesOn 15 _).trans rfl
set_option maxRecDepth 20000 in
theorem sg_Sh_goesOn_49_23_2_25 (X : Nat × (Nat → Int32)) (d : Nat) (o2 : Option pm_V) (x4 : Int32) (al : List Nat) (D : Nat → Bool) (I : Nat → Nat → Int32) (L : Nat → Nat → Int64) : Rn X d co_Sh_goesOn (25, [some (vr 60), some (vr 49), o2, some (vi 2), some (vi x4)], [], pm_mm al D I L) = ((Cl X d 49 [vr 49, vi (I 60 3), vi 0] (pm_mm al D (pm_up (pm_ups I 67 (va_cpy (I 52) (I 67) 0 0 12)) 62 2 x4) L)).bind pm_ai).bind (fun r => Rn X d co_Sh_goesOn (61, [some (vr 60), some (vr 49), o2, some (vi 2), some (vi x4)], [vi r.1], r.2)) :=
  (Sg_eq X d co_Sh_goesOn st_Sh_goesOn 22 _).trans rfl
set_option maxRecDepth 20000 in
theorem sg_Sh_goesOn_49_23_2_61 (X : Nat × (Nat → Int32)) (d : Nat) (o0 o1 o2 o3 o4 : Option pm_V) (u0 : Int32) (al : List Nat) (D : Nat → Bool) (I : Nat → Nat → Int32) (L : Nat → Nat → Int64) : Rn X d co_Sh_goesOn (61, [o0, o1, o2, o3, o4], [vi u0], pm_mm al D I L) = cond (pm_01 u0) (some (some (vi u0), pm_mm al D I L)) none :=
  (Sg_eq X d co_Sh_goesOn st_Sh_goesOn 1 _).trans rfl
set_option maxRecDepth 20000 in
theorem sg_Sh_goesOn_49_23_3_0 (X : Nat × (Nat → Int32)) (d : Nat) (x4 : Int32) (al : List Nat) (D : Nat → Bool) (I : Nat → Nat → Int32) (L : Nat → Nat → Int64) : Rn X d co_Sh_goesOn (0, [some (vr 60), some (vr 49), some (vr 23), some (vi 3), some (vi x4)], [], pm_mm al D I L) = ((Cl X d 43 [vr 49, vr 23, vi 3, vi x4] (pm_mm al D (pm_ups I 52 (va_cpy (I 67) (I 52) 0 0 12)) L)).bind pm_av).bind (fun r => Rn X d co_Sh_goesOn (25, [some (vr 60), some (vr 49), some (vr 23), some (vi 3), some (vi x4)], [], r)) :=
  (Sg_eq X d co_Sh_goesOn st_Sh_goesOn 15 _).trans rfl
set_option maxRecDepth 20000 in
theorem sg_Sh_goesOn_49_23_3_25 (X : Nat × (Nat → Int32)) (d : Nat) (o2 : Option pm_V) (x4 : Int32) (al : List Nat) (D : Nat → Bool) (I : Nat → Nat → Int32) (L : Nat → Nat → Int64) : Rn X d co_Sh_goesOn (25, [some (vr 60), some (vr 49), o2, some (vi 3), some (vi x4)], [], pm_mm al D I L) = ((Cl X d 49 [vr 49, vi (I 60 3), vi 0] (pm_mm al D (pm_up (pm_ups I 68 (va_cpy (I 52) (I 68) 0 0 12)) 62 3 x4) L)).bind pm_ai).bind (fun r => Rn X d co_Sh_goesOn (61, [some (vr 60), some (vr 49), o2, some (vi 3), some (vi x4)], [vi r.1], r.2)) :=
  (Sg_eq X d co_Sh_goesOn st_Sh_goesOn 22 _).trans rfl
set_option maxRecDepth 20000 in
theorem sg_Sh_goesOn_49_23_3_61 (X : Nat × (Nat → Int32)) (d : Nat) (o0 o1 o2 o3 o4 : Option pm_V) (u0 : Int32) (al : List Nat) (D : Nat → Bool) (I : Nat → Nat → Int32) (L : Nat → Nat → Int64) : Rn X d co_Sh_goesOn (61, [o0, o1, o2, o3, o4], [vi u0], pm_mm al D I L) = cond (pm_01 u0) (some (some (vi u0), pm_mm al D I L)) none :=
  (Sg_eq X d co_Sh_goesOn st_Sh_goesOn 1 _).trans rfl
set_option maxRecDepth 20000 in
theorem sg_Sh_goesOn_49_23_4_0 (X : Nat × (Nat → Int32)) (d : Nat) (x4 : Int32) (al : List Nat) (D : Nat → Bool) (I : Nat → Nat → Int32) (L : Nat → Nat → Int64) : Rn X d co_Sh_goesOn (0, [some (vr 60), some (vr 49), some (vr 23), some (vi 4), some (vi x4)], [], pm_mm al D I L) = ((Cl X d 43 [vr 49, vr 23, vi 4, vi x4] (pm_mm al D (pm_ups I 52 (va_cpy (I 68) (I 52) 0 0 12)) L)).bind pm_av).bind (fun r => Rn X d co_Sh_goesOn (25, [some (vr 60), some (vr 49), some (vr 23), some (vi 4), some (vi x4)], [], r)) :=
  (Sg_eq X d co_Sh_goesOn st_Sh_goesOn 15 _).trans rfl
set_option maxRecDepth 20000 in
theorem sg_Sh_goesOn_49_23_4_25 (X : Nat × (Nat → Int32)) (d : Nat) (o2 : Option pm_V) (x4 : Int32) (al : List Nat) (D : Nat → Bool) (I : Nat → Nat → Int32) (L : Nat → Nat → Int64) : Rn X d co_Sh_goesOn (25, [some (vr 60), some (vr 49), o2, some (vi 4), some (vi x4)], [], pm_mm al D I L) = ((Cl X d 49 [vr 49, vi (I 60 3), vi 0] (pm_mm al D (pm_up (pm_ups I 69 (va_cpy (I 52) (I 69) 0 0 12)) 62 4 x4) L)).bind pm_ai).bind (fun r => Rn X d co_Sh_goesOn (61, [some (vr 60), some (vr 49), o2, some (vi 4), some (vi x4)], [vi r.1], r.2)) :=
  (Sg_eq X d co_Sh_goesOn st_Sh_goesOn 22 _).trans rfl
set_option maxRecDepth 20000 in
theorem sg_Sh_goesOn_49_23_4_61 (X : Nat × (Nat → Int32)) (d : Nat) (o0 o1 o2 o3 o4 : Option pm_V) (u0 : Int32) (al : List Nat) (D : Nat → Bool) (I : Nat → Nat → Int32) (L : Nat → Nat → Int64) : Rn X d co_Sh_goesOn (61, [o0, o1, o2, o3, o4], [vi u0], pm_mm al D I L) = cond (pm_01 u0) (some (some (vi u0), pm_mm al D I L)) none :=
  (Sg_eq X d co_Sh_goesOn st_Sh_goesOn 1 _).trans rfl
set_option maxRecDepth 20000 in
theorem sg_Sh_goesOn_49_23_5_0 (X : Nat × (Nat → Int32)) (d : Nat) (x4 : Int32) (al : List Nat) (D : Nat → Bool) (I : Nat → Nat → Int32) (L : Nat → Nat → Int64) : Rn X d co_Sh_goesOn (0, [some (vr 60), some (vr 49), some (vr 23), some (vi 5), some (vi x4)], [], pm_mm al D I L) = ((Cl X d 43 [vr 49, vr 23, vi 5, vi x4] (pm_mm al D (pm_ups I 52 (va_cpy (I 69) (I 52) 0 0 12)) L)).bind pm_av).bind (fun r => Rn X d co_Sh_goesOn (25, [some (vr 60), some (vr 49), some (vr 23), some (vi 5), some (vi x4)], [], r)) :=
  (Sg_eq X d co_Sh_goesOn st_Sh_goesOn 15 _).trans rfl
set_option maxRecDepth 20000 in
theorem sg_Sh_goesOn_49_23_5_25 (X : Nat × (Nat → Int32)) (d : Nat) (o2 : Option pm_V) (x4 : Int32) (al : List Nat) (D : Nat → Bool) (I : Nat → Nat → Int32) (L : Nat → Nat → Int64) : Rn X d co_Sh_goesOn (25, [some (vr 60), some (vr 49), o2, some (vi 5), some (vi x4)], [], pm_mm al D I L) = ((Cl X d 49 [vr 49, vi (I 60 3), vi 0] (pm_mm al D (pm_up (pm_ups I 70 (va_cpy (I 52) (I 70) 0 0 12)) 62 5 x4) L)).bind pm_ai).bind (fun r => Rn X d co_Sh_goesOn (61, [some (vr 60), some (vr 49), o2, some (vi 5), some (vi x4)], [vi r.1], r.2)) :=
  (Sg_eq X d co_Sh_goesOn st_Sh_goesOn 22 _).trans rfl
set_option maxRecDepth 20000 in
theorem sg_Sh_goesOn_49_23_5_61 (X : Nat × (Nat → Int32)) (d : Nat) (o0 o1 o2 o3 o4 : Option pm_V) (u0 : Int32) (al : List Nat) (D : Nat → Bool) (I : Nat → Nat → Int32) (L : Nat → Nat → Int64) : Rn X d co_Sh_goesOn (61, [o0, o1, o2, o3, o4], [vi u0], pm_mm al D I L) = cond (pm_01 u0) (some (some (vi u0), pm_mm al D I L)) none :=
  (Sg_eq X d co_Sh_goesOn st_Sh_goesOn 1 _).trans rfl
set_option maxRecDepth 20000 in
theorem sg_Sh_goesOn_49_23_6_0 (X : Nat × (Nat → Int32)) (d : Nat) (x4 : Int32) (al : List Nat) (D : Nat → Bool) (I : Nat → Nat → Int32) (L : Nat → Nat → Int64) : Rn X d co_Sh_goesOn (0, [some (vr 60), some (vr 49), some (vr 23), some (vi 6), some (vi x4)], [], pm_mm al D I L) = ((Cl X d 43 [vr 49, vr 23, vi 6, vi x4] (pm_mm al D (pm_ups I 52 (va_cpy (I 70) (I 52) 0 0 12)) L)).bind pm_av).bind (fun r => Rn X d co_Sh_goesOn (25, [some (vr 60), some (vr 49), some (vr 23), some (vi 6), some (vi x4)], [], r)) :=
  (Sg_eq X d co_Sh_goesOn st_Sh_goesOn 15 _).trans rfl
set_option maxRecDepth 20000 in
theorem sg_Sh_goesOn_49_23_6_25 (X : Nat × (Nat → Int32)) (d : Nat) (o2 : Option pm_V) (x4 : Int32) (al : List Nat) (D : Nat → Bool) (I : Nat → Nat → Int32) (L : Nat → Nat → Int64) : Rn X d co_Sh_goesOn (25, [some (vr 60), some (vr 49), o2, some (vi 6), some (vi x4)], [], pm_mm al D I L) = ((Cl X d 49 [vr 49, vi (I 60 3), vi 0] (pm_mm al D (pm_up (pm_ups I 71 (va_cpy (I 52) (I 71) 0 0 12)) 62 6 x4) L)).bind pm_ai).bind (fun r => Rn X d co_Sh_goesOn (61, [some (vr 60), some (vr 49), o2, some (vi 6), some (vi x4)], [vi r.1], r.2)) :=
  (Sg_eq X d co_Sh_goesOn st_Sh_goesOn 22 _).trans rfl
set_option maxRecDepth 20000 in
theorem sg_Sh_goesOn_49_23_6_61 (X : Nat × (Nat → Int32)) (d : Nat) (o0 o1 o2 o3 o4 : Option pm_V) (u0 : Int32) (al : List Nat) (D : Nat → Bool) (I : Nat → Nat → Int32) (L : Nat → Nat → Int64) : Rn X d co_Sh_goesOn (61, [o0, o1, o2, o3, o4], [vi u0], pm_mm al D I L) = cond (pm_01 u0) (some (some (vi u0), pm_mm al D I L)) none :=
  (Sg_eq X d co_Sh_goesOn st_Sh_goesOn 1 _).trans rfl
set_option maxRecDepth 20000 in
theorem sg_Sh_goesOn_49_23_7_0 (X : Nat × (Nat → Int32)) (d : Nat) (x4 : Int32) (al : List Nat) (D : Nat → Bool) (I : Nat → Nat → Int32) (L : Nat → Nat → Int64) : Rn X d co_Sh_goesOn (0, [some (vr 60), some (vr 49), some (vr 23), some (vi 7), some (vi x4)], [], pm_mm al D I L) = ((Cl X d 43 [vr 49, vr 23, vi 7, vi x4] (pm_mm al D (pm_ups I 52 (va_cpy (I 71) (I 52) 0 0 12)) L)).bind pm_av).bind (fun r => Rn X d co_Sh_goesOn (25, [some (vr 60), some (vr 49), some (vr 23), some (vi 7), some (vi x4)], [], r)) :=
  (Sg_eq X d co_Sh_goesOn st_Sh_goesOn 15 _).trans rfl
set_option maxRecDepth 20000 in
theorem sg_Sh_goesOn_49_23_7_25 (X : Nat × (Nat → Int32)) (d : Nat) (o2 : Option pm_V) (x4 : Int32) (al : List Nat) (D : Nat → Bool) (I : Nat → Nat → Int32) (L : Nat → Nat → Int64) : Rn X d co_Sh_goesOn (25, [some (vr 60), some (vr 49), o2, some (vi 7), some (vi x4)], [], pm_mm al D I L) = ((Cl X d 49 [vr 49, vi (I 60 3), vi 0] (pm_mm al D (pm_up (pm_ups I 72 (va_cpy (I 52) (I 72) 0 0 12)) 62 7 x4) L)).bind pm_ai).bind (fun r => Rn X d co_Sh_goesOn (61, [some (vr 60), some (vr 49), o2, some (vi 7), some (vi x4)], [vi r.1], r.2)) :=
  (Sg_eq X d co_Sh_goesOn st_Sh_goesOn 22 _).trans rfl
set_option maxRecDepth 20000 in
theorem sg_Sh_goesOn_49_23_7_61 (X : Nat × (Nat → Int32)) (d : Nat) (o0 o1 o2 o3 o4 : Option pm_V) (u0 : Int32) (al : List Nat) (D : Nat → Bool) (I : Nat → Nat → Int32) (L : Nat → Nat → Int64) : Rn X d co_Sh_goesOn (61, [o0, o1, o2, o3, o4], [vi u0], pm_mm al D I L) = cond (pm_01 u0) (some (some (vi u0), pm_mm al D I L)) none :=
  (Sg_eq X d co_Sh_goesOn st_Sh_goesOn 1 _).trans rfl
def st_Wa_init (pc : Nat) : Bool := cond (Nat.beq pc 0) (true) (false)
def st_Wa_learn (pc : Nat) : Bool := cond (Nat.ble 30 pc) (cond (Nat.ble 38 pc) (cond (Nat.beq pc 38) (true) (false)) (cond (Nat.beq pc 30) (true) (false))) (cond (Nat.ble 2 pc) (cond (Nat.beq pc 2) (true) (false)) (cond (Nat.beq pc 0) (true) (false)))
set_option maxRecDepth 20000 in
theorem sg_Wa_learn_220_49_0 (X : Nat × (Nat → Int32)) (d : Nat) (o2 : Option pm_V) (al : List Nat) (D : Nat → Bool) (I : Nat → Nat → Int32) (L : Nat → Nat → Int64) : Rn X d co_Wa_learn (0, [some (vr 220), some (vr 49), o2], [], pm_mm al (pm_tb 3 D) I L) = Rn X d co_Wa_learn (2, [some (vr 220), some (vr 49), some (vi 0)], [], pm_mm al (pm_tb 3 D) I L) :=
  (Sg_eq X d co_Wa_learn st_Wa_learn 3 _).trans rfl
set_option maxRecDepth 20000 in
theorem sg_Wa_learn_220_49_2 (X : Nat × (Nat → Int32)) (d : Nat) (x2 : Int32) (al : List Nat) (D : Nat → Bool) (I : Nat → Nat → Int32) (L : Nat → Nat → Int64) : Rn X d co_Wa_learn (2, [some (vr 220), some (vr 49), some (vi x2)], [], pm_mm al (pm_tb 3 D) I L) = cond (decide (12 < x2)) (((Cl X d 45 [vr 49] (pm_mm al (pm_tb 3 D) I (pm_up L 220 2 0))).bind pm_av).bind (fun r => Rn X d co_Wa_learn (30, [some (vr 220), some (vr 49), some (vi x2)], [], r))) (cond (pm_in x2 13) (Rn X d co_Wa_learn (2, [some (vr 220), some (vr 49), some (vi (x2 + 1))], [], pm_mm al (pm_tb 3 D) (pm_up I 222 x2.toNatClampNeg 0) L)) none) :=
  (Sg_eq X d co_Wa_learn st_Wa_learn 11 _).trans rfl
set_option maxRecDepth 20000 in
theorem sg_Wa_learn_220_49_30 (X : Nat × (Nat → Int32)) (d : Nat) (o2 : Option pm_V) (al : List Nat) (D : Nat → Bool) (I : Nat → Nat → Int32) (L : Nat → Nat → Int64) : Rn X d co_Wa_learn (30, [some (vr 220), some (vr 49), o2], [], pm_mm al (pm_tb 3 D) I L) = ((Cl X d 99 [vr 220, vr 49, vi 0, vi 0, vl 0] (pm_mm al (pm_tb 3 D) I L)).bind pm_av).bind (fun r => Rn X d co_Wa_learn (38, [some (vr 220), some (vr 49), o2], [], r)) :=
  (Sg_eq X d co_Wa_learn st_Wa_learn 6 _).trans rfl
set_option maxRecDepth 20000 in
theorem sg_Wa_learn_220_49_38 (X : Nat × (Nat → Int32)) (d : Nat) (o1 o2 : Option pm_V) (al : List Nat) (D : Nat → Bool) (I : Nat → Nat → Int32) (L : Nat → Nat → Int64) : Rn X d co_Wa_learn (38, [some (vr 220), o1, o2], [], pm_mm al (pm_tb 3 D) I L) = some (none, pm_mm al (pm_tb 3 D) (pm_up I 220 3 1) L) :=
  (Sg_eq X d co_Wa_learn st_Wa_learn 4 _).trans rfl
set_option maxRecDepth 20000 in
theorem sg_Wa_learn_223_49_0 (X : Nat × (Nat → Int32)) (d : Nat) (o2 : Option pm_V) (al : List Nat) (D : Nat → Bool) (I : Nat → Nat → Int32) (L : Nat → Nat → Int64) : Rn X d co_Wa_learn (0, [some (vr 223), some (vr 49), o2], [], pm_mm al (pm_tb 4 D) I L) = Rn X d co_Wa_learn (2, [some (vr 223), some (vr 49), some (vi 0)], [], pm_mm al (pm_tb 4 D) I L) :=
  (Sg_eq X d co_Wa_learn st_Wa_learn 3 _).trans rfl
set_option maxRecDepth 20000 in
theorem sg_Wa_learn_223_49_2 (X : Nat × (Nat → Int32)) (d : Nat) (x2 : Int32) (al : List Nat) (D : Nat → Bool) (I : Nat → Nat → Int32) (L : Nat → Nat → Int64) : Rn X d co_Wa_learn (2, [some (vr 223), some (vr 49), some (vi x2)], [], pm_mm al (pm_tb 4 D) I L) = cond (decide (12 < x2)) (((Cl X d 45 [vr 49] (pm_mm al (pm_tb 4 D) I (pm_up L 223 2 0))).bind pm_av).bind (fun r => Rn X d co_Wa_learn (30, [some (vr 223), some (vr 49), some (vi x2)], [], r))) (cond (pm_in x2 13) (Rn X d co_Wa_learn (2, [some (vr 223), some (vr 49), some (vi (x2 + 1))], [], pm_mm al (pm_tb 4 D) (pm_up I 225 x2.toNatClampNeg 0) L)) none) :=
  (Sg_eq X d co_Wa_learn st_Wa_learn 11 _).trans rfl
set_option maxRecDepth 20000 in
theorem sg_Wa_learn_223_49_30 (X : Nat × (Nat → Int32)) (d : Nat) (o2 : Option pm_V) (al : List Nat) (D : Nat → Bool) (I : Nat → Nat → Int32) (L : Nat → Nat → Int64) : Rn X d co_Wa_learn (30, [some (vr 223), some (vr 49), o2], [], pm_mm al (pm_tb 4 D) I L) = ((Cl X d 99 [vr 223, vr 49, vi 0, vi 0, vl 0] (pm_mm al (pm_tb 4 D) I L)).bind pm_av).bind (fun r => Rn X d co_Wa_learn (38, [some (vr 223), some (vr 49), o2], [], r)) :=
  (Sg_eq X d co_Wa_learn st_Wa_learn 6 _).trans rfl
set_option maxRecDepth 20000 in
theorem sg_Wa_learn_223_49_38 (X : Nat × (Nat → Int32)) (d : Nat) (o1 o2 : Option pm_V) (al : List Nat) (D : Nat → Bool) (I : Nat → Nat → Int32) (L : Nat → Nat → Int64) : Rn X d co_Wa_learn (38, [some (vr 223), o1, o2], [], pm_mm al (pm_tb 4 D) I L) = some (none, pm_mm al (pm_tb 4 D) (pm_up I 223 3 1) L) :=
  (Sg_eq X d co_Wa_learn st_Wa_learn 4 _).trans rfl
set_option maxRecDepth 20000 in
theorem sg_Wa_learn_226_49_0 (X : Nat × (Nat → Int32)) (d : Nat) (o2 : Option pm_V) (al : List Nat) (D : Nat → Bool) (I : Nat → Nat → Int32) (L : Nat → Nat → Int64) : Rn X d co_Wa_learn (0, [some (vr 226), some (vr 49), o2], [], pm_mm al (pm_tb 5 D) I L) = Rn X d co_Wa_learn (2, [some (vr 226), some (vr 49), some (vi 0)], [], pm_mm al (pm_tb 5 D) I L) :=
  (Sg_eq X d co_Wa_learn st_Wa_learn 3 _).trans rfl
set_option maxRecDepth 20000 in
theorem sg_Wa_learn_226_49_2 (X : Nat × (Nat → Int32)) (d : Nat) (x2 : Int32) (al : List Nat) (D : Nat → Bool) (I : Nat → Nat → Int32) (L : Nat → Nat → Int64) : Rn X d co_Wa_learn (2, [some (vr 226), some (vr 49), some (vi x2)], [], pm_mm al (pm_tb 5 D) I L) = cond (decide (12 < x2)) (((Cl X d 45 [vr 49] (pm_mm al (pm_tb 5 D) I (pm_up L 226 2 0))).bind pm_av).bind (fun r => Rn X d co_Wa_learn (30, [some (vr 226), some (vr 49), some (vi x2)], [], r))) (cond (pm_in x2 13) (Rn X d co_Wa_learn (2, [some (vr 226), some (vr 49), some (vi (x2 + 1))], [], pm_mm al (pm_tb 5 D) (pm_up I 228 x2.toNatClampNeg 0) L)) none) :=
  (Sg_eq X d co_Wa_learn st_Wa_learn 11 _).trans rfl
set_option maxRecDepth 20000 in
theorem sg_Wa_learn_226_49_30 (X : Nat × (Nat → Int32)) (d : Nat) (o2 : Option pm_V) (al : List Nat) (D : Nat → Bool) (I : Nat → Nat → Int32) (L : Nat → Nat → Int64) : Rn X d co_Wa_learn (30, [some (vr 226), some (vr 49), o2], [], pm_mm al (pm_tb 5 D) I L) = ((Cl X d 99 [vr 226, vr 49, vi 0, vi 0, vl 0] (pm_mm al (pm_tb 5 D) I L)).bind pm_av).bind (fun r => Rn X d co_Wa_learn (38, [some (vr 226), some (vr 49), o2], [], r)) :=
  (Sg_eq X d co_Wa_learn st_Wa_learn 6 _).trans rfl
set_option maxRecDepth 20000 in
theorem sg_Wa_learn_226_49_38 (X : Nat × (Nat → Int32)) (d : Nat) (o1 o2 : Option pm_V) (al : List Nat) (D : Nat → Bool) (I : Nat → Nat → Int32) (L : Nat → Nat → Int64) : Rn X d co_Wa_learn (38, [some (vr 226), o1, o2], [], pm_mm al (pm_tb 5 D) I L) = some (none, pm_mm al (pm_tb 5 D) (pm_up I 226 3 1) L) :=
  (Sg_eq X d co_Wa_learn st_Wa_learn 4 _).trans rfl
set_option maxRecDepth 20000 in
theorem sg_Wa_learn_229_49_0 (X : Nat × (Nat → Int32)) (d : Nat) (o2 : Option pm_V) (al : List Nat) (D : Nat → Bool) (I : Nat → Nat → Int32) (L : Nat → Nat → Int64) : Rn X d co_Wa_learn (0, [some (vr 229), some (vr 49), o2], [], pm_mm al (pm_tb 6 D) I L) = Rn X d co_Wa_learn (2, [some (vr 229), some (vr 49), some (vi 0)], [], pm_mm al (pm_tb 6 D) I L) :=
  (Sg_eq X d co_Wa_learn st_Wa_learn 3 _).trans rfl
set_option maxRecDepth 20000 in
theorem sg_Wa_learn_229_49_2 (X : Nat × (Nat → Int32)) (d : Nat) (x2 : Int32) (al : List Nat) (D : Nat → Bool) (I : Nat → Nat → Int32) (L : Nat → Nat → Int64) : Rn X d co_Wa_learn (2, [some (vr 229), some (vr 49), some (vi x2)], [], pm_mm al (pm_tb 6 D) I L) = cond (decide (12 < x2)) (((Cl X d 45 [vr 49] (pm_mm al (pm_tb 6 D) I (pm_up L 229 2 0))).bind pm_av).bind (fun r => Rn X d co_Wa_learn (30, [some (vr 229), some (vr 49), some (vi x2)], [], r))) (cond (pm_in x2 13) (Rn X d co_Wa_learn (2, [some (vr 229), some (vr 49), some (vi (x2 + 1))], [], pm_mm al (pm_tb 6 D) (pm_up I 231 x2.toNatClampNeg 0) L)) none) :=
  (Sg_eq X d co_Wa_learn st_Wa_learn 11 _).trans rfl
set_option maxRecDepth 20000 in
theorem sg_Wa_learn_229_49_30 (X : Nat × (Nat → Int32)) (d : Nat) (o2 : Option pm_V) (al : List Nat) (D : Nat → Bool) (I : Nat → Nat → Int32) (L : Nat → Nat → Int64) : Rn X d co_Wa_learn (30, [some (vr 229), some (vr 49), o2], [], pm_mm al (pm_tb 6 D) I L) = ((Cl X d 99 [vr 229, vr 49, vi 0, vi 0, vl 0] (pm_mm al (pm_tb 6 D) I L)).bind pm_av).bind (fun r => Rn X d co_Wa_learn (38, [some (vr 229), some (vr 49), o2], [], r)) :=
  (Sg_eq X d co_Wa_learn st_Wa_learn 6 _).trans rfl
set_option maxRecDepth 20000 in
theorem sg_Wa_learn_229_49_38 (X : Nat × (Nat → Int32)) (d : Nat) (o1 o2 : Option pm_V) (al : List Nat) (D : Nat → Bool) (I : Nat → Nat → Int32) (L : Nat → Nat → Int64) : Rn X d co_Wa_learn (38, [some (vr 229), o1, o2], [], pm_mm al (pm_tb 6 D) I L) = some (none, pm_mm al (pm_tb 6 D) (pm_up I 229 3 1) L) :=
  (Sg_eq X d co_Wa_learn st_Wa_learn 4 _).trans rfl
def st_Wa_spread (pc : Nat) : Bool := cond (Nat.ble 37 pc) (cond (Nat.ble 60 pc) (cond (Nat.ble 64 pc) (cond (Nat.beq pc 64) (true) (false)) (cond (Nat.beq pc 60) (true) (false))) (cond (Nat.ble 43 pc) (cond (Nat.beq pc 43) (true) (false)) (cond (Nat.beq pc 37) (true) (false)))) (cond (Nat.ble 20 pc) (cond (Nat.ble 33 pc) (cond (Nat.beq pc 33) (true) (false)) (cond (Nat.beq pc 20) (true) (false))) (cond (Nat.ble 13 pc) (cond (Nat.beq pc 13) (true) (false)) (cond (Nat.beq pc 0) (true) (false))))
set_option maxRecDepth 20000 in
theorem sg_Wa_spread_220_49_0 (X : Nat × (Nat → Int32)) (d : Nat) (x2 x3 : Int32) (y4 : Int64) (al : List Nat) (D : Nat → Bool) (I : Nat → Nat → Int32) (L : Nat → Nat → Int64) : Rn X d co_Wa_spread (0, [some (vr 220), some (vr 49), some (vi x2), some (vi x3), some (vl y4), none], [], pm_mm al (pm_tb 3 D) I L) = cond (decide (x2 < 12)) (((Cl X d 46 [vr 49, vi x2, vi 0] (pm_mm al (pm_tb 3 D) I L)).bind pm_av).bind (fun r => Rn X d co_Wa_spread (20, [some (vr 220), some (vr 49), some (vi x2), some (vi x3), some (vl y4), none], [], r))) (((Cl X d 100 [vr 220, vi x3, vl y4] (pm_mm al (pm_tb 3 D) I L)).bind pm_av).bind (fun r => Rn X d co_Wa_spread (13, [some (vr 220), some (vr 49), some (vi x2), some (vi x3), some (vl y4), none], [], r))) :=
  (Sg_eq X d co_Wa_spread st_Wa_spread 7 _).trans rfl
set_option maxRecDepth 20000 in
theorem sg_Wa_spread_220_49_13 (X : Nat × (Nat → Int32)) (d : Nat) (o0 o1 o2 o3 o4 o5 : Option pm_V) (al : List Nat) (D : Nat → Bool) (I : Nat → Nat → Int32) (L : Nat → Nat → Int64) : Rn X d co_Wa_spread (13, [o0, o1, o2, o3, o4, o5], [], pm_mm al D I L) = some (none, pm_mm al D I L) :=
  (Sg_eq X d co_Wa_spread st_Wa_spread 1 _).trans rfl
set_option maxRecDepth 20000 in
theorem sg_Wa_spread_220_49_20 (X : Nat × (Nat → Int32)) (d : Nat) (x2 x3 : Int32) (y4 : Int64) (al : List Nat) (D : Nat → Bool) (I : Nat → Nat → Int32) (L : Nat → Nat → Int64) : Rn X d co_Wa_spread (20, [some (vr 220), some (vr 49), some (vi x2), some (vi x3), some (vl y4), none], [], pm_mm al (pm_tb 3 D) I L) = ((Cl X d 101 [vr 49, vi x2] (pm_mm al (pm_tb 3 D) I L)).bind pm_al).bind (fun r => Rn X d co_Wa_spread (33, [some (vr 220), some (vr 49), some (vi x2), some (vi x3), some (vl y4), none], [vl r.1, vl y4, vi x3, vi (x2 + 1), vr 49, vr 220], r.2)) :=
  (Sg_eq X d co_Wa_spread st_Wa_spread 10 _).trans rfl
set_option maxRecDepth 20000 in
theorem sg_Wa_spread_220_49_33 (X : Nat × (Nat → Int32)) (d : Nat) (x2 x3 : Int32) (y4 : Int64) (u2 u3 : Int32) (w4 w5 : Int64) (al : List Nat) (D : Nat → Bool) (I : Nat → Nat → Int32) (L : Nat → Nat → Int64) : Rn X d co_Wa_spread (33, [some (vr 220), some (vr 49), some (vi x2), some (vi x3), some (vl y4), none], [vl w5, vl w4, vi u3, vi u2, vr 49, vr 220], pm_mm al (pm_tb 3 D) I L) = ((Cl X d 99 [vr 220, vr 49, vi u2, vi u3, vl (w4 + w5)] (pm_mm al (pm_tb 3 D) I L)).bind pm_av).bind (fun r => Rn X d co_Wa_spread (37, [some (vr 220), some (vr 49), some (vi x2), some (vi x3), some (vl y4), none], [], r)) :=
  (Sg_eq X d co_Wa_spread st_Wa_spread 2 _).trans rfl
set_option maxRecDepth 20000 in
theorem sg_Wa_spread_220_49_37 (X : Nat × (Nat → Int32)) (d : Nat) (x2 x3 : Int32) (y4 : Int64) (al : List Nat) (D : Nat → Bool) (I : Nat → Nat → Int32) (L : Nat → Nat → Int64) : Rn X d co_Wa_spread (37, [some (vr 220), some (vr 49), some (vi x2), some (vi x3), some (vl y4), none], [], pm_mm al (pm_tb 3 D) I L) = ((Cl X d 46 [vr 49, vi x2, vi 1] (pm_mm al (pm_tb 3 D) I L)).bind pm_av).bind (fun r => Rn X d co_Wa_spread (43, [some (vr 220), some (vr 49), some (vi x2), some (vi x3), some (vl y4), none], [], r)) :=
  (Sg_eq X d co_Wa_spread st_Wa_spread 4 _).trans rfl
set_option maxRecDepth 20000 in
theorem sg_Wa_spread_220_49_43 (X : Nat × (Nat → Int32)) (d : Nat) (x2 x3 : Int32) (y4 : Int64) (al : List Nat) (D : Nat → Bool) (I : Nat → Nat → Int32) (L : Nat → Nat → Int64) : Rn X d co_Wa_spread (43, [some (vr 220), some (vr 49), some (vi x2), some (vi x3), some (vl y4), none], [], pm_mm al (pm_tb 3 D) I L) = ((Cl X d 101 [vr 49, vi x2] (pm_mm al (pm_tb 3 D) I L)).bind pm_al).bind (fun r => Rn X d co_Wa_spread (60, [some (vr 220), some (vr 49), some (vi x2), some (vi x3), some (vl y4), none], [vl r.1, vl y4, vi (x3 ||| (1 <<< (x2 &&& 31))), vi (x2 + 1), vr 49, vr 220], r.2)) :=
  (Sg_eq X d co_Wa_spread st_Wa_spread 14 _).trans rfl
set_option maxRecDepth 20000 in
theorem sg_Wa_spread_220_49_60 (X : Nat × (Nat → Int32)) (d : Nat) (o0 o1 o2 o3 o4 o5 : Option pm_V) (u2 u3 : Int32) (w4 w5 : Int64) (al : List Nat) (D : Nat → Bool) (I : Nat → Nat → Int32) (L : Nat → Nat → Int64) : Rn X d co_Wa_spread (60, [o0, o1, o2, o3, o4, o5], [vl w5, vl w4, vi u3, vi u2, vr 49, vr 220], pm_mm al (pm_tb 3 D) I L) = ((Cl X d 99 [vr 220, vr 49, vi u2, vi u3, vl (w4 + w5)] (pm_mm al (pm_tb 3 D) I L)).bind pm_av).bind (fun r => Rn X d co_Wa_spread (64, [o0, o1, o2, o3, o4, o5], [], r)) :=
  (Sg_eq X d co_Wa_spread st_Wa_spread 2 _).trans rfl
set_option maxRecDepth 20000 in
theorem sg_Wa_spread_220_49_64 (X : Nat × (Nat → Int32)) (d : Nat) (o0 o1 o2 o3 o4 o5 : Option pm_V) (al : List Nat) (D : Nat → Bool) (I : Nat → Nat → Int32) (L : Nat → Nat → Int64) : Rn X d co_Wa_spread (64, [o0, o1, o2, o3, o4, o5], [], pm_mm al D I L) = some (none, pm_mm al D I L) :=
  (Sg_eq X d co_Wa_spread st_Wa_spread 1 _).trans rfl
set_option maxRecDepth 20000 in
theorem sg_Wa_spread_223_49_0 (X : Nat × (Nat → Int32)) (d : Nat) (x2 x3 : Int32) (y4 : Int64) (al : List Nat) (D : Nat → Bool) (I : Nat → Nat → Int32) (L : Nat → Nat → Int64) : Rn X d co_Wa_spread (0, [some (vr 223), some (vr 49), some (vi x2), some (vi x3), some (vl y4), none], [], pm_mm al (pm_tb 4 D) I L) = cond (decide (x2 < 12)) (((Cl X d 46 [vr 49, vi x2, vi 0] (pm_mm al (pm_tb 4 D) I L)).bind pm_av).bind (fun r => Rn X d co_Wa_spread (20, [some (vr 223), some (vr 49), some (vi x2), some (vi x3), some (vl y4), none], [], r))) (((Cl X d 100 [vr 223, vi x3, vl y4] (pm_mm al (pm_tb 4 D) I L)).bind pm_av).bind (fun r => Rn X d co_Wa_spread (13, [some (vr 223), some (vr 49), some (vi x2), some (vi x3), some (vl y4), none], [], r))) :=
  (Sg_eq X d co_Wa_spread st_Wa_spread 7 _).trans rfl
set_option maxRecDepth 20000 in
theorem sg_Wa_spread_223_49_13 (X : Nat × (Nat → Int32)) (d : Nat) (o0 o1 o2 o3 o4 o5 : Option pm_V) (al : List Nat) (D : Nat → Bool) (I : Nat → Nat → Int32) (L : Nat → Nat → Int64) : Rn X d co_Wa_spread (13, [o0, o1, o2, o3, o4, o5], [], pm_mm al D I L) = some (none, pm_mm al D I L) :=
  (Sg_eq X d co_Wa_spread st_Wa_spread 1 _).trans rfl
set_option maxRecDepth 20000 in
theorem sg_Wa_spread_223_49_20 (X : Nat × (Nat → Int32)) (d : Nat) (x2 x3 : Int32) (y4 : Int64) (al : List Nat) (D : Nat → Bool) (I : Nat → Nat → Int32) (L : Nat → Nat → Int64) : Rn X d co_Wa_spread (20, [some (vr 223), some (vr 49), some (vi x2), some (vi x3), some (vl y4), none], [], pm_mm al (pm_tb 4 D) I L) = ((Cl X d 101 [vr 49, vi x2] (pm_mm al (pm_tb 4 D) I L)).bind pm_al).bind (fun r => Rn X d co_Wa_spread (33, [some (vr 223), some (vr 49), some (vi x2), some (vi x3), some (vl y4), none], [vl r.1, vl y4, vi x3, vi (x2 + 1), vr 49, vr 223], r.2)) :=
  (Sg_eq X d co_Wa_spread st_Wa_spread 10 _).trans rfl
set_option maxRecDepth 20000 in
theorem sg_Wa_spread_223_49_33 (X : Nat × (Nat → Int32)) (d : Nat) (x2 x3 : Int32) (y4 : Int64) (u2 u3 : Int32) (w4 w5 : Int64) (al : List Nat) (D : Nat → Bool) (I : Nat → Nat → Int32) (L : Nat → Nat → Int64) : Rn X d co_Wa_spread (33, [some (vr 223), some (vr 49), some (vi x2), some (vi x3), some (vl y4), none], [vl w5, vl w4, vi u3, vi u2, vr 49, vr 223], pm_mm al (pm_tb 4 D) I L) = ((Cl X d 99 [vr 223, vr 49, vi u2, vi u3, vl (w4 + w5)] (pm_mm al (pm_tb 4 D) I L)).bind pm_av).bind (fun r => Rn X d co_Wa_spread (37, [some (vr 223), some (vr 49), some (vi x2), some (vi x3), some (vl y4), none], [], r)) :=
  (Sg_eq X d co_Wa_spread st_Wa_spread 2 _).trans rfl
set_option maxRecDepth 20000 in
theorem sg_Wa_spread_223_49_37 (X : Nat × (Nat → Int32)) (d : Nat) (x2 x3 : Int32) (y4 : Int64) (al : List Nat) (D : Nat → Bool) (I : Nat → Nat → Int32) (L : Nat → Nat → Int64) : Rn X d co_Wa_spread (37, [some (vr 223), some (vr 49), some (vi x2), some (vi x3), some (vl y4), none], [], pm_mm al (pm_tb 4 D) I L) = ((Cl X d 46 [vr 49, vi x2, vi 1] (pm_mm al (pm_tb 4 D) I L)).bind pm_av).bind (fun r => Rn X d co_Wa_spread (43, [some (vr 223), some (vr 49), some (vi x2), some (vi x3), some (vl y4), none], [], r)) :=
  (Sg_eq X d co_Wa_spread st_Wa_spread 4 _).trans rfl
set_option maxRecDepth 20000 in
theorem sg_Wa_spread_223_49_43 (X : Nat × (Nat → Int32)) (d : Nat) (x2 x3 : Int32) (y4 : Int64) (al : List Nat) (D : Nat → Bool) (I : Nat → Nat → Int32) (L : Nat → Nat → Int64) : Rn X d co_Wa_spread (43, [some (vr 223), some (vr 49), some (vi x2), some (vi x3), some (vl y4), none], [], pm_mm al (pm_tb 4 D) I L) = ((Cl X d 101 [vr 49, vi x2] (pm_mm al (pm_tb 4 D) I L)).bind pm_al).bind (fun r => Rn X d co_Wa_spread (60, [some (vr 223), some (vr 49), some (vi x2), some (vi x3), some (vl y4), none], [vl r.1, vl y4, vi (x3 ||| (1 <<< (x2 &&& 31))), vi (x2 + 1), vr 49, vr 223], r.2)) :=
  (Sg_eq X d co_Wa_spread st_Wa_spread 14 _).trans rfl
set_option maxRecDepth 20000 in
theorem sg_Wa_spread_223_49_60 (X : Nat × (Nat → Int32)) (d : Nat) (o0 o1 o2 o3 o4 o5 : Option pm_V) (u2 u3 : Int32) (w4 w5 : Int64) (al : List Nat) (D : Nat → Bool) (I : Nat → Nat → Int32) (L : Nat → Nat → Int64) : Rn X d co_Wa_spread (60, [o0, o1, o2, o3, o4, o5], [vl w5, vl w4, vi u3, vi u2, vr 49, vr 223], pm_mm al (pm_tb 4 D) I L) = ((Cl X d 99 [vr 223, vr 49, vi u2, vi u3, vl (w4 + w5)] (pm_mm al (pm_tb 4 D) I L)).bind pm_av).bind (fun r => Rn X d co_Wa_spread (64, [o0, o1, o2, o3, o4, o5], [], r)) :=
  (Sg_eq X d co_Wa_spread st_Wa_spread 2 _).trans rfl
set_option maxRecDepth 20000 in
theorem sg_Wa_spread_223_49_64 (X : Nat × (Nat → Int32)) (d : Nat) (o0 o1 o2 o3 o4 o5 : Option pm_V) (al : List Nat) (D : Nat → Bool) (I : Nat → Nat → Int32) (L : Nat → Nat → Int64) : Rn X d co_Wa_spread (64, [o0, o1, o2, o3, o4, o5], [], pm_mm al D I L) = some (none, pm_mm al D I L) :=
  (Sg_eq X d co_Wa_spread st_Wa_spread 1 _).trans rfl
set_option maxRecDepth 20000 in
theorem sg_Wa_spread_226_49_0 (X : Nat × (Nat → Int32)) (d : Nat) (x2 x3 : Int32) (y4 : Int64) (al : List Nat) (D : Nat → Bool) (I : Nat → Nat → Int32) (L : Nat → Nat → Int64) : Rn X d co_Wa_spread (0, [some (vr 226), some (vr 49), some (vi x2), some (vi x3), some (vl y4), none], [], pm_mm al (pm_tb 5 D) I L) = cond (decide (x2 < 12)) (((Cl X d 46 [vr 49, vi x2, vi 0] (pm_mm al (pm_tb 5 D) I L)).bind pm_av).bind (fun r => Rn X d co_Wa_spread (20, [some (vr 226), some (vr 49), some (vi x2), some (vi x3), some (vl y4), none], [], r))) (((Cl X d 100 [vr 226, vi x3, vl y4] (pm_mm al (pm_tb 5 D) I L)).bind pm_av).bind (fun r => Rn X d co_Wa_spread (13, [some (vr 226), some (vr 49), some (vi x2), some (vi x3), some (vl y4), none], [], r))) :=
  (Sg_eq X d co_Wa_spread st_Wa_spread 7 _).trans rfl
set_option maxRecDepth 20000 in
theorem sg_Wa_spread_226_49_13 (X : Nat × (Nat → Int32)) (d : Nat) (o0 o1 o2 o3 o4 o5 : Option pm_V) (al : List Nat) (D : Nat → Bool) (I : Nat → Nat → Int32) (L : Nat → Nat → Int64) : Rn X d co_Wa_spread (13, [o0, o1, o2, o3, o4, o5], [], pm_mm al D I L) = some (none, pm_mm al D I L) :=
  (Sg_eq X d co_Wa_spread st_Wa_spread 1 _).trans rfl
set_option maxRecDepth 20000 in
theorem sg_Wa_spread_226_49_20 (X : Nat × (Nat → Int32)) (d : Nat) (x2 x3 : Int32) (y4 : Int64) (al : List Nat) (D : Nat → Bool) (I : Nat → Nat → Int32) (L : Nat → Nat → Int64) : Rn X d co_Wa_spread (20, [some (vr 226), some (vr 49), some (vi x2), some (vi x3), some (vl y4), none], [], pm_mm al (pm_tb 5 D) I L) = ((Cl X d 101 [vr 49, vi x2] (pm_mm al (pm_tb 5 D) I L)).bind pm_al).bind (fun r => Rn X d co_Wa_spread (33, [some (vr 226), some (vr 49), some (vi x2), some (vi x3), some (vl y4), none], [vl r.1, vl y4, vi x3, vi (x2 + 1), vr 49, vr 226], r.2)) :=
  (Sg_eq X d co_Wa_spread st_Wa_spread 10 _).trans rfl
set_option maxRecDepth 20000 in
theorem sg_Wa_spread_226_49_33 (X : Nat × (Nat → Int32)) (d : Nat) (x2 x3 : Int32) (y4 : Int64) (u2 u3 : Int32) (w4 w5 : Int64) (al : List Nat) (D : Nat → Bool) (I : Nat → Nat → Int32) (L : Nat → Nat → Int64) : Rn X d co_Wa_spread (33, [some (vr 226), some (vr 49), some (vi x2), some (vi x3), some (vl y4), none], [vl w5, vl w4, vi u3, vi u2, vr 49, vr 226], pm_mm al (pm_tb 5 D) I L) = ((Cl X d 99 [vr 226, vr 49, vi u2, vi u3, vl (w4 + w5)] (pm_mm al (pm_tb 5 D) I L)).bind pm_av).bind (fun r => Rn X d co_Wa_spread (37, [some (vr 226), some (vr 49), some (vi x2), some (vi x3), some (vl y4), none], [], r)) :=
  (Sg_eq X d co_Wa_spread st_Wa_spread 2 _).trans rfl
set_option maxRecDepth 20000 in
theorem sg_Wa_spread_226_49_37 (X : Nat × (Nat → Int32)) (d : Nat) (x2 x3 : Int32) (y4 : Int64) (al : List Nat) (D : Nat → Bool) (I : Nat → Nat → Int32) (L : Nat → Nat → Int64) : Rn X d co_Wa_spread (37, [some (vr 226), some (vr 49), some (vi x2), some (vi x3), some (vl y4), none], [], pm_mm al (pm_tb 5 D) I L) = ((Cl X d 46 [vr 49, vi x2, vi 1] (pm_mm al (pm_tb 5 D) I L)).bind pm_av).bind (fun r => Rn X d co_Wa_spread (43, [some (vr 226), some (vr 49), some (vi x2), some (vi x3), some (vl y4), none], [], r)) :=
  (Sg_eq X d co_Wa_spread st_Wa_spread 4 _).trans rfl
set_option maxRecDepth 20000 in
theorem sg_Wa_spread_226_49_43 (X : Nat × (Nat → Int32)) (d : Nat) (x2 x3 : Int32) (y4 : Int64) (al : List Nat) (D : Nat → Bool) (I : Nat → Nat → Int32) (L : Nat → Nat → Int64) : Rn X d co_Wa_spread (43, [some (vr 226), some (vr 49), some (vi x2), some (vi x3), some (vl y4), none], [], pm_mm al (pm_tb 5 D) I L) = ((Cl X d 101 [vr 49, vi x2] (pm_mm al (pm_tb 5 D) I L)).bind pm_al).bind (fun r => Rn X d co_Wa_spread (60, [some (vr 226), some (vr 49), some (vi x2), some (vi x3), some (vl y4), none], [vl r.1, vl y4, vi (x3 ||| (1 <<< (x2 &&& 31))), vi (x2 + 1), vr 49, vr 226], r.2)) :=
  (Sg_eq X d co_Wa_spread st_Wa_spread 14 _).trans rfl
set_option maxRecDepth 20000 in
theorem sg_Wa_spread_226_49_60 (X : Nat × (Nat → Int32)) (d : Nat) (o0 o1 o2 o3 o4 o5 : Option pm_V) (u2 u3 : Int32) (w4 w5 : Int64) (al : List Nat) (D : Nat → Bool) (I : Nat → Nat → Int32) (L : Nat → Nat → Int64) : Rn X d co_Wa_spread (60, [o0, o1, o2, o3, o4, o5], [vl w5, vl w4, vi u3, vi u2, vr 49, vr 226], pm_mm al (pm_tb 5 D) I L) = ((Cl X d 99 [vr 226, vr 49, vi u2, vi u3, vl (w4 + w5)] (pm_mm al (pm_tb 5 D) I L)).bind pm_av).bind (fun r => Rn X d co_Wa_spread (64, [o0, o1, o2, o3, o4, o5], [], r)) :=
  (Sg_eq X d co_Wa_spread st_Wa_spread 2 _).trans rfl
set_option maxRecDepth 20000 in
theorem sg_Wa_spread_226_49_64 (X : Nat × (Nat → Int32)) (d : Nat) (o0 o1 o2 o3 o4 o5 : Option pm_V) (al : List Nat) (D : Nat → Bool) (I : Nat → Nat → Int32) (L : Nat → Nat → Int64) : Rn X d co_Wa_spread (64, [o0, o1, o2, o3, o4, o5], [], pm_mm al D I L) = some (none, pm_mm al D I L) :=
  (Sg_eq X d co_Wa_spread st_Wa_spread 1 _).trans rfl
set_option maxRecDepth 20000 in
theorem sg_Wa_spread_229_49_0 (X : Nat × (Nat → Int32)) (d : Nat) (x2 x3 : Int32) (y4 : Int64) (al : List Nat) (D : Nat → Bool) (I : Nat → Nat → Int32) (L : Nat → Nat → Int64) : Rn X d co_Wa_spread (0, [some (vr 229), some (vr 49), some (vi x2), some (vi x3), some (vl y4), none], [], pm_mm al (pm_tb 6 D) I L) = cond (decide (x2 < 12)) (((Cl X d 46 [vr 49, vi x2, vi 0] (pm_mm al (pm_tb 6 D) I L)).bind pm_av).bind (fun r => Rn X d co_Wa_spread (20, [some (vr 229), some (vr 49), some (vi x2), some (vi x3), some (vl y4), none], [], r))) (((Cl X d 100 [vr 229, vi x3, vl y4] (pm_mm al (pm_tb 6 D) I L)).bind pm_av).bind (fun r => Rn X d co_Wa_spread (13, [some (vr 229), some (vr 49), some (vi x2), some (vi x3), some (vl y4), none], [], r))) :=
  (Sg_eq X d co_Wa_spread st_Wa_spread 7 _).trans rfl
set_option maxRecDepth 20000 in
theorem sg_Wa_spread_229_49_13 (X : Nat × (Nat → Int32)) (d : Nat) (o0 o1 o2 o3 o4 o5 : Option pm_V) (al : List Nat) (D : Nat → Bool) (I : Nat → Nat → Int32) (L : Nat → Nat → Int64) : Rn X d co_Wa_spread (13, [o0, o1, o2, o3, o4, o5], [], pm_mm al D I L) = some (none, pm_mm al D I L) :=
  (Sg_eq X d co_Wa_spread st_Wa_spread 1 _).trans rfl
set_option maxRecDepth 20000 in
theorem sg_Wa_spread_229_49_20 (X : Nat × (Nat → Int32)) (d : Nat) (x2 x3 : Int32) (y4 : Int64) (al : List Nat) (D : Nat → Bool) (I : Nat → Nat → Int32) (L : Nat → Nat → Int64) : Rn X d co_Wa_spread (20, [some (vr 229), some (vr 49), some (vi x2), some (vi x3), some (vl y4), none], [], pm_mm al (pm_tb 6 D) I L) = ((Cl X d 101 [vr 49, vi x2] (pm_mm al (pm_tb 6 D) I L)).bind pm_al).bind (fun r => Rn X d co_Wa_spread (33, [some (vr 229), some (vr 49), some (vi x2), some (vi x3), some (vl y4), none], [vl r.1, vl y4, vi x3, vi (x2 + 1), vr 49, vr 229], r.2)) :=
  (Sg_eq X d co_Wa_spread st_Wa_spread 10 _).trans rfl
set_option maxRecDepth 20000 in
theorem sg_Wa_spread_229_49_33 (X : Nat × (Nat → Int32)) (d : Nat) (x2 x3 : Int32) (y4 : Int64) (u2 u3 : Int32) (w4 w5 : Int64) (al : List Nat) (D : Nat → Bool) (I : Nat → Nat → Int32) (L : Nat → Nat → Int64) : Rn X d co_Wa_spread (33, [some (vr 229), some (vr 49), some (vi x2), some (vi x3), some (vl y4), none], [vl w5, vl w4, vi u3, vi u2, vr 49, vr 229], pm_mm al (pm_tb 6 D) I L) = ((Cl X d 99 [vr 229, vr 49, vi u2, vi u3, vl (w4 + w5)] (pm_mm al (pm_tb 6 D) I L)).bind pm_av).bind (fun r => Rn X d co_Wa_spread (37, [some (vr 229), some (vr 49), some (vi x2), some (vi x3), some (vl y4), none], [], r)) :=
  (Sg_eq X d co_Wa_spread st_Wa_spread 2 _).trans rfl
set_option maxRecDepth 20000 in
theorem sg_Wa_spread_229_49_37 (X : Nat × (Nat → Int32)) (d : Nat) (x2 x3 : Int32) (y4 : Int64) (al : List Nat) (D : Nat → Bool) (I : Nat → Nat → Int32) (L : Nat → Nat → Int64) : Rn X d co_Wa_spread (37, [some (vr 229), some (vr 49), some (vi x2), some (vi x3), some (vl y4), none], [], pm_mm al (pm_tb 6 D) I L) = ((Cl X d 46 [vr 49, vi x2, vi 1] (pm_mm al (pm_tb 6 D) I L)).bind pm_av).bind (fun r => Rn X d co_Wa_spread (43, [some (vr 229), some (vr 49), some (vi x2), some (vi x3), some (vl y4), none], [], r)) :=
  (Sg_eq X d co_Wa_spread st_Wa_spread 4 _).trans rfl
set_option maxRecDepth 20000 in
theorem sg_Wa_spread_229_49_43 (X : Nat × (Nat → Int32)) (d : Nat) (x2 x3 : Int32) (y4 : Int64) (al : List Nat) (D : Nat → Bool) (I : Nat → Nat → Int32) (L : Nat → Nat → Int64) : Rn X d co_Wa_spread (43, [some (vr 229), some (vr 49), some (vi x2), some (vi x3), some (vl y4), none], [], pm_mm al (pm_tb 6 D) I L) = ((Cl X d 101 [vr 49, vi x2] (pm_mm al (pm_tb 6 D) I L)).bind pm_al).bind (fun r => Rn X d co_Wa_spread (60, [some (vr 229), some (vr 49), some (vi x2), some (vi x3), some (vl y4), none], [vl r.1, vl y4, vi (x3 ||| (1 <<< (x2 &&& 31))), vi (x2 + 1), vr 49, vr 229], r.2)) :=
  (Sg_eq X d co_Wa_spread st_Wa_spread 14 _).trans rfl
set_option maxRecDepth 20000 in
theorem sg_Wa_spread_229_49_60 (X : Nat × (Nat → Int32)) (d : Nat) (o0 o1 o2 o3 o4 o5 : Option pm_V) (u2 u3 : Int32) (w4 w5 : Int64) (al : List Nat) (D : Nat → Bool) (I : Nat → Nat → Int32) (L : Nat → Nat → Int64) : Rn X d co_Wa_spread (60, [o0, o1, o2, o3, o4, o5], [vl w5, vl w4, vi u3, vi u2, vr 49, vr 229], pm_mm al (pm_tb 6 D) I L) = ((Cl X d 99 [vr 229, vr 49, vi u2, vi u3, vl (w4 + w5)] (pm_mm al (pm_tb 6 D) I L)).bind pm_av).bind (fun r => Rn X d co_Wa_spread (64, [o0, o1, o2, o3, o4, o5], [], r)) :=
  (Sg_eq X d co_Wa_spread st_Wa_spread 2 _).trans rfl
set_option maxRecDepth 20000 in
theorem sg_Wa_spread_229_49_64 (X : Nat × (Nat → Int32)) (d : Nat) (o0 o1 o2 o3 o4 o5 : Option pm_V) (al : List Nat) (D : Nat → Bool) (I : Nat → Nat → Int32) (L : Nat → Nat → Int64) : Rn X d co_Wa_spread (64, [o0, o1, o2, o3, o4, o5], [], pm_mm al D I L) = some (none, pm_mm al D I L) :=
  (Sg_eq X d co_Wa_spread st_Wa_spread 1 _).trans rfl
def st_Wa_keepWay (pc : Nat) : Bool := cond (Nat.ble 25 pc) (cond (Nat.ble 36 pc) (cond (Nat.ble 41 pc) (cond (Nat.beq pc 41) (true) (false)) (cond (Nat.beq pc 36) (true) (false))) (cond (Nat.beq pc 25) (true) (false))) (cond (Nat.ble 16 pc) (cond (Nat.beq pc 16) (true) (false)) (cond (Nat.beq pc 0) (true) (false)))
set_option maxRecDepth 20000 in
theorem sg_Wa_keepWay_220_0 (X : Nat × (Nat → Int32)) (d : Nat) (x1 : Int32) (y2 : Int64) (al : List Nat) (D : Nat → Bool) (I : Nat → Nat → Int32) (L : Nat → Nat → Int64) : Rn X d co_Wa_keepWay (0, [some (vr 220), some (vi x1), some (vl y2), none], [], pm_mm al (pm_tb 3 D) I L) = cond (pm_in x1 4096) (((Cl X d 102 [vl y2] (pm_mm al (pm_tb 3 D) I (pm_up L 221 x1.toNatClampNeg y2))).bind pm_ai).bind (fun r => Rn X d co_Wa_keepWay (16, [some (vr 220), some (vi x1), some (vl y2), none], [vi r.1, vl (L 220 2), vr 220], r.2))) none :=
  (Sg_eq X d co_Wa_keepWay st_Wa_keepWay 10 _).trans rfl
set_option maxRecDepth 20000 in
theorem sg_Wa_keepWay_220_16 (X : Nat × (Nat → Int32)) (d : Nat) (x1 : Int32) (y2 w1 : Int64) (u2 : Int32) (al : List Nat) (D : Nat → Bool) (I : Nat → Nat → Int32) (L : Nat → Nat → Int64) : Rn X d co_Wa_keepWay (16, [some (vr 220), some (vi x1), some (vl y2), none], [vi u2, vl w1, vr 220], pm_mm al (pm_tb 3 D) I L) = ((Cl X d 102 [vl y2] (pm_mm al (pm_tb 3 D) I (pm_up L 220 2 (w1 + u2.toInt64)))).bind pm_ai).bind (fun r => Rn X d co_Wa_keepWay (25, [some (vr 220), some (vi x1), some (vl y2), none], [vi r.1], r.2)) :=
  (Sg_eq X d co_Wa_keepWay st_Wa_keepWay 5 _).trans rfl
set_option maxRecDepth 20000 in
theorem sg_Wa_keepWay_220_25 (X : Nat × (Nat → Int32)) (d : Nat) (x1 : Int32) (o2 o3 : Option pm_V) (u0 : Int32) (al : List Nat) (D : Nat → Bool) (I : Nat → Nat → Int32) (L : Nat → Nat → Int64) : Rn X d co_Wa_keepWay (25, [some (vr 220), some (vi x1), o2, o3], [vi u0], pm_mm al (pm_tb 3 D) I L) = cond (decide (u0 = 0)) (((Cl X d 1 [vi x1] (pm_mm al (pm_tb 3 D) I L)).bind pm_ai).bind (fun r => Rn X d co_Wa_keepWay (36, [some (vr 220), some (vi x1), o2, o3], [vi r.1, vr 222], r.2))) (Rn X d co_Wa_keepWay (41, [some (vr 220), some (vi x1), o2, o3], [], pm_mm al (pm_tb 3 D) I L)) :=
  (Sg_eq X d co_Wa_keepWay st_Wa_keepWay 5 _).trans rfl
set_option maxRecDepth 20000 in
theorem sg_Wa_keepWay_220_36 (X : Nat × (Nat → Int32)) (d : Nat) (o0 o1 o2 o3 : Option pm_V) (u1 : Int32) (al : List Nat) (D : Nat → Bool) (I : Nat → Nat → Int32) (L : Nat → Nat → Int64) : Rn X d co_Wa_keepWay (36, [o0, o1, o2, o3], [vi u1, vr 222], pm_mm al (pm_tb 3 D) I L) = cond (pm_in u1 13) (cond (pm_in u1 13) (Rn X d co_Wa_keepWay (41, [o0, o1, o2, o3], [], pm_mm al (pm_tb 3 D) (pm_up I 222 u1.toNatClampNeg ((I 222 u1.toNatClampNeg) + 1)) L)) none) none :=
  (Sg_eq X d co_Wa_keepWay st_Wa_keepWay 6 _).trans rfl
set_option maxRecDepth 20000 in
theorem sg_Wa_keepWay_220_41 (X : Nat × (Nat → Int32)) (d : Nat) (o0 o1 o2 o3 : Option pm_V) (al : List Nat) (D : Nat → Bool) (I : Nat → Nat → Int32) (L : Nat → Nat → Int64) : Rn X d co_Wa_keepWay (41, [o0, o1, o2, o3], [], pm_mm al D I L) = some (none, pm_mm al D I L) :=
  (Sg_eq X d co_Wa_keepWay st_Wa_keepWay 1 _).trans rfl
set_option maxRecDepth 20000 in
theorem sg_Wa_keepWay_223_0 (X : Nat × (Nat → Int32)) (d : Nat) (x1 : Int32) (y2 : Int64) (al : List Nat) (D : Nat → Bool) (I : Nat → Nat → Int32) (L : Nat → Nat → Int64) : Rn X d co_Wa_keepWay (0, [some (vr 223), some (vi x1), some (vl y2), none], [], pm_mm al (pm_tb 4 D) I L) = cond (pm_in x1 4096) (((Cl X d 102 [vl y2] (pm_mm al (pm_tb 4 D) I (pm_up L 224 x1.toNatClampNeg y2))).bind pm_ai).bind (fun r => Rn X d co_Wa_keepWay (16, [some (vr 223), some (vi x1), some (vl y2), none], [vi r.1, vl (L 223 2), vr 223], r.2))) none :=
  (Sg_eq X d co_Wa_keepWay st_Wa_keepWay 10 _).trans rfl
set_option maxRecDepth 20000 in
theorem sg_Wa_keepWay_223_16 (X : Nat × (Nat → Int32)) (d : Nat) (x1 : Int32) (y2 w1 : Int64) (u2 : Int32) (al : List Nat) (D : Nat → Bool) (I : Nat → Nat → Int32) (L : Nat → Nat → Int64) : Rn X d co_Wa_keepWay (16, [some (vr 223), some (vi x1), some (vl y2), none], [vi u2, vl w1, vr 223], pm_mm al (pm_tb 4 D) I L) = ((Cl X d 102 [vl y2] (pm_mm al (pm_tb 4 D) I (pm_up L 223 2 (w1 + u2.toInt64)))).bind pm_ai).bind (fun r => Rn X d co_Wa_keepWay (25, [some (vr 223), some (vi x1), some (vl y2), none], [vi r.1], r.2)) :=
  (Sg_eq X d co_Wa_keepWay st_Wa_keepWay 5 _).trans rfl
set_option maxRecDepth 20000 in
theorem sg_Wa_keepWay_223_25 (X : Nat × (Nat → Int32)) (d : Nat) (x1 : Int32) (o2 o3 : Option pm_V) (u0 : Int32) (al : List Nat) (D : Nat → Bool) (I : Nat → Nat → Int32) (L : Nat → Nat → Int64) : Rn X d co_Wa_keepWay (25, [some (vr 223), some (vi x1), o2, o3], [vi u0], pm_mm al (pm_tb 4 D) I L) = cond (decide (u0 = 0)) (((Cl X d 1 [vi x1] (pm_mm al (pm_tb 4 D) I L)).bind pm_ai).bind (fun r => Rn X d co_Wa_keepWay (36, [some (vr 223), some (vi x1), o2, o3], [vi r.1, vr 225], r.2))) (Rn X d co_Wa_keepWay (41, [some (vr 223), some (vi x1), o2, o3], [], pm_mm al (pm_tb 4 D) I L)) :=
  (Sg_eq X d co_Wa_keepWay st_Wa_keepWay 5 _).trans rfl
set_option maxRecDepth 20000 in
theorem sg_Wa_keepWay_223_36 (X : Nat × (Nat → Int32)) (d : Nat) (o0 o1 o2 o3 : Option pm_V) (u1 : Int32) (al : List Nat) (D : Nat → Bool) (I : Nat → Nat → Int32) (L : Nat → Nat → Int64) : Rn X d co_Wa_keepWay (36, [o0, o1, o2, o3], [vi u1, vr 225], pm_mm al (pm_tb 4 D) I L) = cond (pm_in u1 13) (cond (pm_in u1 13) (Rn X d co_Wa_keepWay (41, [o0, o1, o2, o3], [], pm_mm al (pm_tb 4 D) (pm_up I 225 u1.toNatClampNeg ((I 225 u1.toNatClampNeg) + 1)) L)) none) none :=
  (Sg_eq X d co_Wa_keepWay st_Wa_keepWay 6 _).trans rfl
set_option maxRecDepth 20000 in
theorem sg_Wa_keepWay_223_41 (X : Nat × (Nat → Int32)) (d : Nat) (o0 o1 o2 o3 : Option pm_V) (al : List Nat) (D : Nat → Bool) (I : Nat → Nat → Int32) (L : Nat → Nat → Int64) : Rn X d co_Wa_keepWay (41, [o0, o1, o2, o3], [], pm_mm al D I L) = some (none, pm_mm al D I L) :=
  (Sg_eq X d co_Wa_keepWay st_Wa_keepWay 1 _).trans rfl
set_option maxRecDepth 20000 in
theorem sg_Wa_keepWay_226_0 (X : Nat × (Nat → Int32)) (d : Nat) (x1 : Int32) (y2 : Int64) (al : List Nat) (D : Nat → Bool) (I : Nat → Nat → Int32) (L : Nat → Nat → Int64) : Rn X d co_Wa_keepWay (0, [some (vr 226), some (vi x1), some (vl y2), none], [], pm_mm al (pm_tb 5 D) I L) = cond (pm_in x1 4096) (((Cl X d 102 [vl y2] (pm_mm al (pm_tb 5 D) I (pm_up L 227 x1.toNatClampNeg y2))).bind pm_ai).bind (fun r => Rn X d co_Wa_keepWay (16, [some (vr 226), some (vi x1), some (vl y2), none], [vi r.1, vl (L 226 2), vr 226], r.2))) none :=
  (Sg_eq X d co_Wa_keepWay st_Wa_keepWay 10 _).trans rfl
set_option maxRecDepth 20000 in
theorem sg_Wa_keepWay_226_16 (X : Nat × (Nat → Int32)) (d : Nat) (x1 : Int32) (y2 w1 : Int64) (u2 : Int32) (al : List Nat) (D : Nat → Bool) (I : Nat → Nat → Int32) (L : Nat → Nat → Int64) : Rn X d co_Wa_keepWay (16, [some (vr 226), some (vi x1), some (vl y2), none], [vi u2, vl w1, vr 226], pm_mm al (pm_tb 5 D) I L) = ((Cl X d 102 [vl y2] (pm_mm al (pm_tb 5 D) I (pm_up L 226 2 (w1 + u2.toInt64)))).bind pm_ai).bind (fun r => Rn X d co_Wa_keepWay (25, [some (vr 226), some (vi x1), some (vl y2), none], [vi r.1], r.2)) :=
  (Sg_eq X d co_Wa_keepWay st_Wa_keepWay 5 _).trans rfl
set_option maxRecDepth 20000 in
theorem sg_Wa_keepWay_226_25 (X : Nat × (Nat → Int32)) (d : Nat) (x1 : Int32) (o2 o3 : Option pm_V) (u0 : Int32) (al : List Nat) (D : Nat → Bool) (I : Nat → Nat → Int32) (L : Nat → Nat → Int64) : Rn X d co_Wa_keepWay (25, [some (vr 226), some (vi x1), o2, o3], [vi u0], pm_mm al (pm_tb 5 D) I L) = cond (decide (u0 = 0)) (((Cl X d 1 [vi x1] (pm_mm al (pm_tb 5 D) I L)).bind pm_ai).bind (fun r => Rn X d co_Wa_keepWay (36, [some (vr 226), some (vi x1), o2, o3], [vi r.1, vr 228], r.2))) (Rn X d co_Wa_keepWay (41, [some (vr 226), some (vi x1), o2, o3], [], pm_mm al (pm_tb 5 D) I L)) :=
  (Sg_eq X d co_Wa_keepWay st_Wa_keepWay 5 _).trans rfl
set_option maxRecDepth 20000 in
theorem sg_Wa_keepWay_226_36 (X : Nat × (Nat → Int32)) (d : Nat) (o0 o1 o2 o3 : Option pm_V) (u1 : Int32) (al : List Nat) (D : Nat → Bool) (I : Nat → Nat → Int32) (L : Nat → Nat → Int64) : Rn X d co_Wa_keepWay (36, [o0, o1, o2, o3], [vi u1, vr 228], pm_mm al (pm_tb 5 D) I L) = cond (pm_in u1 13) (cond (pm_in u1 13) (Rn X d co_Wa_keepWay (41, [o0, o1, o2, o3], [], pm_mm al (pm_tb 5 D) (pm_up I 228 u1.toNatClampNeg ((I 228 u1.toNatClampNeg) + 1)) L)) none) none :=
  (Sg_eq X d co_Wa_keepWay st_Wa_keepWay 6 _).trans rfl
set_option maxRecDepth 20000 in
theorem sg_Wa_keepWay_226_41 (X : Nat × (Nat → Int32)) (d : Nat) (o0 o1 o2 o3 : Option pm_V) (al : List Nat) (D : Nat → Bool) (I : Nat → Nat → Int32) (L : Nat → Nat → Int64) : Rn X d co_Wa_keepWay (41, [o0, o1, o2, o3], [], pm_mm al D I L) = some (none, pm_mm al D I L) :=
  (Sg_eq X d co_Wa_keepWay st_Wa_keepWay 1 _).trans rfl
set_option maxRecDepth 20000 in
theorem sg_Wa_keepWay_229_0 (X : Nat × (Nat → Int32)) (d : Nat) (x1 : Int32) (y2 : Int64) (al : List Nat) (D : Nat → Bool) (I : Nat → Nat → Int32) (L : Nat → Nat → Int64) : Rn X d co_Wa_keepWay (0, [some (vr 229), some (vi x1), some (vl y2), none], [], pm_mm al (pm_tb 6 D) I L) = cond (pm_in x1 4096) (((Cl X d 102 [vl y2] (pm_mm al (pm_tb 6 D) I (pm_up L 230 x1.toNatClampNeg y2))).bind pm_ai).bind (fun r => Rn X d co_Wa_keepWay (16, [some (vr 229), some (vi x1), some (vl y2), none], [vi r.1, vl (L 229 2), vr 229], r.2))) none :=
  (Sg_eq X d co_Wa_keepWay st_Wa_keepWay 10 _).trans rfl
set_option maxRecDepth 20000 in
theorem sg_Wa_keepWay_229_16 (X : Nat × (Nat → Int32)) (d : Nat) (x1 : Int32) (y2 w1 : Int64) (u2 : Int32) (al : List Nat) (D : Nat → Bool) (I : Nat → Nat → Int32) (L : Nat → Nat → Int64) : Rn X d co_Wa_keepWay (16, [some (vr 229), some (vi x1), some (vl y2), none], [vi u2, vl w1, vr 229], pm_mm al (pm_tb 6 D) I L) = ((Cl X d 102 [vl y2] (pm_mm al (pm_tb 6 D) I (pm_up L 229 2 (w1 + u2.toInt64)))).bind pm_ai).bind (fun r => Rn X d co_Wa_keepWay (25, [some (vr 229), some (vi x1), some (vl y2), none], [vi r.1], r.2)) :=
  (Sg_eq X d co_Wa_keepWay st_Wa_keepWay 5 _).trans rfl
set_option maxRecDepth 20000 in
theorem sg_Wa_keepWay_229_25 (X : Nat × (Nat → Int32)) (d : Nat) (x1 : Int32) (o2 o3 : Option pm_V) (u0 : Int32) (al : List Nat) (D : Nat → Bool) (I : Nat → Nat → Int32) (L : Nat → Nat → Int64) : Rn X d co_Wa_keepWay (25, [some (vr 229), some (vi x1), o2, o3], [vi u0], pm_mm al (pm_tb 6 D) I L) = cond (decide (u0 = 0)) (((Cl X d 1 [vi x1] (pm_mm al (pm_tb 6 D) I L)).bind pm_ai).bind (fun r => Rn X d co_Wa_keepWay (36, [some (vr 229), some (vi x1), o2, o3], [vi r.1, vr 231], r.2))) (Rn X d co_Wa_keepWay (41, [some (vr 229), some (vi x1), o2, o3], [], pm_mm al (pm_tb 6 D) I L)) :=
  (Sg_eq X d co_Wa_keepWay st_Wa_keepWay 5 _).trans rfl
set_option maxRecDepth 20000 in
theorem sg_Wa_keepWay_229_36 (X : Nat × (Nat → Int32)) (d : Nat) (o0 o1 o2 o3 : Option pm_V) (u1 : Int32) (al : List Nat) (D : Nat → Bool) (I : Nat → Nat → Int32) (L : Nat → Nat → Int64) : Rn X d co_Wa_keepWay (36, [o0, o1, o2, o3], [vi u1, vr 231], pm_mm al (pm_tb 6 D) I L) = cond (pm_in u1 13) (cond (pm_in u1 13) (Rn X d co_Wa_keepWay (41, [o0, o1, o2, o3], [], pm_mm al (pm_tb 6 D) (pm_up I 231 u1.toNatClampNeg ((I 231 u1.toNatClampNeg) + 1)) L)) none) none :=
  (Sg_eq X d co_Wa_keepWay st_Wa_keepWay 6 _).trans rfl
set_option maxRecDepth 20000 in
theorem sg_Wa_keepWay_229_41 (X : Nat × (Nat → Int32)) (d : Nat) (o0 o1 o2 o3 : Option pm_V) (al : List Nat) (D : Nat → Bool) (I : Nat → Nat → Int32) (L : Nat → Nat → Int64) : Rn X d co_Wa_keepWay (41, [o0, o1, o2, o3], [], pm_mm al D I L) = some (none, pm_mm al D I L) :=
  (Sg_eq X d co_Wa_keepWay st_Wa_keepWay 1 _).trans rfl
def st_Wa_ofBeat (pc : Nat) : Bool := cond (Nat.ble 11 pc) (cond (Nat.ble 24 pc) (cond (Nat.beq pc 24) (true) (false)) (cond (Nat.beq pc 11) (true) (false))) (cond (Nat.beq pc 0) (true) (false))
set_option maxRecDepth 20000 in
theorem sg_Wa_ofBeat_49_0 (X : Nat × (Nat → Int32)) (d : Nat) (x1 : Int32) (o2 o3 o4 o5 : Option pm_V) (al : List Nat) (D : Nat → Bool) (I : Nat → Nat → Int32) (L : Nat → Nat → Int64) : Rn X d co_Wa_ofBeat (0, [some (vr 49), some (vi x1), o2, o3, o4, o5], [], pm_mm al D I L) = cond (pm_in (x1 + 1) 13) (((Cl X d 1 [vi (I 57 ((x1 + 1).toNatClampNeg))] (pm_mm al D I L)).bind pm_ai).bind (fun r => Rn X d co_Wa_ofBeat (11, [some (vr 49), some (vi x1), o2, o3, o4, o5], [vi r.1], r.2))) none :=
  (Sg_eq X d co_Wa_ofBeat st_Wa_ofBeat 7 _).trans rfl
set_option maxRecDepth 20000 in
theorem sg_Wa_ofBeat_49_11 (X : Nat × (Nat → Int32)) (d : Nat) (x1 : Int32) (o2 o3 o4 o5 : Option pm_V) (u0 : Int32) (al : List Nat) (D : Nat → Bool) (I : Nat → Nat → Int32) (L : Nat → Nat → Int64) : Rn X d co_Wa_ofBeat (11, [some (vr 49), some (vi x1), o2, o3, o4, o5], [vi u0], pm_mm al D I L) = cond (pm_in (x1 + 1) 13) (((Cl X d 1 [vi (I 58 ((x1 + 1).toNatClampNeg))] (pm_mm al D I L)).bind pm_ai).bind (fun r => Rn X d co_Wa_ofBeat (24, [some (vr 49), some (vi x1), some (vl u0.toInt64), none, o4, o5], [vi r.1], r.2))) none :=
  (Sg_eq X d co_Wa_ofBeat st_Wa_ofBeat 9 _).trans rfl
set_option maxRecDepth 20000 in
theorem sg_Wa_ofBeat_49_24 (X : Nat × (Nat → Int32)) (d : Nat) (o0 : Option pm_V) (x1 : Int32) (y2 : Int64) (o4 o5 : Option pm_V) (u0 : Int32) (al : List Nat) (D : Nat → Bool) (I : Nat → Nat → Int32) (L : Nat → Nat → Int64) : Rn X d co_Wa_ofBeat (24, [o0, some (vi x1), some (vl y2), none, o4, o5], [vi u0], pm_mm al D I L) = some (some (vl ((y2 <<< ((3 * x1).toInt64 &&& 63)) + (u0.toInt64 <<< ((40 : Int32).toInt64 &&& 63)))), pm_mm al D I L) :=
  (Sg_eq X d co_Wa_ofBeat st_Wa_ofBeat 12 _).trans rfl
def st_Wa_silences (pc : Nat) : Bool := cond (Nat.beq pc 0) (true) (false)
set_option maxRecDepth 20000 in
theorem sg_Wa_silences_0 (X : Nat × (Nat → Int32)) (d : Nat) (y0 : Int64) (al : List Nat) (D : Nat → Bool) (I : Nat → Nat → Int32) (L : Nat → Nat → Int64) : Rn X d co_Wa_silences (0, [some (vl y0), none], [], pm_mm al D I L) = some (some (vi ((y0 >>> ((40 : Int32).toInt64 &&& 63)).toInt32)), pm_mm al D I L) :=
  (Sg_eq X d co_Wa_silences st_Wa_silences 5 _).trans rfl
def st_Wa_sounds (pc : Nat) : Bool := cond (Nat.beq pc 0) (true) (false)
set_option maxRecDepth 20000 in
theorem sg_Wa_sounds_0 (X : Nat × (Nat → Int32)) (d : Nat) (y0 : Int64) (x2 : Int32) (al : List Nat) (D : Nat → Bool) (I : Nat → Nat → Int32) (L : Nat → Nat → Int64) : Rn X d co_Wa_sounds (0, [some (vl y0), none, some (vi x2)], [], pm_mm al D I L) = some (some (vi (((y0 >>> ((3 * x2).toInt64 &&& 63)).toInt32) &&& 7)), pm_mm al D I L) :=
  (Sg_eq X d co_Wa_sounds st_Wa_sounds 9 _).trans rfl
def st_Wa_soundsAs (pc : Nat) : Bool := cond (Nat.beq pc 0) (true) (false)
set_option maxRecDepth 20000 in
theorem sg_Wa_soundsAs_0 (X : Nat × (Nat → Int32)) (d : Nat) (x0 x1 : Int32) (al : List Nat) (D : Nat → Bool) (I : Nat → Nat → Int32) (L : Nat → Nat → Int64) : Rn X d co_Wa_soundsAs (0, [some (vi x0), some (vi x1)], [], pm_mm al D I L) = some (some (vl (x0.toInt64 <<< ((3 * x1).toInt64 &&& 63))), pm_mm al D I L) :=
  (Sg_eq X d co_Wa_soundsAs st_Wa_soundsAs 7 _).trans rfl
