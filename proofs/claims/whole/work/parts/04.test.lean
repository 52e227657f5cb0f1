noncomputable def Cl (X : Nat × (Nat → Int32)) (d : Nat) : pm_K := pm_Cal (pm_st X) pm_co pm_mx d
noncomputable def Rn (X : Nat × (Nat → Int32)) (d : Nat) (c : pm_C) : pm_S → Option pm_R := pm_Run (pm_st X) pm_co pm_mx d c
noncomputable def Sg (X : Nat × (Nat → Int32)) (d : Nat) (c : pm_C) (stop : Nat → Bool) (n : Nat) (s : pm_S) : Option pm_R := pm_seg (pm_st X) pm_co pm_mx d c stop n s
theorem Sg_eq (X : Nat × (Nat → Int32)) (d : Nat) (c : pm_C) (stop : Nat → Bool) (n : Nat) (s : pm_S) : Rn X d c s = Sg X d c stop n s := pm_seg_eq _ _ _ d c stop n s
set_option maxHeartbeats 4000000 in
theorem te_has_0 (X : Nat × (Nat → Int32)) (d : Nat) (set k : Int32) (V : pm_M) : Rn X d co_Mo_has (0, [some (vi set), some (vi k)], [], V) = cond (decide (set >>> (k &&& 31) &&& 1 = 1)) (some (some (vi 1), V)) (some (some (vi 0), V)) :=
  (Sg_eq X d co_Mo_has (fun _ => false) 20 _).trans rfl
set_option maxHeartbeats 4000000 in
theorem te_ones_4 (X : Nat × (Nat → Int32)) (d : Nat) (set n k : Int32) (V : pm_M) : Rn X d co_Mo_ones (4, [some (vi set), some (vi n), some (vi k)], [], V) = cond (decide (12 ≤ k)) (some (some (vi n), V)) (((Cl X d 166 [vi set, vi k] V).bind pm_ai).bind (fun q => Rn X d co_Mo_ones (16, [some (vi set), some (vi n), some (vi k)], [vi q.1, vi n], q.2))) :=
  (Sg_eq X d co_Mo_ones (fun pc => Nat.beq pc 4 || Nat.beq pc 16) 40 _).trans rfl
set_option maxHeartbeats 4000000 in
theorem te_of_0 (X : Nat × (Nat → Int32)) (d : Nat) (k : Int32) (al : List Nat) (D : Nat → Bool) (I : Nat → Nat → Int32) (L : Nat → Nat → Int64) : Rn X d co_Mo_of (0, [some (vr 81), some (vi k)], [], pm_mk al D I L) = cond (pm_in (29 * I 81 23 + k) 232) (some (some (vi (I 87 (29 * I 81 23 + k).toNatClampNeg)), pm_mk al D I L)) none :=
  (Sg_eq X d co_Mo_of (fun _ => false) 20 _).trans rfl
