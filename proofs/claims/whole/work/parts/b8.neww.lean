section
variable {X : Nat × (Nat → Int32)} {d : Nat} {al : List Nat} {D : Nat → Bool} {I : Nat → Nat → Int32} {L : Nat → Nat → Int64}
theorem cnb {α : Type} {a b : Nat} {x x' y y' : α} (h1 : b ≤ a → x = x') (h2 : ¬ b ≤ a → y = y') : cond (Nat.ble b a) x y = cond (Nat.ble b a) x' y' := by
  cases h : Nat.ble b a with
  | true => exact h1 (Nat.le_of_ble_eq_true h)
  | false => exact h2 (fun c => by rw [Nat.ble_eq_true_of_le c] at h; cases h)
theorem cne {α : Type} {a b : Nat} {x x' y y' : α} (h1 : a = b → x = x') (h2 : ¬ a = b → y = y') : cond (Nat.beq a b) x y = cond (Nat.beq a b) x' y' := by
  by_cases c : a = b
  · subst c; rw [Nat.beq_refl]; exact h1 rfl
  · rw [beq_f c]; exact h2 c
theorem cz0b {a b x y : Nat} (h1 : b ≤ a → x = 0) (h2 : ¬ b ≤ a → y = 0) : cond (Nat.ble b a) x y = 0 := by
  cases h : Nat.ble b a with
  | true => exact h1 (Nat.le_of_ble_eq_true h)
  | false => exact h2 (fun c => by rw [Nat.ble_eq_true_of_le c] at h; cases h)
theorem cz0e {a b x y : Nat} (h1 : a = b → x = 0) (h2 : ¬ a = b → y = 0) : cond (Nat.beq a b) x y = 0 := by
  by_cases c : a = b
  · subst c; rw [Nat.beq_refl]; exact h1 rfl
  · rw [beq_f c]; exact h2 c
theorem set_ne {A : Nat → Bool} {a q : Nat} (h : ¬ a = q) : pm_set A q a = A a := by rw [pm_set, beq_f h]; rfl
theorem nwA_0 (D : Nat → Bool) : pm_set (pm_set (pm_set (pm_dB (pm_fb 3 D)) 220) 221) 222 = pm_dB (pm_tb 3 D) := by
  funext a
  by_cases h1 : a = 220
  · subst h1; rfl
  by_cases h2 : a = 221
  · subst h2; rfl
  by_cases h3 : a = 222
  · subst h3; rfl
  rw [set_ne h3, set_ne h2, set_ne h1]
  unfold pm_dB
  repeat' (first | rfl | (exfalso; omega) | refine cnb (fun _ => ?_) (fun _ => ?_))
theorem nwN_0 (D : Nat → Bool) : pm_up (pm_up (pm_up (pm_dM (pm_fb 3 D)) 220 0 221) 220 1 222) 78 0 220 = pm_dM (pm_tb 3 D) := by
  funext a j
  by_cases c0 : a = 220
  · subst c0
    by_cases j0 : j = 0
    · subst j0; rfl
    by_cases j1 : j = 1
    · subst j1; rfl
    rw [up_ne (by omega), up_ne (by omega), up_ne (by omega)]
    show 0 = pm_dN (pm_tb 3 D) 220 j
    refine Eq.symm ?_
    unfold pm_dN
    repeat' (first | rfl | (exfalso; omega) | refine cz0b (fun _ => ?_) (fun _ => ?_) | refine cz0e (fun _ => ?_) (fun _ => ?_))
  by_cases c1 : a = 221
  · subst c1
    rw [up_ne (by omega), up_ne (by omega), up_ne (by omega)]
    show 0 = pm_dN (pm_tb 3 D) 221 j
    refine Eq.symm ?_
    unfold pm_dN
    repeat' (first | rfl | (exfalso; omega) | refine cz0b (fun _ => ?_) (fun _ => ?_) | refine cz0e (fun _ => ?_) (fun _ => ?_))
  by_cases c2 : a = 222
  · subst c2
    rw [up_ne (by omega), up_ne (by omega), up_ne (by omega)]
    show 0 = pm_dN (pm_tb 3 D) 222 j
    refine Eq.symm ?_
    unfold pm_dN
    repeat' (first | rfl | (exfalso; omega) | refine cz0b (fun _ => ?_) (fun _ => ?_) | refine cz0e (fun _ => ?_) (fun _ => ?_))
  by_cases c3 : a = 78
  · subst c3
    by_cases j0 : j = 0
    · subst j0; rfl
    rw [up_ne (by omega), up_ne (by omega), up_ne (by omega)]
    show pm_dN (pm_fb 3 D) 78 j = pm_dN (pm_tb 3 D) 78 j
    unfold pm_dN
    repeat' (first | with_reducible rfl | (exfalso; omega) | refine cnb (fun _ => ?_) (fun _ => ?_) | refine cne (fun _ => ?_) (fun _ => ?_) | rfl)
  rw [up_ne (fun e => c3 e.1), up_ne (fun e => c0 e.1), up_ne (fun e => c0 e.1)]
  have eB : pm_dB (pm_fb 3 D) a = pm_dB (pm_tb 3 D) a := by
    unfold pm_dB
    repeat' (first | with_reducible rfl | (exfalso; omega) | refine cnb (fun _ => ?_) (fun _ => ?_) | rfl)
  have eN : pm_dN (pm_fb 3 D) a j = pm_dN (pm_tb 3 D) a j := by
    unfold pm_dN
    repeat' (first | with_reducible rfl | (exfalso; omega) | refine cnb (fun _ => ?_) (fun _ => ?_) | refine cne (fun _ => ?_) (fun _ => ?_) | rfl)
  rw [pm_dM, pm_dM, eB, eN]
set_option maxRecDepth 20000 in
theorem nw0_0 (o3 : Option pm_V) : Rn X d co_Ch_waysOf (0, [some (vr 1), some (vi 0), some (vi 0), o3], [], pm_mm al (pm_fb 3 D) I L) = ((Cl X d 97 [vr 220] (al ++ [220], pm_set (pm_dB (pm_fb 3 D)) 220, pm_dM (pm_fb 3 D), I, L)).bind pm_av).bind (fun r => Rn X d co_Ch_waysOf (27, [some (vr 1), some (vi 0), some (vi 0), some (vi 0)], [vr 220, vi 0, vr 78], r)) :=
  (Sg_eq X d co_Ch_waysOf st_Ch_waysOf 20 _).trans rfl
set_option maxRecDepth 20000 in
theorem nw1_0 : Cl X (d + 1) 97 [vr 220] (al ++ [220], pm_set (pm_dB (pm_fb 3 D)) 220, pm_dM (pm_fb 3 D), I, L) = some (none, (al ++ [220] ++ [221] ++ [222], pm_set (pm_set (pm_set (pm_dB (pm_fb 3 D)) 220) 221) 222, pm_up (pm_up (pm_dM (pm_fb 3 D)) 220 0 221) 220 1 222, pm_up I 220 3 0, pm_up L 220 2 0)) := by
  rw [Cl_s]
  exact (Sg_eq X d co_Wa_init st_Wa_init 40 _).trans rfl
set_option maxRecDepth 20000 in
theorem nw2_0 (al : List Nat) : Rn X d co_Ch_waysOf (27, [some (vr 1), some (vi 0), some (vi 0), some (vi 0)], [vr 220, vi 0, vr 78], (al, pm_set (pm_set (pm_set (pm_dB (pm_fb 3 D)) 220) 221) 222, pm_up (pm_up (pm_dM (pm_fb 3 D)) 220 0 221) 220 1 222, I, L)) = Rn X d co_Ch_waysOf (28, [some (vr 1), some (vi 0), some (vi 0), some (vi 0)], [], (al, pm_set (pm_set (pm_set (pm_dB (pm_fb 3 D)) 220) 221) 222, pm_up (pm_up (pm_up (pm_dM (pm_fb 3 D)) 220 0 221) 220 1 222) 78 0 220, I, L)) :=
  (Sg_eq X d co_Ch_waysOf st_Ch_waysOf 3 _).trans rfl
theorem nw_0 (o3 : Option pm_V) : Rn X (d + 1) co_Ch_waysOf (0, [some (vr 1), some (vi 0), some (vi 0), o3], [], pm_mm al (pm_fb 3 D) I L) = Rn X (d + 1) co_Ch_waysOf (28, [some (vr 1), some (vi 0), some (vi 0), some (vi 0)], [], pm_mm (al ++ [220] ++ [221] ++ [222]) (pm_tb 3 D) (pm_up I 220 3 0) (pm_up L 220 2 0)) := by
  rw [nw0_0, nw1_0]
  simp only [Option.bind_some, pm_av]
  rw [nw2_0, nwA_0, nwN_0]
theorem nwA_1 (D : Nat → Bool) : pm_set (pm_set (pm_set (pm_dB (pm_fb 4 D)) 223) 224) 225 = pm_dB (pm_tb 4 D) := by
  funext a
  by_cases h1 : a = 223
  · subst h1; rfl
  by_cases h2 : a = 224
  · subst h2; rfl
  by_cases h3 : a = 225
  · subst h3; rfl
  rw [set_ne h3, set_ne h2, set_ne h1]
  unfold pm_dB
  repeat' (first | rfl | (exfalso; omega) | refine cnb (fun _ => ?_) (fun _ => ?_))
theorem nwN_1 (D : Nat → Bool) : pm_up (pm_up (pm_up (pm_dM (pm_fb 4 D)) 223 0 224) 223 1 225) 78 1 223 = pm_dM (pm_tb 4 D) := by
  funext a j
  by_cases c0 : a = 223
  · subst c0
    by_cases j0 : j = 0
    · subst j0; rfl
    by_cases j1 : j = 1
    · subst j1; rfl
    rw [up_ne (by omega), up_ne (by omega), up_ne (by omega)]
    show 0 = pm_dN (pm_tb 4 D) 223 j
    refine Eq.symm ?_
    unfold pm_dN
    repeat' (first | rfl | (exfalso; omega) | refine cz0b (fun _ => ?_) (fun _ => ?_) | refine cz0e (fun _ => ?_) (fun _ => ?_))
  by_cases c1 : a = 224
  · subst c1
    rw [up_ne (by omega), up_ne (by omega), up_ne (by omega)]
    show 0 = pm_dN (pm_tb 4 D) 224 j
    refine Eq.symm ?_
    unfold pm_dN
    repeat' (first | rfl | (exfalso; omega) | refine cz0b (fun _ => ?_) (fun _ => ?_) | refine cz0e (fun _ => ?_) (fun _ => ?_))
  by_cases c2 : a = 225
  · subst c2
    rw [up_ne (by omega), up_ne (by omega), up_ne (by omega)]
    show 0 = pm_dN (pm_tb 4 D) 225 j
    refine Eq.symm ?_
    unfold pm_dN
    repeat' (first | rfl | (exfalso; omega) | refine cz0b (fun _ => ?_) (fun _ => ?_) | refine cz0e (fun _ => ?_) (fun _ => ?_))
  by_cases c3 : a = 78
  · subst c3
    by_cases j0 : j = 1
    · subst j0; rfl
    rw [up_ne (by omega), up_ne (by omega), up_ne (by omega)]
    show pm_dN (pm_fb 4 D) 78 j = pm_dN (pm_tb 4 D) 78 j
    unfold pm_dN
    repeat' (first | with_reducible rfl | (exfalso; omega) | refine cnb (fun _ => ?_) (fun _ => ?_) | refine cne (fun _ => ?_) (fun _ => ?_) | rfl)
  rw [up_ne (fun e => c3 e.1), up_ne (fun e => c0 e.1), up_ne (fun e => c0 e.1)]
  have eB : pm_dB (pm_fb 4 D) a = pm_dB (pm_tb 4 D) a := by
    unfold pm_dB
    repeat' (first | with_reducible rfl | (exfalso; omega) | refine cnb (fun _ => ?_) (fun _ => ?_) | rfl)
  have eN : pm_dN (pm_fb 4 D) a j = pm_dN (pm_tb 4 D) a j := by
    unfold pm_dN
    repeat' (first | with_reducible rfl | (exfalso; omega) | refine cnb (fun _ => ?_) (fun _ => ?_) | refine cne (fun _ => ?_) (fun _ => ?_) | rfl)
  rw [pm_dM, pm_dM, eB, eN]
set_option maxRecDepth 20000 in
theorem nw0_1 (o3 : Option pm_V) : Rn X d co_Ch_waysOf (0, [some (vr 1), some (vi 0), some (vi 1), o3], [], pm_mm al (pm_fb 4 D) I L) = ((Cl X d 97 [vr 223] (al ++ [223], pm_set (pm_dB (pm_fb 4 D)) 223, pm_dM (pm_fb 4 D), I, L)).bind pm_av).bind (fun r => Rn X d co_Ch_waysOf (27, [some (vr 1), some (vi 0), some (vi 1), some (vi 1)], [vr 223, vi 1, vr 78], r)) :=
  (Sg_eq X d co_Ch_waysOf st_Ch_waysOf 20 _).trans rfl
set_option maxRecDepth 20000 in
theorem nw1_1 : Cl X (d + 1) 97 [vr 223] (al ++ [223], pm_set (pm_dB (pm_fb 4 D)) 223, pm_dM (pm_fb 4 D), I, L) = some (none, (al ++ [223] ++ [224] ++ [225], pm_set (pm_set (pm_set (pm_dB (pm_fb 4 D)) 223) 224) 225, pm_up (pm_up (pm_dM (pm_fb 4 D)) 223 0 224) 223 1 225, pm_up I 223 3 0, pm_up L 223 2 0)) := by
  rw [Cl_s]
  exact (Sg_eq X d co_Wa_init st_Wa_init 40 _).trans rfl
set_option maxRecDepth 20000 in
theorem nw2_1 (al : List Nat) : Rn X d co_Ch_waysOf (27, [some (vr 1), some (vi 0), some (vi 1), some (vi 1)], [vr 223, vi 1, vr 78], (al, pm_set (pm_set (pm_set (pm_dB (pm_fb 4 D)) 223) 224) 225, pm_up (pm_up (pm_dM (pm_fb 4 D)) 223 0 224) 223 1 225, I, L)) = Rn X d co_Ch_waysOf (28, [some (vr 1), some (vi 0), some (vi 1), some (vi 1)], [], (al, pm_set (pm_set (pm_set (pm_dB (pm_fb 4 D)) 223) 224) 225, pm_up (pm_up (pm_up (pm_dM (pm_fb 4 D)) 223 0 224) 223 1 225) 78 1 223, I, L)) :=
  (Sg_eq X d co_Ch_waysOf st_Ch_waysOf 3 _).trans rfl
theorem nw_1 (o3 : Option pm_V) : Rn X (d + 1) co_Ch_waysOf (0, [some (vr 1), some (vi 0), some (vi 1), o3], [], pm_mm al (pm_fb 4 D) I L) = Rn X (d + 1) co_Ch_waysOf (28, [some (vr 1), some (vi 0), some (vi 1), some (vi 1)], [], pm_mm (al ++ [223] ++ [224] ++ [225]) (pm_tb 4 D) (pm_up I 223 3 0) (pm_up L 223 2 0)) := by
  rw [nw0_1, nw1_1]
  simp only [Option.bind_some, pm_av]
  rw [nw2_1, nwA_1, nwN_1]
theorem nwA_2 (D : Nat → Bool) : pm_set (pm_set (pm_set (pm_dB (pm_fb 5 D)) 226) 227) 228 = pm_dB (pm_tb 5 D) := by
  funext a
  by_cases h1 : a = 226
  · subst h1; rfl
  by_cases h2 : a = 227
  · subst h2; rfl
  by_cases h3 : a = 228
  · subst h3; rfl
  rw [set_ne h3, set_ne h2, set_ne h1]
  unfold pm_dB
  repeat' (first | rfl | (exfalso; omega) | refine cnb (fun _ => ?_) (fun _ => ?_))
theorem nwN_2 (D : Nat → Bool) : pm_up (pm_up (pm_up (pm_dM (pm_fb 5 D)) 226 0 227) 226 1 228) 78 2 226 = pm_dM (pm_tb 5 D) := by
  funext a j
  by_cases c0 : a = 226
  · subst c0
    by_cases j0 : j = 0
    · subst j0; rfl
    by_cases j1 : j = 1
    · subst j1; rfl
    rw [up_ne (by omega), up_ne (by omega), up_ne (by omega)]
    show 0 = pm_dN (pm_tb 5 D) 226 j
    refine Eq.symm ?_
    unfold pm_dN
    repeat' (first | rfl | (exfalso; omega) | refine cz0b (fun _ => ?_) (fun _ => ?_) | refine cz0e (fun _ => ?_) (fun _ => ?_))
  by_cases c1 : a = 227
  · subst c1
    rw [up_ne (by omega), up_ne (by omega), up_ne (by omega)]
    show 0 = pm_dN (pm_tb 5 D) 227 j
    refine Eq.symm ?_
    unfold pm_dN
    repeat' (first | rfl | (exfalso; omega) | refine cz0b (fun _ => ?_) (fun _ => ?_) | refine cz0e (fun _ => ?_) (fun _ => ?_))
  by_cases c2 : a = 228
  · subst c2
    rw [up_ne (by omega), up_ne (by omega), up_ne (by omega)]
    show 0 = pm_dN (pm_tb 5 D) 228 j
    refine Eq.symm ?_
    unfold pm_dN
    repeat' (first | rfl | (exfalso; omega) | refine cz0b (fun _ => ?_) (fun _ => ?_) | refine cz0e (fun _ => ?_) (fun _ => ?_))
  by_cases c3 : a = 78
  · subst c3
    by_cases j0 : j = 2
    · subst j0; rfl
    rw [up_ne (by omega), up_ne (by omega), up_ne (by omega)]
    show pm_dN (pm_fb 5 D) 78 j = pm_dN (pm_tb 5 D) 78 j
    unfold pm_dN
    repeat' (first | with_reducible rfl | (exfalso; omega) | refine cnb (fun _ => ?_) (fun _ => ?_) | refine cne (fun _ => ?_) (fun _ => ?_) | rfl)
  rw [up_ne (fun e => c3 e.1), up_ne (fun e => c0 e.1), up_ne (fun e => c0 e.1)]
  have eB : pm_dB (pm_fb 5 D) a = pm_dB (pm_tb 5 D) a := by
    unfold pm_dB
    repeat' (first | with_reducible rfl | (exfalso; omega) | refine cnb (fun _ => ?_) (fun _ => ?_) | rfl)
  have eN : pm_dN (pm_fb 5 D) a j = pm_dN (pm_tb 5 D) a j := by
    unfold pm_dN
    repeat' (first | with_reducible rfl | (exfalso; omega) | refine cnb (fun _ => ?_) (fun _ => ?_) | refine cne (fun _ => ?_) (fun _ => ?_) | rfl)
  rw [pm_dM, pm_dM, eB, eN]
set_option maxRecDepth 20000 in
theorem nw0_2 (o3 : Option pm_V) : Rn X d co_Ch_waysOf (0, [some (vr 1), some (vi 1), some (vi 0), o3], [], pm_mm al (pm_fb 5 D) I L) = ((Cl X d 97 [vr 226] (al ++ [226], pm_set (pm_dB (pm_fb 5 D)) 226, pm_dM (pm_fb 5 D), I, L)).bind pm_av).bind (fun r => Rn X d co_Ch_waysOf (27, [some (vr 1), some (vi 1), some (vi 0), some (vi 2)], [vr 226, vi 2, vr 78], r)) :=
  (Sg_eq X d co_Ch_waysOf st_Ch_waysOf 20 _).trans rfl
set_option maxRecDepth 20000 in
theorem nw1_2 : Cl X (d + 1) 97 [vr 226] (al ++ [226], pm_set (pm_dB (pm_fb 5 D)) 226, pm_dM (pm_fb 5 D), I, L) = some (none, (al ++ [226] ++ [227] ++ [228], pm_set (pm_set (pm_set (pm_dB (pm_fb 5 D)) 226) 227) 228, pm_up (pm_up (pm_dM (pm_fb 5 D)) 226 0 227) 226 1 228, pm_up I 226 3 0, pm_up L 226 2 0)) := by
  rw [Cl_s]
  exact (Sg_eq X d co_Wa_init st_Wa_init 40 _).trans rfl
set_option maxRecDepth 20000 in
theorem nw2_2 (al : List Nat) : Rn X d co_Ch_waysOf (27, [some (vr 1), some (vi 1), some (vi 0), some (vi 2)], [vr 226, vi 2, vr 78], (al, pm_set (pm_set (pm_set (pm_dB (pm_fb 5 D)) 226) 227) 228, pm_up (pm_up (pm_dM (pm_fb 5 D)) 226 0 227) 226 1 228, I, L)) = Rn X d co_Ch_waysOf (28, [some (vr 1), some (vi 1), some (vi 0), some (vi 2)], [], (al, pm_set (pm_set (pm_set (pm_dB (pm_fb 5 D)) 226) 227) 228, pm_up (pm_up (pm_up (pm_dM (pm_fb 5 D)) 226 0 227) 226 1 228) 78 2 226, I, L)) :=
  (Sg_eq X d co_Ch_waysOf st_Ch_waysOf 3 _).trans rfl
theorem nw_2 (o3 : Option pm_V) : Rn X (d + 1) co_Ch_waysOf (0, [some (vr 1), some (vi 1), some (vi 0), o3], [], pm_mm al (pm_fb 5 D) I L) = Rn X (d + 1) co_Ch_waysOf (28, [some (vr 1), some (vi 1), some (vi 0), some (vi 2)], [], pm_mm (al ++ [226] ++ [227] ++ [228]) (pm_tb 5 D) (pm_up I 226 3 0) (pm_up L 226 2 0)) := by
  rw [nw0_2, nw1_2]
  simp only [Option.bind_some, pm_av]
  rw [nw2_2, nwA_2, nwN_2]
theorem nwA_3 (D : Nat → Bool) : pm_set (pm_set (pm_set (pm_dB (pm_fb 6 D)) 229) 230) 231 = pm_dB (pm_tb 6 D) := by
  funext a
  by_cases h1 : a = 229
  · subst h1; rfl
  by_cases h2 : a = 230
  · subst h2; rfl
  by_cases h3 : a = 231
  · subst h3; rfl
  rw [set_ne h3, set_ne h2, set_ne h1]
  unfold pm_dB
  repeat' (first | rfl | (exfalso; omega) | refine cnb (fun _ => ?_) (fun _ => ?_))
theorem nwN_3 (D : Nat → Bool) : pm_up (pm_up (pm_up (pm_dM (pm_fb 6 D)) 229 0 230) 229 1 231) 78 3 229 = pm_dM (pm_tb 6 D) := by
  funext a j
  by_cases c0 : a = 229
  · subst c0
    by_cases j0 : j = 0
    · subst j0; rfl
    by_cases j1 : j = 1
    · subst j1; rfl
    rw [up_ne (by omega), up_ne (by omega), up_ne (by omega)]
    show 0 = pm_dN (pm_tb 6 D) 229 j
    refine Eq.symm ?_
    unfold pm_dN
    repeat' (first | rfl | (exfalso; omega) | refine cz0b (fun _ => ?_) (fun _ => ?_) | refine cz0e (fun _ => ?_) (fun _ => ?_))
  by_cases c1 : a = 230
  · subst c1
    rw [up_ne (by omega), up_ne (by omega), up_ne (by omega)]
    show 0 = pm_dN (pm_tb 6 D) 230 j
    refine Eq.symm ?_
    unfold pm_dN
    repeat' (first | rfl | (exfalso; omega) | refine cz0b (fun _ => ?_) (fun _ => ?_) | refine cz0e (fun _ => ?_) (fun _ => ?_))
  by_cases c2 : a = 231
  · subst c2
    rw [up_ne (by omega), up_ne (by omega), up_ne (by omega)]
    show 0 = pm_dN (pm_tb 6 D) 231 j
    refine Eq.symm ?_
    unfold pm_dN
    repeat' (first | rfl | (exfalso; omega) | refine cz0b (fun _ => ?_) (fun _ => ?_) | refine cz0e (fun _ => ?_) (fun _ => ?_))
  by_cases c3 : a = 78
  · subst c3
    by_cases j0 : j = 3
    · subst j0; rfl
    rw [up_ne (by omega), up_ne (by omega), up_ne (by omega)]
    show pm_dN (pm_fb 6 D) 78 j = pm_dN (pm_tb 6 D) 78 j
    unfold pm_dN
    repeat' (first | with_reducible rfl | (exfalso; omega) | refine cnb (fun _ => ?_) (fun _ => ?_) | refine cne (fun _ => ?_) (fun _ => ?_) | rfl)
  rw [up_ne (fun e => c3 e.1), up_ne (fun e => c0 e.1), up_ne (fun e => c0 e.1)]
  have eB : pm_dB (pm_fb 6 D) a = pm_dB (pm_tb 6 D) a := by
    unfold pm_dB
    repeat' (first | with_reducible rfl | (exfalso; omega) | refine cnb (fun _ => ?_) (fun _ => ?_) | rfl)
  have eN : pm_dN (pm_fb 6 D) a j = pm_dN (pm_tb 6 D) a j := by
    unfold pm_dN
    repeat' (first | with_reducible rfl | (exfalso; omega) | refine cnb (fun _ => ?_) (fun _ => ?_) | refine cne (fun _ => ?_) (fun _ => ?_) | rfl)
  rw [pm_dM, pm_dM, eB, eN]
set_option maxRecDepth 20000 in
theorem nw0_3 (o3 : Option pm_V) : Rn X d co_Ch_waysOf (0, [some (vr 1), some (vi 1), some (vi 1), o3], [], pm_mm al (pm_fb 6 D) I L) = ((Cl X d 97 [vr 229] (al ++ [229], pm_set (pm_dB (pm_fb 6 D)) 229, pm_dM (pm_fb 6 D), I, L)).bind pm_av).bind (fun r => Rn X d co_Ch_waysOf (27, [some (vr 1), some (vi 1), some (vi 1), some (vi 3)], [vr 229, vi 3, vr 78], r)) :=
  (Sg_eq X d co_Ch_waysOf st_Ch_waysOf 20 _).trans rfl
set_option maxRecDepth 20000 in
theorem nw1_3 : Cl X (d + 1) 97 [vr 229] (al ++ [229], pm_set (pm_dB (pm_fb 6 D)) 229, pm_dM (pm_fb 6 D), I, L) = some (none, (al ++ [229] ++ [230] ++ [231], pm_set (pm_set (pm_set (pm_dB (pm_fb 6 D)) 229) 230) 231, pm_up (pm_up (pm_dM (pm_fb 6 D)) 229 0 230) 229 1 231, pm_up I 229 3 0, pm_up L 229 2 0)) := by
  rw [Cl_s]
  exact (Sg_eq X d co_Wa_init st_Wa_init 40 _).trans rfl
set_option maxRecDepth 20000 in
theorem nw2_3 (al : List Nat) : Rn X d co_Ch_waysOf (27, [some (vr 1), some (vi 1), some (vi 1), some (vi 3)], [vr 229, vi 3, vr 78], (al, pm_set (pm_set (pm_set (pm_dB (pm_fb 6 D)) 229) 230) 231, pm_up (pm_up (pm_dM (pm_fb 6 D)) 229 0 230) 229 1 231, I, L)) = Rn X d co_Ch_waysOf (28, [some (vr 1), some (vi 1), some (vi 1), some (vi 3)], [], (al, pm_set (pm_set (pm_set (pm_dB (pm_fb 6 D)) 229) 230) 231, pm_up (pm_up (pm_up (pm_dM (pm_fb 6 D)) 229 0 230) 229 1 231) 78 3 229, I, L)) :=
  (Sg_eq X d co_Ch_waysOf st_Ch_waysOf 3 _).trans rfl
theorem nw_3 (o3 : Option pm_V) : Rn X (d + 1) co_Ch_waysOf (0, [some (vr 1), some (vi 1), some (vi 1), o3], [], pm_mm al (pm_fb 6 D) I L) = Rn X (d + 1) co_Ch_waysOf (28, [some (vr 1), some (vi 1), some (vi 1), some (vi 3)], [], pm_mm (al ++ [229] ++ [230] ++ [231]) (pm_tb 6 D) (pm_up I 229 3 0) (pm_up L 229 2 0)) := by
  rw [nw0_3, nw1_3]
  simp only [Option.bind_some, pm_av]
  rw [nw2_3, nwA_3, nwN_3]
end
