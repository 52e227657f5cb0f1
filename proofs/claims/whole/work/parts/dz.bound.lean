section
def wgt (D : Nat → Bool) (a b : Nat) : Nat := cond (D 0) 0 a + cond (D 1) 0 a + cond (D 2) 0 a + cond (D 3) 0 b + cond (D 4) 0 b + cond (D 5) 0 b + cond (D 6) 0 b
theorem tt_3 (al : List Nat) (x y z : Nat) : (al ++ [x] ++ [y] ++ [z]).length = al.length + 3 ∧ sn_tt (al ++ [x] ++ [y] ++ [z]) = sn_tt al + ((pm_kd x).2 + (pm_kd y).2 + (pm_kd z).2) := by
  refine ⟨by simp, ?_⟩
  rw [sn_tt_app, sn_tt_app, sn_tt_app]; omega
theorem tt_ap (a b : List Nat) : sn_tt (a ++ b) = sn_tt a + sn_tt b := by simp [sn_tt]
theorem fl_tt : ∀ (l al : List Nat), (l.foldl (fun acc x => acc ++ [x]) al).length = al.length + l.length ∧ sn_tt (l.foldl (fun acc x => acc ++ [x]) al) = sn_tt al + sn_tt l
  | [], al => ⟨rfl, rfl⟩
  | x :: l, al => by
    obtain ⟨h1, h2⟩ := fl_tt l (al ++ [x])
    rw [List.foldl_cons, h1, h2, sn_tt_app]
    refine ⟨by simp; omega, ?_⟩
    have : sn_tt (x :: l) = (pm_kd x).2 + sn_tt l := by simp [sn_tt]
    rw [this]; omega
theorem ni_l0 (al : List Nat) : (niL_0 al).length = al.length + 31 ∧ sn_tt (niL_0 al) = sn_tt al + 781 := by
  have h := fl_tt [120, 121, 122, 123, 124, 125, 126, 127, 128, 129, 130, 131, 137, 138, 139, 140, 145, 146, 147, 132, 133, 134, 135, 136, 141, 142, 143, 144, 148, 149, 150] al
  have e : sn_tt [120, 121, 122, 123, 124, 125, 126, 127, 128, 129, 130, 131, 137, 138, 139, 140, 145, 146, 147, 132, 133, 134, 135, 136, 141, 142, 143, 144, 148, 149, 150] = 781 := by decide +kernel
  rw [e] at h
  exact h
theorem ni_l1 (al : List Nat) : (niL_1 al).length = al.length + 31 ∧ sn_tt (niL_1 al) = sn_tt al + 781 := by
  have h := fl_tt [151, 152, 153, 154, 155, 156, 157, 158, 159, 160, 161, 162, 168, 169, 170, 171, 176, 177, 178, 163, 164, 165, 166, 167, 172, 173, 174, 175, 179, 180, 181] al
  have e : sn_tt [151, 152, 153, 154, 155, 156, 157, 158, 159, 160, 161, 162, 168, 169, 170, 171, 176, 177, 178, 163, 164, 165, 166, 167, 172, 173, 174, 175, 179, 180, 181] = 781 := by decide +kernel
  rw [e] at h
  exact h
theorem ni_l2 (al : List Nat) : (niL_2 al).length = al.length + 31 ∧ sn_tt (niL_2 al) = sn_tt al + 781 := by
  have h := fl_tt [182, 183, 184, 185, 186, 187, 188, 189, 190, 191, 192, 193, 199, 200, 201, 202, 207, 208, 209, 194, 195, 196, 197, 198, 203, 204, 205, 206, 210, 211, 212] al
  have e : sn_tt [182, 183, 184, 185, 186, 187, 188, 189, 190, 191, 192, 193, 199, 200, 201, 202, 207, 208, 209, 194, 195, 196, 197, 198, 203, 204, 205, 206, 210, 211, 212] = 781 := by decide +kernel
  rw [e] at h
  exact h
theorem ni_len (k : Nat) (hk : k < 3) (al : List Nat) : (niL k al).length = al.length + 31 ∧ sn_tt (niL k al) = sn_tt al + 781 := by
  match k, hk with
  | 0, _ => exact ni_l0 al
  | 1, _ => exact ni_l1 al
  | 2, _ => exact ni_l2 al
theorem wg_tb (D : Nat → Bool) (a b : Nat) : ∀ k, k < 7 → wgt (pm_tb k D) a b + cond (D k) 0 (cond (Nat.ble k 2) a b) = wgt D a b := by
  intro k hk
  have : k = 0 ∨ k = 1 ∨ k = 2 ∨ k = 3 ∨ k = 4 ∨ k = 5 ∨ k = 6 := by omega
  rcases this with rfl | rfl | rfl | rfl | rfl | rfl | rfl
  · show 0 + cond (D 1) 0 a + cond (D 2) 0 a + cond (D 3) 0 b + cond (D 4) 0 b + cond (D 5) 0 b + cond (D 6) 0 b + cond (D 0) 0 a = _; rw [wgt]; omega
  · show cond (D 0) 0 a + 0 + cond (D 2) 0 a + cond (D 3) 0 b + cond (D 4) 0 b + cond (D 5) 0 b + cond (D 6) 0 b + cond (D 1) 0 a = _; rw [wgt]; omega
  · show cond (D 0) 0 a + cond (D 1) 0 a + 0 + cond (D 3) 0 b + cond (D 4) 0 b + cond (D 5) 0 b + cond (D 6) 0 b + cond (D 2) 0 a = _; rw [wgt]; omega
  · show cond (D 0) 0 a + cond (D 1) 0 a + cond (D 2) 0 a + 0 + cond (D 4) 0 b + cond (D 5) 0 b + cond (D 6) 0 b + cond (D 3) 0 b = _; rw [wgt]; omega
  · show cond (D 0) 0 a + cond (D 1) 0 a + cond (D 2) 0 a + cond (D 3) 0 b + 0 + cond (D 5) 0 b + cond (D 6) 0 b + cond (D 4) 0 b = _; rw [wgt]; omega
  · show cond (D 0) 0 a + cond (D 1) 0 a + cond (D 2) 0 a + cond (D 3) 0 b + cond (D 4) 0 b + 0 + cond (D 6) 0 b + cond (D 5) 0 b = _; rw [wgt]; omega
  · show cond (D 0) 0 a + cond (D 1) 0 a + cond (D 2) 0 a + cond (D 3) 0 b + cond (D 4) 0 b + cond (D 5) 0 b + 0 + cond (D 6) 0 b = _; rw [wgt]; omega
theorem gA_bound {al : List Nat} {D : Nat → Bool} (h : gA st_al (fun _ => false) al D) : al.length ≤ 600000 ∧ sn_tt al ≤ 7302250 := by
  have key := h (fun al D => al.length + wgt D 31 3 ≤ 1000 ∧ sn_tt al + wgt D 781 4113 ≤ 40000) (fun al D i hi hP => by
    have w1 := wg_tb D 31 3 (3 + i) (by omega)
    have w2 := wg_tb D 781 4113 (3 + i) (by omega)
    have e : Nat.ble (3 + i) 2 = false := ble_f (by omega)
    rw [e] at w1 w2
    obtain ⟨t1, t2⟩ := tt_3 al (220 + 3 * i) (221 + 3 * i) (222 + 3 * i)
    have t3 : (pm_kd (220 + 3 * i)).2 + (pm_kd (221 + 3 * i)).2 + (pm_kd (222 + 3 * i)).2 = 4113 := by
      have : ∀ i : Fin 4, (pm_kd (220 + 3 * i.val)).2 + (pm_kd (221 + 3 * i.val)).2 + (pm_kd (222 + 3 * i.val)).2 = 4113 := by decide +kernel
      exact this ⟨i, hi⟩
    show (cond (D (3 + i)) al _).length + wgt (pm_tb (3 + i) D) 31 3 ≤ 1000 ∧ sn_tt (cond (D (3 + i)) al _) + wgt (pm_tb (3 + i) D) 781 4113 ≤ 40000
    have hP : al.length + wgt D 31 3 ≤ 1000 ∧ sn_tt al + wgt D 781 4113 ≤ 40000 := hP
    cases hd : D (3 + i) with
    | true => rw [hd] at w1 w2; simp only [cond_true] at w1 w2 ⊢; omega
    | false => rw [hd] at w1 w2; simp only [cond_false] at w1 w2 ⊢; rw [t1, t2]; omega) (fun al D k hk hP => by
    have w1 := wg_tb D 31 3 k (by omega)
    have w2 := wg_tb D 781 4113 k (by omega)
    have e : Nat.ble k 2 = true := Nat.ble_eq_true_of_le (by omega)
    rw [e] at w1 w2
    obtain ⟨t1, t2⟩ := ni_len k hk al
    show (cond (D k) al _).length + wgt (pm_tb k D) 31 3 ≤ 1000 ∧ sn_tt (cond (D k) al _) + wgt (pm_tb k D) 781 4113 ≤ 40000
    have hP : al.length + wgt D 31 3 ≤ 1000 ∧ sn_tt al + wgt D 781 4113 ≤ 40000 := hP
    cases hd : D k with
    | true => rw [hd] at w1 w2; simp only [cond_true] at w1 w2 ⊢; omega
    | false => rw [hd] at w1 w2; simp only [cond_true, cond_false] at w1 w2 ⊢; rw [t1, t2]; omega) (fun al D hP => hP) ⟨by decide +kernel, by decide +kernel⟩
  have key : al.length + wgt D 31 3 ≤ 1000 ∧ sn_tt al + wgt D 781 4113 ≤ 40000 := key
  omega
end
