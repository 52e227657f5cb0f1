section
theorem up_id {α : Type} {f : Nat → Nat → α} {a j : Nat} {v : α} (h : f a j = v) : pm_up f a j v = f := by
  funext b k
  rw [pm_up]
  by_cases e : b = a ∧ k = j
  · rw [if_pos e, e.1, e.2, h]
  · rw [if_neg e]
theorem mu_id : (fun b j => cond (Nat.beq b 63 && Nat.ble j 8) (64 + j) ((pm_dN (fun _ => false)) b j)) = pm_dN (fun _ => false) := by
  funext b j
  by_cases h : b = 63
  · subst h
    by_cases hj : j < 9
    · have : ∀ j : Fin 9, cond (Nat.beq 63 63 && Nat.ble j.val 8) (64 + j.val) ((pm_dN (fun _ => false)) 63 j.val) = pm_dN (fun _ => false) 63 j.val := by decide +kernel
      exact this ⟨j, hj⟩
    · have e : Nat.ble j 8 = false := by
        cases c : Nat.ble j 8 with
        | false => rfl
        | true => have := Nat.le_of_ble_eq_true c; omega
      rw [e, Bool.and_false]; rfl
  · rw [beq_f h]; rfl
theorem ble_f {a b : Nat} (h : b < a) : Nat.ble a b = false := by
  cases c : Nat.ble a b with
  | false => rfl
  | true => have := Nat.le_of_ble_eq_true c; omega
theorem st_m0_N : st_m0.2.2.1 = pm_dN (fun _ => false) := rfl
theorem st_m0_A (a : Nat) (h : 114 ≤ a) : st_m0.2.1 a = false := rfl
theorem st_m2_N : st_m2.2.2.1 = pm_dN (fun _ => false) := by
  show st_m0.2.2.1 = _
  rw [st_m0_N]
theorem st_m2_A (a : Nat) (h : 114 ≤ a) : st_m2.2.1 a = false := by
  show (pm_set (st_m0.2.1) 1) a = _
  rw [set_ne (by omega), st_m0_A a h]
theorem st_m4_N : st_m4.2.2.1 = pm_dN (fun _ => false) := by
  show st_m2.2.2.1 = _
  rw [st_m2_N]
theorem st_m4_A (a : Nat) (h : 114 ≤ a) : st_m4.2.1 a = false := by
  show (pm_set (st_m2.2.1) 2) a = _
  rw [set_ne (by omega), st_m2_A a h]
theorem st_m6_N : st_m6.2.2.1 = pm_dN (fun _ => false) := by
  show pm_up (pm_up (pm_up (pm_up (pm_up (pm_up (st_m4.2.2.1) 2 0 3) 2 4 4) 2 5 5) 2 6 6) 2 7 7) 2 8 8 = _
  rw [st_m4_N, up_id (f := pm_dN (fun _ => false)) (a := 2) (j := 0) (v := 3) rfl, up_id (f := pm_dN (fun _ => false)) (a := 2) (j := 4) (v := 4) rfl, up_id (f := pm_dN (fun _ => false)) (a := 2) (j := 5) (v := 5) rfl, up_id (f := pm_dN (fun _ => false)) (a := 2) (j := 6) (v := 6) rfl, up_id (f := pm_dN (fun _ => false)) (a := 2) (j := 7) (v := 7) rfl, up_id (f := pm_dN (fun _ => false)) (a := 2) (j := 8) (v := 8) rfl]
theorem st_m6_A (a : Nat) (h : 114 ≤ a) : st_m6.2.1 a = false := by
  show (pm_set (pm_set (pm_set (pm_set (pm_set (pm_set (pm_set (st_m4.2.1) 3) 4) 5) 6) 7) 8) 9) a = _
  rw [set_ne (by omega), set_ne (by omega), set_ne (by omega), set_ne (by omega), set_ne (by omega), set_ne (by omega), set_ne (by omega), st_m4_A a h]
theorem st_m8_N : st_m8.2.2.1 = pm_dN (fun _ => false) := by
  show pm_up (pm_up (pm_up (pm_up (st_m6.2.2.1) 9 5 10) 9 6 11) 9 7 12) 9 8 13 = _
  rw [st_m6_N, up_id (f := pm_dN (fun _ => false)) (a := 9) (j := 5) (v := 10) rfl, up_id (f := pm_dN (fun _ => false)) (a := 9) (j := 6) (v := 11) rfl, up_id (f := pm_dN (fun _ => false)) (a := 9) (j := 7) (v := 12) rfl, up_id (f := pm_dN (fun _ => false)) (a := 9) (j := 8) (v := 13) rfl]
theorem st_m8_A (a : Nat) (h : 114 ≤ a) : st_m8.2.1 a = false := by
  show (pm_set (pm_set (pm_set (pm_set (st_m6.2.1) 10) 11) 12) 13) a = _
  rw [set_ne (by omega), set_ne (by omega), set_ne (by omega), set_ne (by omega), st_m6_A a h]
theorem st_m10_N : st_m10.2.2.1 = pm_dN (fun _ => false) := by
  show st_m8.2.2.1 = _
  rw [st_m8_N]
theorem st_m10_A (a : Nat) (h : 114 ≤ a) : st_m10.2.1 a = false := by
  show (st_m8.2.1) a = _
  rw [st_m8_A a h]
theorem st_m12_N : st_m12.2.2.1 = pm_dN (fun _ => false) := by
  show pm_up (st_m10.2.2.1) 5 0 9 = _
  rw [st_m10_N, up_id (f := pm_dN (fun _ => false)) (a := 5) (j := 0) (v := 9) rfl]
theorem st_m12_A (a : Nat) (h : 114 ≤ a) : st_m12.2.1 a = false := by
  show (pm_set (st_m10.2.1) 19) a = _
  rw [set_ne (by omega), st_m10_A a h]
theorem st_m14_N : st_m14.2.2.1 = pm_dN (fun _ => false) := by
  show pm_up (pm_up (pm_up (st_m12.2.2.1) 19 1 20) 19 2 21) 19 3 22 = _
  rw [st_m12_N, up_id (f := pm_dN (fun _ => false)) (a := 19) (j := 1) (v := 20) rfl, up_id (f := pm_dN (fun _ => false)) (a := 19) (j := 2) (v := 21) rfl, up_id (f := pm_dN (fun _ => false)) (a := 19) (j := 3) (v := 22) rfl]
theorem st_m14_A (a : Nat) (h : 114 ≤ a) : st_m14.2.1 a = false := by
  show (pm_set (pm_set (pm_set (st_m12.2.1) 20) 21) 22) a = _
  rw [set_ne (by omega), set_ne (by omega), set_ne (by omega), st_m12_A a h]
theorem st_m16_N : st_m16.2.2.1 = pm_dN (fun _ => false) := by
  show pm_up (st_m14.2.2.1) 6 0 19 = _
  rw [st_m14_N, up_id (f := pm_dN (fun _ => false)) (a := 6) (j := 0) (v := 19) rfl]
theorem st_m16_A (a : Nat) (h : 114 ≤ a) : st_m16.2.1 a = false := by
  show (pm_set (st_m14.2.1) 27) a = _
  rw [set_ne (by omega), st_m14_A a h]
theorem st_m18_N : st_m18.2.2.1 = pm_dN (fun _ => false) := by
  show pm_up (pm_up (st_m16.2.2.1) 27 1 28) 27 2 29 = _
  rw [st_m16_N, up_id (f := pm_dN (fun _ => false)) (a := 27) (j := 1) (v := 28) rfl, up_id (f := pm_dN (fun _ => false)) (a := 27) (j := 2) (v := 29) rfl]
theorem st_m18_A (a : Nat) (h : 114 ≤ a) : st_m18.2.1 a = false := by
  show (pm_set (pm_set (st_m16.2.1) 28) 29) a = _
  rw [set_ne (by omega), set_ne (by omega), st_m16_A a h]
theorem st_m20_N : st_m20.2.2.1 = pm_dN (fun _ => false) := by
  show pm_up (st_m18.2.2.1) 8 0 27 = _
  rw [st_m18_N, up_id (f := pm_dN (fun _ => false)) (a := 8) (j := 0) (v := 27) rfl]
theorem st_m20_A (a : Nat) (h : 114 ≤ a) : st_m20.2.1 a = false := by
  show (pm_set (st_m18.2.1) 14) a = _
  rw [set_ne (by omega), st_m18_A a h]
theorem st_m22_N : st_m22.2.2.1 = pm_dN (fun _ => false) := by
  show pm_up (pm_up (pm_up (pm_up (st_m20.2.2.1) 14 5 15) 14 6 16) 14 7 17) 14 8 18 = _
  rw [st_m20_N, up_id (f := pm_dN (fun _ => false)) (a := 14) (j := 5) (v := 15) rfl, up_id (f := pm_dN (fun _ => false)) (a := 14) (j := 6) (v := 16) rfl, up_id (f := pm_dN (fun _ => false)) (a := 14) (j := 7) (v := 17) rfl, up_id (f := pm_dN (fun _ => false)) (a := 14) (j := 8) (v := 18) rfl]
theorem st_m22_A (a : Nat) (h : 114 ≤ a) : st_m22.2.1 a = false := by
  show (pm_set (pm_set (pm_set (pm_set (st_m20.2.1) 15) 16) 17) 18) a = _
  rw [set_ne (by omega), set_ne (by omega), set_ne (by omega), set_ne (by omega), st_m20_A a h]
theorem st_m24_N : st_m24.2.2.1 = pm_dN (fun _ => false) := by
  show st_m22.2.2.1 = _
  rw [st_m22_N]
theorem st_m24_A (a : Nat) (h : 114 ≤ a) : st_m24.2.1 a = false := by
  show (st_m22.2.1) a = _
  rw [st_m22_A a h]
theorem st_m26_N : st_m26.2.2.1 = pm_dN (fun _ => false) := by
  show pm_up (st_m24.2.2.1) 5 1 14 = _
  rw [st_m24_N, up_id (f := pm_dN (fun _ => false)) (a := 5) (j := 1) (v := 14) rfl]
theorem st_m26_A (a : Nat) (h : 114 ≤ a) : st_m26.2.1 a = false := by
  show (pm_set (st_m24.2.1) 23) a = _
  rw [set_ne (by omega), st_m24_A a h]
theorem st_m28_N : st_m28.2.2.1 = pm_dN (fun _ => false) := by
  show pm_up (pm_up (pm_up (st_m26.2.2.1) 23 1 24) 23 2 25) 23 3 26 = _
  rw [st_m26_N, up_id (f := pm_dN (fun _ => false)) (a := 23) (j := 1) (v := 24) rfl, up_id (f := pm_dN (fun _ => false)) (a := 23) (j := 2) (v := 25) rfl, up_id (f := pm_dN (fun _ => false)) (a := 23) (j := 3) (v := 26) rfl]
theorem st_m28_A (a : Nat) (h : 114 ≤ a) : st_m28.2.1 a = false := by
  show (pm_set (pm_set (pm_set (st_m26.2.1) 24) 25) 26) a = _
  rw [set_ne (by omega), set_ne (by omega), set_ne (by omega), st_m26_A a h]
theorem st_m30_N : st_m30.2.2.1 = pm_dN (fun _ => false) := by
  show pm_up (st_m28.2.2.1) 6 1 23 = _
  rw [st_m28_N, up_id (f := pm_dN (fun _ => false)) (a := 6) (j := 1) (v := 23) rfl]
theorem st_m30_A (a : Nat) (h : 114 ≤ a) : st_m30.2.1 a = false := by
  show (pm_set (st_m28.2.1) 30) a = _
  rw [set_ne (by omega), st_m28_A a h]
theorem st_m32_N : st_m32.2.2.1 = pm_dN (fun _ => false) := by
  show pm_up (pm_up (st_m30.2.2.1) 30 1 31) 30 2 32 = _
  rw [st_m30_N, up_id (f := pm_dN (fun _ => false)) (a := 30) (j := 1) (v := 31) rfl, up_id (f := pm_dN (fun _ => false)) (a := 30) (j := 2) (v := 32) rfl]
theorem st_m32_A (a : Nat) (h : 114 ≤ a) : st_m32.2.1 a = false := by
  show (pm_set (pm_set (st_m30.2.1) 31) 32) a = _
  rw [set_ne (by omega), set_ne (by omega), st_m30_A a h]
theorem st_m34_N : st_m34.2.2.1 = pm_dN (fun _ => false) := by
  show pm_up (st_m32.2.2.1) 8 1 30 = _
  rw [st_m32_N, up_id (f := pm_dN (fun _ => false)) (a := 8) (j := 1) (v := 30) rfl]
theorem st_m34_A (a : Nat) (h : 114 ≤ a) : st_m34.2.1 a = false := by
  show (st_m32.2.1) a = _
  rw [st_m32_A a h]
theorem st_m36_N : st_m36.2.2.1 = pm_dN (fun _ => false) := by
  show pm_up (pm_up (st_m34.2.2.1) 1 0 2) 1 1 33 = _
  rw [st_m34_N, up_id (f := pm_dN (fun _ => false)) (a := 1) (j := 0) (v := 2) rfl, up_id (f := pm_dN (fun _ => false)) (a := 1) (j := 1) (v := 33) rfl]
theorem st_m36_A (a : Nat) (h : 114 ≤ a) : st_m36.2.1 a = false := by
  show (pm_set (pm_set (st_m34.2.1) 33) 34) a = _
  rw [set_ne (by omega), set_ne (by omega), st_m34_A a h]
theorem st_m38_N : st_m38.2.2.1 = pm_dN (fun _ => false) := by
  show st_m36.2.2.1 = _
  rw [st_m36_N]
theorem st_m38_A (a : Nat) (h : 114 ≤ a) : st_m38.2.1 a = false := by
  show (pm_set (st_m36.2.1) 35) a = _
  rw [set_ne (by omega), st_m36_A a h]
theorem st_m40_N : st_m40.2.2.1 = pm_dN (fun _ => false) := by
  show pm_up (pm_up (pm_up (pm_up (st_m38.2.2.1) 35 5 36) 35 6 37) 35 7 38) 35 8 39 = _
  rw [st_m38_N, up_id (f := pm_dN (fun _ => false)) (a := 35) (j := 5) (v := 36) rfl, up_id (f := pm_dN (fun _ => false)) (a := 35) (j := 6) (v := 37) rfl, up_id (f := pm_dN (fun _ => false)) (a := 35) (j := 7) (v := 38) rfl, up_id (f := pm_dN (fun _ => false)) (a := 35) (j := 8) (v := 39) rfl]
theorem st_m40_A (a : Nat) (h : 114 ≤ a) : st_m40.2.1 a = false := by
  show (pm_set (pm_set (pm_set (pm_set (st_m38.2.1) 36) 37) 38) 39) a = _
  rw [set_ne (by omega), set_ne (by omega), set_ne (by omega), set_ne (by omega), st_m38_A a h]
theorem st_m42_N : st_m42.2.2.1 = pm_dN (fun _ => false) := by
  show st_m40.2.2.1 = _
  rw [st_m40_N]
theorem st_m42_A (a : Nat) (h : 114 ≤ a) : st_m42.2.1 a = false := by
  show (st_m40.2.1) a = _
  rw [st_m40_A a h]
theorem st_m44_N : st_m44.2.2.1 = pm_dN (fun _ => false) := by
  show pm_up (st_m42.2.2.1) 34 0 35 = _
  rw [st_m42_N, up_id (f := pm_dN (fun _ => false)) (a := 34) (j := 0) (v := 35) rfl]
theorem st_m44_A (a : Nat) (h : 114 ≤ a) : st_m44.2.1 a = false := by
  show (pm_set (st_m42.2.1) 40) a = _
  rw [set_ne (by omega), st_m42_A a h]
theorem st_m46_N : st_m46.2.2.1 = pm_dN (fun _ => false) := by
  show pm_up (pm_up (pm_up (st_m44.2.2.1) 40 1 41) 40 2 42) 40 3 43 = _
  rw [st_m44_N, up_id (f := pm_dN (fun _ => false)) (a := 40) (j := 1) (v := 41) rfl, up_id (f := pm_dN (fun _ => false)) (a := 40) (j := 2) (v := 42) rfl, up_id (f := pm_dN (fun _ => false)) (a := 40) (j := 3) (v := 43) rfl]
theorem st_m46_A (a : Nat) (h : 114 ≤ a) : st_m46.2.1 a = false := by
  show (pm_set (pm_set (pm_set (st_m44.2.1) 41) 42) 43) a = _
  rw [set_ne (by omega), set_ne (by omega), set_ne (by omega), st_m44_A a h]
theorem st_m48_N : st_m48.2.2.1 = pm_dN (fun _ => false) := by
  show pm_up (st_m46.2.2.1) 34 1 40 = _
  rw [st_m46_N, up_id (f := pm_dN (fun _ => false)) (a := 34) (j := 1) (v := 40) rfl]
theorem st_m48_A (a : Nat) (h : 114 ≤ a) : st_m48.2.1 a = false := by
  show (pm_set (st_m46.2.1) 44) a = _
  rw [set_ne (by omega), st_m46_A a h]
theorem st_m50_N : st_m50.2.2.1 = pm_dN (fun _ => false) := by
  show pm_up (pm_up (st_m48.2.2.1) 44 1 45) 44 2 46 = _
  rw [st_m48_N, up_id (f := pm_dN (fun _ => false)) (a := 44) (j := 1) (v := 45) rfl, up_id (f := pm_dN (fun _ => false)) (a := 44) (j := 2) (v := 46) rfl]
theorem st_m50_A (a : Nat) (h : 114 ≤ a) : st_m50.2.1 a = false := by
  show (pm_set (pm_set (st_m48.2.1) 45) 46) a = _
  rw [set_ne (by omega), set_ne (by omega), st_m48_A a h]
theorem st_m52_N : st_m52.2.2.1 = pm_dN (fun _ => false) := by
  show pm_up (pm_up (pm_up (st_m50.2.2.1) 34 2 44) 34 6 47) 34 11 48 = _
  rw [st_m50_N, up_id (f := pm_dN (fun _ => false)) (a := 34) (j := 2) (v := 44) rfl, up_id (f := pm_dN (fun _ => false)) (a := 34) (j := 6) (v := 47) rfl, up_id (f := pm_dN (fun _ => false)) (a := 34) (j := 11) (v := 48) rfl]
theorem st_m52_A (a : Nat) (h : 114 ≤ a) : st_m52.2.1 a = false := by
  show (pm_set (pm_set (st_m50.2.1) 47) 48) a = _
  rw [set_ne (by omega), set_ne (by omega), st_m50_A a h]
theorem st_m54_N : st_m54.2.2.1 = pm_dN (fun _ => false) := by
  show pm_up (st_m52.2.2.1) 1 2 34 = _
  rw [st_m52_N, up_id (f := pm_dN (fun _ => false)) (a := 1) (j := 2) (v := 34) rfl]
theorem st_m54_A (a : Nat) (h : 114 ≤ a) : st_m54.2.1 a = false := by
  show (pm_set (st_m52.2.1) 49) a = _
  rw [set_ne (by omega), st_m52_A a h]
theorem st_m56_N : st_m56.2.2.1 = pm_dN (fun _ => false) := by
  show pm_up (pm_up (pm_up (pm_up (pm_up (pm_up (pm_up (pm_up (pm_up (pm_up (st_m54.2.2.1) 49 5 50) 49 6 51) 49 7 52) 49 8 53) 49 9 54) 49 10 55) 49 11 56) 49 12 57) 49 13 58) 49 14 59 = _
  rw [st_m54_N, up_id (f := pm_dN (fun _ => false)) (a := 49) (j := 5) (v := 50) rfl, up_id (f := pm_dN (fun _ => false)) (a := 49) (j := 6) (v := 51) rfl, up_id (f := pm_dN (fun _ => false)) (a := 49) (j := 7) (v := 52) rfl, up_id (f := pm_dN (fun _ => false)) (a := 49) (j := 8) (v := 53) rfl, up_id (f := pm_dN (fun _ => false)) (a := 49) (j := 9) (v := 54) rfl, up_id (f := pm_dN (fun _ => false)) (a := 49) (j := 10) (v := 55) rfl, up_id (f := pm_dN (fun _ => false)) (a := 49) (j := 11) (v := 56) rfl, up_id (f := pm_dN (fun _ => false)) (a := 49) (j := 12) (v := 57) rfl, up_id (f := pm_dN (fun _ => false)) (a := 49) (j := 13) (v := 58) rfl, up_id (f := pm_dN (fun _ => false)) (a := 49) (j := 14) (v := 59) rfl]
theorem st_m56_A (a : Nat) (h : 114 ≤ a) : st_m56.2.1 a = false := by
  show (pm_set (pm_set (pm_set (pm_set (pm_set (pm_set (pm_set (pm_set (pm_set (pm_set (st_m54.2.1) 50) 51) 52) 53) 54) 55) 56) 57) 58) 59) a = _
  rw [set_ne (by omega), set_ne (by omega), set_ne (by omega), set_ne (by omega), set_ne (by omega), set_ne (by omega), set_ne (by omega), set_ne (by omega), set_ne (by omega), set_ne (by omega), st_m54_A a h]
theorem st_m58_N : st_m58.2.2.1 = pm_dN (fun _ => false) := by
  show pm_up (st_m56.2.2.1) 1 3 49 = _
  rw [st_m56_N, up_id (f := pm_dN (fun _ => false)) (a := 1) (j := 3) (v := 49) rfl]
theorem st_m58_A (a : Nat) (h : 114 ≤ a) : st_m58.2.1 a = false := by
  show (pm_set (st_m56.2.1) 60) a = _
  rw [set_ne (by omega), st_m56_A a h]
theorem st_m60_N : st_m60.2.2.1 = pm_dN (fun _ => false) := by
  show pm_up ((fun b j => cond (Nat.beq b 63 && Nat.ble j 8) (64 + j) ((pm_up (pm_up (st_m58.2.2.1) 60 1 61) 60 5 62) b j))) 60 6 63 = _
  rw [st_m58_N, up_id (f := pm_dN (fun _ => false)) (a := 60) (j := 1) (v := 61) rfl, up_id (f := pm_dN (fun _ => false)) (a := 60) (j := 5) (v := 62) rfl, mu_id, up_id (f := pm_dN (fun _ => false)) (a := 60) (j := 6) (v := 63) rfl]
theorem st_m60_A (a : Nat) (h : 114 ≤ a) : st_m60.2.1 a = false := by
  show ((fun b => cond (Nat.ble 63 b && Nat.ble b 72) true ((pm_set (pm_set (st_m58.2.1) 61) 62) b))) a = _
  show cond (Nat.ble 63 a && Nat.ble a 72) true ((pm_set (pm_set (st_m58.2.1) 61) 62) a) = false
  rw [ble_f (a := a) (b := 72) (by omega), Bool.and_false, cond_false, set_ne (by omega), set_ne (by omega), st_m58_A a h]
theorem st_m62_N : st_m62.2.2.1 = pm_dN (fun _ => false) := by
  show pm_up (st_m60.2.2.1) 1 4 60 = _
  rw [st_m60_N, up_id (f := pm_dN (fun _ => false)) (a := 1) (j := 4) (v := 60) rfl]
theorem st_m62_A (a : Nat) (h : 114 ≤ a) : st_m62.2.1 a = false := by
  show (pm_set (st_m60.2.1) 73) a = _
  rw [set_ne (by omega), st_m60_A a h]
theorem st_m64_N : st_m64.2.2.1 = pm_dN (fun _ => false) := by
  show pm_up (pm_up (st_m62.2.2.1) 73 0 74) 73 1 75 = _
  rw [st_m62_N, up_id (f := pm_dN (fun _ => false)) (a := 73) (j := 0) (v := 74) rfl, up_id (f := pm_dN (fun _ => false)) (a := 73) (j := 1) (v := 75) rfl]
theorem st_m64_A (a : Nat) (h : 114 ≤ a) : st_m64.2.1 a = false := by
  show (pm_set (pm_set (st_m62.2.1) 74) 75) a = _
  rw [set_ne (by omega), set_ne (by omega), st_m62_A a h]
theorem st_m66_N : st_m66.2.2.1 = pm_dN (fun _ => false) := by
  show pm_up (st_m64.2.2.1) 1 5 73 = _
  rw [st_m64_N, up_id (f := pm_dN (fun _ => false)) (a := 1) (j := 5) (v := 73) rfl]
theorem st_m66_A (a : Nat) (h : 114 ≤ a) : st_m66.2.1 a = false := by
  show (pm_set (st_m64.2.1) 76) a = _
  rw [set_ne (by omega), st_m64_A a h]
theorem st_m68_N : st_m68.2.2.1 = pm_dN (fun _ => false) := by
  show pm_up (st_m66.2.2.1) 76 3 77 = _
  rw [st_m66_N, up_id (f := pm_dN (fun _ => false)) (a := 76) (j := 3) (v := 77) rfl]
theorem st_m68_A (a : Nat) (h : 114 ≤ a) : st_m68.2.1 a = false := by
  show (pm_set (st_m66.2.1) 77) a = _
  rw [set_ne (by omega), st_m66_A a h]
theorem st_m70_N : st_m70.2.2.1 = pm_dN (fun _ => false) := by
  show pm_up (pm_up (pm_up (pm_up (st_m68.2.2.1) 1 6 76) 1 7 78) 1 8 79) 1 9 80 = _
  rw [st_m68_N, up_id (f := pm_dN (fun _ => false)) (a := 1) (j := 6) (v := 76) rfl, up_id (f := pm_dN (fun _ => false)) (a := 1) (j := 7) (v := 78) rfl, up_id (f := pm_dN (fun _ => false)) (a := 1) (j := 8) (v := 79) rfl, up_id (f := pm_dN (fun _ => false)) (a := 1) (j := 9) (v := 80) rfl]
theorem st_m70_A (a : Nat) (h : 114 ≤ a) : st_m70.2.1 a = false := by
  show (pm_set (pm_set (pm_set (st_m68.2.1) 78) 79) 80) a = _
  rw [set_ne (by omega), set_ne (by omega), set_ne (by omega), st_m68_A a h]
theorem st_m72_N : st_m72.2.2.1 = pm_dN (fun _ => false) := by
  show st_m70.2.2.1 = _
  rw [st_m70_N]
theorem st_m72_A (a : Nat) (h : 114 ≤ a) : st_m72.2.1 a = false := by
  show (pm_set (st_m70.2.1) 81) a = _
  rw [set_ne (by omega), st_m70_A a h]
theorem st_m74_N : st_m74.2.2.1 = pm_dN (fun _ => false) := by
  show pm_up (pm_up (pm_up (pm_up (pm_up (pm_up (pm_up (pm_up (pm_up (pm_up (pm_up (pm_up (pm_up (pm_up (pm_up (pm_up (pm_up (pm_up (pm_up (pm_up (pm_up (pm_up (pm_up (pm_up (pm_up (pm_up (pm_up (pm_up (pm_up (pm_up (pm_up (pm_up (st_m72.2.2.1) 81 1 82) 81 2 83) 81 3 84) 81 4 85) 81 5 86) 81 6 87) 81 7 88) 81 8 89) 81 9 90) 81 19 91) 81 20 92) 81 26 93) 81 30 94) 81 31 95) 81 32 96) 81 33 97) 81 34 98) 81 35 99) 81 36 100) 81 41 101) 81 42 102) 81 43 103) 81 46 104) 81 47 105) 81 49 106) 81 50 107) 81 53 108) 81 54 109) 81 55 110) 81 60 111) 81 61 112) 81 62 113 = _
  rw [st_m72_N, up_id (f := pm_dN (fun _ => false)) (a := 81) (j := 1) (v := 82) rfl, up_id (f := pm_dN (fun _ => false)) (a := 81) (j := 2) (v := 83) rfl, up_id (f := pm_dN (fun _ => false)) (a := 81) (j := 3) (v := 84) rfl, up_id (f := pm_dN (fun _ => false)) (a := 81) (j := 4) (v := 85) rfl, up_id (f := pm_dN (fun _ => false)) (a := 81) (j := 5) (v := 86) rfl, up_id (f := pm_dN (fun _ => false)) (a := 81) (j := 6) (v := 87) rfl, up_id (f := pm_dN (fun _ => false)) (a := 81) (j := 7) (v := 88) rfl, up_id (f := pm_dN (fun _ => false)) (a := 81) (j := 8) (v := 89) rfl, up_id (f := pm_dN (fun _ => false)) (a := 81) (j := 9) (v := 90) rfl, up_id (f := pm_dN (fun _ => false)) (a := 81) (j := 19) (v := 91) rfl, up_id (f := pm_dN (fun _ => false)) (a := 81) (j := 20) (v := 92) rfl, up_id (f := pm_dN (fun _ => false)) (a := 81) (j := 26) (v := 93) rfl, up_id (f := pm_dN (fun _ => false)) (a := 81) (j := 30) (v := 94) rfl, up_id (f := pm_dN (fun _ => false)) (a := 81) (j := 31) (v := 95) rfl, up_id (f := pm_dN (fun _ => false)) (a := 81) (j := 32) (v := 96) rfl, up_id (f := pm_dN (fun _ => false)) (a := 81) (j := 33) (v := 97) rfl, up_id (f := pm_dN (fun _ => false)) (a := 81) (j := 34) (v := 98) rfl, up_id (f := pm_dN (fun _ => false)) (a := 81) (j := 35) (v := 99) rfl, up_id (f := pm_dN (fun _ => false)) (a := 81) (j := 36) (v := 100) rfl, up_id (f := pm_dN (fun _ => false)) (a := 81) (j := 41) (v := 101) rfl, up_id (f := pm_dN (fun _ => false)) (a := 81) (j := 42) (v := 102) rfl, up_id (f := pm_dN (fun _ => false)) (a := 81) (j := 43) (v := 103) rfl, up_id (f := pm_dN (fun _ => false)) (a := 81) (j := 46) (v := 104) rfl, up_id (f := pm_dN (fun _ => false)) (a := 81) (j := 47) (v := 105) rfl, up_id (f := pm_dN (fun _ => false)) (a := 81) (j := 49) (v := 106) rfl, up_id (f := pm_dN (fun _ => false)) (a := 81) (j := 50) (v := 107) rfl, up_id (f := pm_dN (fun _ => false)) (a := 81) (j := 53) (v := 108) rfl, up_id (f := pm_dN (fun _ => false)) (a := 81) (j := 54) (v := 109) rfl, up_id (f := pm_dN (fun _ => false)) (a := 81) (j := 55) (v := 110) rfl, up_id (f := pm_dN (fun _ => false)) (a := 81) (j := 60) (v := 111) rfl, up_id (f := pm_dN (fun _ => false)) (a := 81) (j := 61) (v := 112) rfl, up_id (f := pm_dN (fun _ => false)) (a := 81) (j := 62) (v := 113) rfl]
theorem st_m74_A (a : Nat) (h : 114 ≤ a) : st_m74.2.1 a = false := by
  show (pm_set (pm_set (pm_set (pm_set (pm_set (pm_set (pm_set (pm_set (pm_set (pm_set (pm_set (pm_set (pm_set (pm_set (pm_set (pm_set (pm_set (pm_set (pm_set (pm_set (pm_set (pm_set (pm_set (pm_set (pm_set (pm_set (pm_set (pm_set (pm_set (pm_set (pm_set (pm_set (st_m72.2.1) 82) 83) 84) 85) 86) 87) 88) 89) 90) 91) 92) 93) 94) 95) 96) 97) 98) 99) 100) 101) 102) 103) 104) 105) 106) 107) 108) 109) 110) 111) 112) 113) a = _
  rw [set_ne (by omega), set_ne (by omega), set_ne (by omega), set_ne (by omega), set_ne (by omega), set_ne (by omega), set_ne (by omega), set_ne (by omega), set_ne (by omega), set_ne (by omega), set_ne (by omega), set_ne (by omega), set_ne (by omega), set_ne (by omega), set_ne (by omega), set_ne (by omega), set_ne (by omega), set_ne (by omega), set_ne (by omega), set_ne (by omega), set_ne (by omega), set_ne (by omega), set_ne (by omega), set_ne (by omega), set_ne (by omega), set_ne (by omega), set_ne (by omega), set_ne (by omega), set_ne (by omega), set_ne (by omega), set_ne (by omega), set_ne (by omega), st_m72_A a h]
theorem st_A : st_m74.2.1 = pm_dB (fun _ => false) := by
  funext a
  by_cases h : a < 114
  · have : ∀ a : Fin 114, st_m74.2.1 a.val = pm_dB (fun _ => false) a.val := by decide +kernel
    exact this ⟨a, h⟩
  · rw [st_m74_A a (by omega)]
    have e1 : Nat.ble 114 a = true := Nat.ble_eq_true_of_le (by omega)
    rw [pm_dB, e1]
    generalize Nat.ble 120 a = c1
    generalize Nat.ble 220 a = c2
    generalize Nat.ble 226 a = c3
    generalize Nat.ble 229 a = c4
    generalize Nat.ble 232 a = c5
    generalize Nat.ble 223 a = c6
    generalize Nat.ble 151 a = c7
    generalize Nat.ble 182 a = c8
    generalize Nat.ble 213 a = c9
    cases c1 <;> cases c2 <;> cases c3 <;> cases c4 <;> cases c5 <;> cases c6 <;> cases c7 <;> cases c8 <;> cases c9 <;> rfl
def st_al : List Nat := st_m74.1
def st_I : Nat → Nat → Int32 := st_m74.2.2.2.1
def st_L : Nat → Nat → Int64 := st_m74.2.2.2.2
theorem st_mm : st_m74 = pm_mm st_al (fun _ => false) st_I st_L := by
  show (_, st_m74.2.1, st_m74.2.2.1, _, _) = _
  rw [st_A, st_m74_N]; rfl
end
