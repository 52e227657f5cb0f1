section
theorem ble_f {a b : Nat} (h : b < a) : Nat.ble a b = false := by
  cases c : Nat.ble a b with
  | false => rfl
  | true => have := Nat.le_of_ble_eq_true c; omega
theorem st_m0_Z (a j : Nat) (h : 114 ≤ a ∨ 70 ≤ j) : st_m0.2.2.1 a j = 0 := rfl
theorem st_m0_A (a : Nat) (h : 114 ≤ a) : st_m0.2.1 a = false := rfl
theorem st_m2_Z (a j : Nat) (h : 114 ≤ a ∨ 70 ≤ j) : st_m2.2.2.1 a j = 0 := by
  show (st_m0.2.2.1) a j = _
  rw [st_m0_Z a j h]
theorem st_m2_A (a : Nat) (h : 114 ≤ a) : st_m2.2.1 a = false := by
  show (pm_set (st_m0.2.1) 1) a = _
  rw [set_ne (by omega), st_m0_A a h]
theorem st_m4_Z (a j : Nat) (h : 114 ≤ a ∨ 70 ≤ j) : st_m4.2.2.1 a j = 0 := by
  show (st_m2.2.2.1) a j = _
  rw [st_m2_Z a j h]
theorem st_m4_A (a : Nat) (h : 114 ≤ a) : st_m4.2.1 a = false := by
  show (pm_set (st_m2.2.1) 2) a = _
  rw [set_ne (by omega), st_m2_A a h]
theorem st_m6_Z (a j : Nat) (h : 114 ≤ a ∨ 70 ≤ j) : st_m6.2.2.1 a j = 0 := by
  show (pm_up (pm_up (pm_up (pm_up (pm_up (pm_up (st_m4.2.2.1) 2 0 3) 2 4 4) 2 5 5) 2 6 6) 2 7 7) 2 8 8) a j = _
  rw [up_ne (by omega), up_ne (by omega), up_ne (by omega), up_ne (by omega), up_ne (by omega), up_ne (by omega), st_m4_Z a j h]
theorem st_m6_A (a : Nat) (h : 114 ≤ a) : st_m6.2.1 a = false := by
  show (pm_set (pm_set (pm_set (pm_set (pm_set (pm_set (pm_set (st_m4.2.1) 3) 4) 5) 6) 7) 8) 9) a = _
  rw [set_ne (by omega), set_ne (by omega), set_ne (by omega), set_ne (by omega), set_ne (by omega), set_ne (by omega), set_ne (by omega), st_m4_A a h]
theorem st_m8_Z (a j : Nat) (h : 114 ≤ a ∨ 70 ≤ j) : st_m8.2.2.1 a j = 0 := by
  show (pm_up (pm_up (pm_up (pm_up (st_m6.2.2.1) 9 5 10) 9 6 11) 9 7 12) 9 8 13) a j = _
  rw [up_ne (by omega), up_ne (by omega), up_ne (by omega), up_ne (by omega), st_m6_Z a j h]
theorem st_m8_A (a : Nat) (h : 114 ≤ a) : st_m8.2.1 a = false := by
  show (pm_set (pm_set (pm_set (pm_set (st_m6.2.1) 10) 11) 12) 13) a = _
  rw [set_ne (by omega), set_ne (by omega), set_ne (by omega), set_ne (by omega), st_m6_A a h]
theorem st_m10_Z (a j : Nat) (h : 114 ≤ a ∨ 70 ≤ j) : st_m10.2.2.1 a j = 0 := by
  show (st_m8.2.2.1) a j = _
  rw [st_m8_Z a j h]
theorem st_m10_A (a : Nat) (h : 114 ≤ a) : st_m10.2.1 a = false := by
  show (st_m8.2.1) a = _
  rw [st_m8_A a h]
theorem st_m12_Z (a j : Nat) (h : 114 ≤ a ∨ 70 ≤ j) : st_m12.2.2.1 a j = 0 := by
  show (pm_up (st_m10.2.2.1) 5 0 9) a j = _
  rw [up_ne (by omega), st_m10_Z a j h]
theorem st_m12_A (a : Nat) (h : 114 ≤ a) : st_m12.2.1 a = false := by
  show (pm_set (st_m10.2.1) 19) a = _
  rw [set_ne (by omega), st_m10_A a h]
theorem st_m14_Z (a j : Nat) (h : 114 ≤ a ∨ 70 ≤ j) : st_m14.2.2.1 a j = 0 := by
  show (pm_up (pm_up (pm_up (st_m12.2.2.1) 19 1 20) 19 2 21) 19 3 22) a j = _
  rw [up_ne (by omega), up_ne (by omega), up_ne (by omega), st_m12_Z a j h]
theorem st_m14_A (a : Nat) (h : 114 ≤ a) : st_m14.2.1 a = false := by
  show (pm_set (pm_set (pm_set (st_m12.2.1) 20) 21) 22) a = _
  rw [set_ne (by omega), set_ne (by omega), set_ne (by omega), st_m12_A a h]
theorem st_m16_Z (a j : Nat) (h : 114 ≤ a ∨ 70 ≤ j) : st_m16.2.2.1 a j = 0 := by
  show (pm_up (st_m14.2.2.1) 6 0 19) a j = _
  rw [up_ne (by omega), st_m14_Z a j h]
theorem st_m16_A (a : Nat) (h : 114 ≤ a) : st_m16.2.1 a = false := by
  show (pm_set (st_m14.2.1) 27) a = _
  rw [set_ne (by omega), st_m14_A a h]
theorem st_m18_Z (a j : Nat) (h : 114 ≤ a ∨ 70 ≤ j) : st_m18.2.2.1 a j = 0 := by
  show (pm_up (pm_up (st_m16.2.2.1) 27 1 28) 27 2 29) a j = _
  rw [up_ne (by omega), up_ne (by omega), st_m16_Z a j h]
theorem st_m18_A (a : Nat) (h : 114 ≤ a) : st_m18.2.1 a = false := by
  show (pm_set (pm_set (st_m16.2.1) 28) 29) a = _
  rw [set_ne (by omega), set_ne (by omega), st_m16_A a h]
theorem st_m20_Z (a j : Nat) (h : 114 ≤ a ∨ 70 ≤ j) : st_m20.2.2.1 a j = 0 := by
  show (pm_up (st_m18.2.2.1) 8 0 27) a j = _
  rw [up_ne (by omega), st_m18_Z a j h]
theorem st_m20_A (a : Nat) (h : 114 ≤ a) : st_m20.2.1 a = false := by
  show (pm_set (st_m18.2.1) 14) a = _
  rw [set_ne (by omega), st_m18_A a h]
theorem st_m22_Z (a j : Nat) (h : 114 ≤ a ∨ 70 ≤ j) : st_m22.2.2.1 a j = 0 := by
  show (pm_up (pm_up (pm_up (pm_up (st_m20.2.2.1) 14 5 15) 14 6 16) 14 7 17) 14 8 18) a j = _
  rw [up_ne (by omega), up_ne (by omega), up_ne (by omega), up_ne (by omega), st_m20_Z a j h]
theorem st_m22_A (a : Nat) (h : 114 ≤ a) : st_m22.2.1 a = false := by
  show (pm_set (pm_set (pm_set (pm_set (st_m20.2.1) 15) 16) 17) 18) a = _
  rw [set_ne (by omega), set_ne (by omega), set_ne (by omega), set_ne (by omega), st_m20_A a h]
theorem st_m24_Z (a j : Nat) (h : 114 ≤ a ∨ 70 ≤ j) : st_m24.2.2.1 a j = 0 := by
  show (st_m22.2.2.1) a j = _
  rw [st_m22_Z a j h]
theorem st_m24_A (a : Nat) (h : 114 ≤ a) : st_m24.2.1 a = false := by
  show (st_m22.2.1) a = _
  rw [st_m22_A a h]
theorem st_m26_Z (a j : Nat) (h : 114 ≤ a ∨ 70 ≤ j) : st_m26.2.2.1 a j = 0 := by
  show (pm_up (st_m24.2.2.1) 5 1 14) a j = _
  rw [up_ne (by omega), st_m24_Z a j h]
theorem st_m26_A (a : Nat) (h : 114 ≤ a) : st_m26.2.1 a = false := by
  show (pm_set (st_m24.2.1) 23) a = _
  rw [set_ne (by omega), st_m24_A a h]
theorem st_m28_Z (a j : Nat) (h : 114 ≤ a ∨ 70 ≤ j) : st_m28.2.2.1 a j = 0 := by
  show (pm_up (pm_up (pm_up (st_m26.2.2.1) 23 1 24) 23 2 25) 23 3 26) a j = _
  rw [up_ne (by omega), up_ne (by omega), up_ne (by omega), st_m26_Z a j h]
theorem st_m28_A (a : Nat) (h : 114 ≤ a) : st_m28.2.1 a = false := by
  show (pm_set (pm_set (pm_set (st_m26.2.1) 24) 25) 26) a = _
  rw [set_ne (by omega), set_ne (by omega), set_ne (by omega), st_m26_A a h]
theorem st_m30_Z (a j : Nat) (h : 114 ≤ a ∨ 70 ≤ j) : st_m30.2.2.1 a j = 0 := by
  show (pm_up (st_m28.2.2.1) 6 1 23) a j = _
  rw [up_ne (by omega), st_m28_Z a j h]
theorem st_m30_A (a : Nat) (h : 114 ≤ a) : st_m30.2.1 a = false := by
  show (pm_set (st_m28.2.1) 30) a = _
  rw [set_ne (by omega), st_m28_A a h]
theorem st_m32_Z (a j : Nat) (h : 114 ≤ a ∨ 70 ≤ j) : st_m32.2.2.1 a j = 0 := by
  show (pm_up (pm_up (st_m30.2.2.1) 30 1 31) 30 2 32) a j = _
  rw [up_ne (by omega), up_ne (by omega), st_m30_Z a j h]
theorem st_m32_A (a : Nat) (h : 114 ≤ a) : st_m32.2.1 a = false := by
  show (pm_set (pm_set (st_m30.2.1) 31) 32) a = _
  rw [set_ne (by omega), set_ne (by omega), st_m30_A a h]
theorem st_m34_Z (a j : Nat) (h : 114 ≤ a ∨ 70 ≤ j) : st_m34.2.2.1 a j = 0 := by
  show (pm_up (st_m32.2.2.1) 8 1 30) a j = _
  rw [up_ne (by omega), st_m32_Z a j h]
theorem st_m34_A (a : Nat) (h : 114 ≤ a) : st_m34.2.1 a = false := by
  show (st_m32.2.1) a = _
  rw [st_m32_A a h]
theorem st_m36_Z (a j : Nat) (h : 114 ≤ a ∨ 70 ≤ j) : st_m36.2.2.1 a j = 0 := by
  show (pm_up (pm_up (st_m34.2.2.1) 1 0 2) 1 1 33) a j = _
  rw [up_ne (by omega), up_ne (by omega), st_m34_Z a j h]
theorem st_m36_A (a : Nat) (h : 114 ≤ a) : st_m36.2.1 a = false := by
  show (pm_set (pm_set (st_m34.2.1) 33) 34) a = _
  rw [set_ne (by omega), set_ne (by omega), st_m34_A a h]
theorem st_m38_Z (a j : Nat) (h : 114 ≤ a ∨ 70 ≤ j) : st_m38.2.2.1 a j = 0 := by
  show (st_m36.2.2.1) a j = _
  rw [st_m36_Z a j h]
theorem st_m38_A (a : Nat) (h : 114 ≤ a) : st_m38.2.1 a = false := by
  show (pm_set (st_m36.2.1) 35) a = _
  rw [set_ne (by omega), st_m36_A a h]
theorem st_m40_Z (a j : Nat) (h : 114 ≤ a ∨ 70 ≤ j) : st_m40.2.2.1 a j = 0 := by
  show (pm_up (pm_up (pm_up (pm_up (st_m38.2.2.1) 35 5 36) 35 6 37) 35 7 38) 35 8 39) a j = _
  rw [up_ne (by omega), up_ne (by omega), up_ne (by omega), up_ne (by omega), st_m38_Z a j h]
theorem st_m40_A (a : Nat) (h : 114 ≤ a) : st_m40.2.1 a = false := by
  show (pm_set (pm_set (pm_set (pm_set (st_m38.2.1) 36) 37) 38) 39) a = _
  rw [set_ne (by omega), set_ne (by omega), set_ne (by omega), set_ne (by omega), st_m38_A a h]
theorem st_m42_Z (a j : Nat) (h : 114 ≤ a ∨ 70 ≤ j) : st_m42.2.2.1 a j = 0 := by
  show (st_m40.2.2.1) a j = _
  rw [st_m40_Z a j h]
theorem st_m42_A (a : Nat) (h : 114 ≤ a) : st_m42.2.1 a = false := by
  show (st_m40.2.1) a = _
  rw [st_m40_A a h]
theorem st_m44_Z (a j : Nat) (h : 114 ≤ a ∨ 70 ≤ j) : st_m44.2.2.1 a j = 0 := by
  show (pm_up (st_m42.2.2.1) 34 0 35) a j = _
  rw [up_ne (by omega), st_m42_Z a j h]
theorem st_m44_A (a : Nat) (h : 114 ≤ a) : st_m44.2.1 a = false := by
  show (pm_set (st_m42.2.1) 40) a = _
  rw [set_ne (by omega), st_m42_A a h]
theorem st_m46_Z (a j : Nat) (h : 114 ≤ a ∨ 70 ≤ j) : st_m46.2.2.1 a j = 0 := by
  show (pm_up (pm_up (pm_up (st_m44.2.2.1) 40 1 41) 40 2 42) 40 3 43) a j = _
  rw [up_ne (by omega), up_ne (by omega), up_ne (by omega), st_m44_Z a j h]
theorem st_m46_A (a : Nat) (h : 114 ≤ a) : st_m46.2.1 a = false := by
  show (pm_set (pm_set (pm_set (st_m44.2.1) 41) 42) 43) a = _
  rw [set_ne (by omega), set_ne (by omega), set_ne (by omega), st_m44_A a h]
theorem st_m48_Z (a j : Nat) (h : 114 ≤ a ∨ 70 ≤ j) : st_m48.2.2.1 a j = 0 := by
  show (pm_up (st_m46.2.2.1) 34 1 40) a j = _
  rw [up_ne (by omega), st_m46_Z a j h]
theorem st_m48_A (a : Nat) (h : 114 ≤ a) : st_m48.2.1 a = false := by
  show (pm_set (st_m46.2.1) 44) a = _
  rw [set_ne (by omega), st_m46_A a h]
theorem st_m50_Z (a j : Nat) (h : 114 ≤ a ∨ 70 ≤ j) : st_m50.2.2.1 a j = 0 := by
  show (pm_up (pm_up (st_m48.2.2.1) 44 1 45) 44 2 46) a j = _
  rw [up_ne (by omega), up_ne (by omega), st_m48_Z a j h]
theorem st_m50_A (a : Nat) (h : 114 ≤ a) : st_m50.2.1 a = false := by
  show (pm_set (pm_set (st_m48.2.1) 45) 46) a = _
  rw [set_ne (by omega), set_ne (by omega), st_m48_A a h]
theorem st_m52_Z (a j : Nat) (h : 114 ≤ a ∨ 70 ≤ j) : st_m52.2.2.1 a j = 0 := by
  show (pm_up (pm_up (pm_up (st_m50.2.2.1) 34 2 44) 34 6 47) 34 11 48) a j = _
  rw [up_ne (by omega), up_ne (by omega), up_ne (by omega), st_m50_Z a j h]
theorem st_m52_A (a : Nat) (h : 114 ≤ a) : st_m52.2.1 a = false := by
  show (pm_set (pm_set (st_m50.2.1) 47) 48) a = _
  rw [set_ne (by omega), set_ne (by omega), st_m50_A a h]
theorem st_m54_Z (a j : Nat) (h : 114 ≤ a ∨ 70 ≤ j) : st_m54.2.2.1 a j = 0 := by
  show (pm_up (st_m52.2.2.1) 1 2 34) a j = _
  rw [up_ne (by omega), st_m52_Z a j h]
theorem st_m54_A (a : Nat) (h : 114 ≤ a) : st_m54.2.1 a = false := by
  show (pm_set (st_m52.2.1) 49) a = _
  rw [set_ne (by omega), st_m52_A a h]
theorem st_m56_Z (a j : Nat) (h : 114 ≤ a ∨ 70 ≤ j) : st_m56.2.2.1 a j = 0 := by
  show (pm_up (pm_up (pm_up (pm_up (pm_up (pm_up (pm_up (pm_up (pm_up (pm_up (st_m54.2.2.1) 49 5 50) 49 6 51) 49 7 52) 49 8 53) 49 9 54) 49 10 55) 49 11 56) 49 12 57) 49 13 58) 49 14 59) a j = _
  rw [up_ne (by omega), up_ne (by omega), up_ne (by omega), up_ne (by omega), up_ne (by omega), up_ne (by omega), up_ne (by omega), up_ne (by omega), up_ne (by omega), up_ne (by omega), st_m54_Z a j h]
theorem st_m56_A (a : Nat) (h : 114 ≤ a) : st_m56.2.1 a = false := by
  show (pm_set (pm_set (pm_set (pm_set (pm_set (pm_set (pm_set (pm_set (pm_set (pm_set (st_m54.2.1) 50) 51) 52) 53) 54) 55) 56) 57) 58) 59) a = _
  rw [set_ne (by omega), set_ne (by omega), set_ne (by omega), set_ne (by omega), set_ne (by omega), set_ne (by omega), set_ne (by omega), set_ne (by omega), set_ne (by omega), set_ne (by omega), st_m54_A a h]
theorem st_m58_Z (a j : Nat) (h : 114 ≤ a ∨ 70 ≤ j) : st_m58.2.2.1 a j = 0 := by
  show (pm_up (st_m56.2.2.1) 1 3 49) a j = _
  rw [up_ne (by omega), st_m56_Z a j h]
theorem st_m58_A (a : Nat) (h : 114 ≤ a) : st_m58.2.1 a = false := by
  show (pm_set (st_m56.2.1) 60) a = _
  rw [set_ne (by omega), st_m56_A a h]
theorem st_m60_Z (a j : Nat) (h : 114 ≤ a ∨ 70 ≤ j) : st_m60.2.2.1 a j = 0 := by
  show (pm_up ((fun b j => cond (Nat.beq b 63 && Nat.ble j 8) (64 + j) ((pm_up (pm_up (st_m58.2.2.1) 60 1 61) 60 5 62) b j))) 60 6 63) a j = _
  rw [up_ne (by omega)]
  show cond (Nat.beq a 63 && Nat.ble j 8) (64 + j) ((pm_up (pm_up (st_m58.2.2.1) 60 1 61) 60 5 62) a j) = 0
  have e : (Nat.beq a 63 && Nat.ble j 8) = false := by
    rcases h with h | h
    · rw [beq_f (show ¬ a = 63 by omega)]; rfl
    · rw [ble_f (show 8 < j by omega), Bool.and_false]
  rw [e, cond_false, up_ne (by omega), up_ne (by omega), st_m58_Z a j h]
theorem st_m60_A (a : Nat) (h : 114 ≤ a) : st_m60.2.1 a = false := by
  show ((fun b => cond (Nat.ble 63 b && Nat.ble b 72) true ((pm_set (pm_set (st_m58.2.1) 61) 62) b))) a = _
  show cond (Nat.ble 63 a && Nat.ble a 72) true ((pm_set (pm_set (st_m58.2.1) 61) 62) a) = false
  rw [ble_f (a := a) (b := 72) (by omega), Bool.and_false, cond_false, set_ne (by omega), set_ne (by omega), st_m58_A a h]
theorem st_m62_Z (a j : Nat) (h : 114 ≤ a ∨ 70 ≤ j) : st_m62.2.2.1 a j = 0 := by
  show (pm_up (st_m60.2.2.1) 1 4 60) a j = _
  rw [up_ne (by omega), st_m60_Z a j h]
theorem st_m62_A (a : Nat) (h : 114 ≤ a) : st_m62.2.1 a = false := by
  show (pm_set (st_m60.2.1) 73) a = _
  rw [set_ne (by omega), st_m60_A a h]
theorem st_m64_Z (a j : Nat) (h : 114 ≤ a ∨ 70 ≤ j) : st_m64.2.2.1 a j = 0 := by
  show (pm_up (pm_up (st_m62.2.2.1) 73 0 74) 73 1 75) a j = _
  rw [up_ne (by omega), up_ne (by omega), st_m62_Z a j h]
theorem st_m64_A (a : Nat) (h : 114 ≤ a) : st_m64.2.1 a = false := by
  show (pm_set (pm_set (st_m62.2.1) 74) 75) a = _
  rw [set_ne (by omega), set_ne (by omega), st_m62_A a h]
theorem st_m66_Z (a j : Nat) (h : 114 ≤ a ∨ 70 ≤ j) : st_m66.2.2.1 a j = 0 := by
  show (pm_up (st_m64.2.2.1) 1 5 73) a j = _
  rw [up_ne (by omega), st_m64_Z a j h]
theorem st_m66_A (a : Nat) (h : 114 ≤ a) : st_m66.2.1 a = false := by
  show (pm_set (st_m64.2.1) 76) a = _
  rw [set_ne (by omega), st_m64_A a h]
theorem st_m68_Z (a j : Nat) (h : 114 ≤ a ∨ 70 ≤ j) : st_m68.2.2.1 a j = 0 := by
  show (pm_up (st_m66.2.2.1) 76 3 77) a j = _
  rw [up_ne (by omega), st_m66_Z a j h]
theorem st_m68_A (a : Nat) (h : 114 ≤ a) : st_m68.2.1 a = false := by
  show (pm_set (st_m66.2.1) 77) a = _
  rw [set_ne (by omega), st_m66_A a h]
theorem st_m70_Z (a j : Nat) (h : 114 ≤ a ∨ 70 ≤ j) : st_m70.2.2.1 a j = 0 := by
  show (pm_up (pm_up (pm_up (pm_up (st_m68.2.2.1) 1 6 76) 1 7 78) 1 8 79) 1 9 80) a j = _
  rw [up_ne (by omega), up_ne (by omega), up_ne (by omega), up_ne (by omega), st_m68_Z a j h]
theorem st_m70_A (a : Nat) (h : 114 ≤ a) : st_m70.2.1 a = false := by
  show (pm_set (pm_set (pm_set (st_m68.2.1) 78) 79) 80) a = _
  rw [set_ne (by omega), set_ne (by omega), set_ne (by omega), st_m68_A a h]
theorem st_m72_Z (a j : Nat) (h : 114 ≤ a ∨ 70 ≤ j) : st_m72.2.2.1 a j = 0 := by
  show (st_m70.2.2.1) a j = _
  rw [st_m70_Z a j h]
theorem st_m72_A (a : Nat) (h : 114 ≤ a) : st_m72.2.1 a = false := by
  show (pm_set (st_m70.2.1) 81) a = _
  rw [set_ne (by omega), st_m70_A a h]
theorem st_m74_Z (a j : Nat) (h : 114 ≤ a ∨ 70 ≤ j) : st_m74.2.2.1 a j = 0 := by
  show (pm_up (pm_up (pm_up (pm_up (pm_up (pm_up (pm_up (pm_up (pm_up (pm_up (pm_up (pm_up (pm_up (pm_up (pm_up (pm_up (pm_up (pm_up (pm_up (pm_up (pm_up (pm_up (pm_up (pm_up (pm_up (pm_up (pm_up (pm_up (pm_up (pm_up (pm_up (pm_up (st_m72.2.2.1) 81 1 82) 81 2 83) 81 3 84) 81 4 85) 81 5 86) 81 6 87) 81 7 88) 81 8 89) 81 9 90) 81 19 91) 81 20 92) 81 26 93) 81 30 94) 81 31 95) 81 32 96) 81 33 97) 81 34 98) 81 35 99) 81 36 100) 81 41 101) 81 42 102) 81 43 103) 81 46 104) 81 47 105) 81 49 106) 81 50 107) 81 53 108) 81 54 109) 81 55 110) 81 60 111) 81 61 112) 81 62 113) a j = _
  rw [up_ne (by omega), up_ne (by omega), up_ne (by omega), up_ne (by omega), up_ne (by omega), up_ne (by omega), up_ne (by omega), up_ne (by omega), up_ne (by omega), up_ne (by omega), up_ne (by omega), up_ne (by omega), up_ne (by omega), up_ne (by omega), up_ne (by omega), up_ne (by omega), up_ne (by omega), up_ne (by omega), up_ne (by omega), up_ne (by omega), up_ne (by omega), up_ne (by omega), up_ne (by omega), up_ne (by omega), up_ne (by omega), up_ne (by omega), up_ne (by omega), up_ne (by omega), up_ne (by omega), up_ne (by omega), up_ne (by omega), up_ne (by omega), st_m72_Z a j h]
theorem st_m74_A (a : Nat) (h : 114 ≤ a) : st_m74.2.1 a = false := by
  show (pm_set (pm_set (pm_set (pm_set (pm_set (pm_set (pm_set (pm_set (pm_set (pm_set (pm_set (pm_set (pm_set (pm_set (pm_set (pm_set (pm_set (pm_set (pm_set (pm_set (pm_set (pm_set (pm_set (pm_set (pm_set (pm_set (pm_set (pm_set (pm_set (pm_set (pm_set (pm_set (st_m72.2.1) 82) 83) 84) 85) 86) 87) 88) 89) 90) 91) 92) 93) 94) 95) 96) 97) 98) 99) 100) 101) 102) 103) 104) 105) 106) 107) 108) 109) 110) 111) 112) 113) a = _
  rw [set_ne (by omega), set_ne (by omega), set_ne (by omega), set_ne (by omega), set_ne (by omega), set_ne (by omega), set_ne (by omega), set_ne (by omega), set_ne (by omega), set_ne (by omega), set_ne (by omega), set_ne (by omega), set_ne (by omega), set_ne (by omega), set_ne (by omega), set_ne (by omega), set_ne (by omega), set_ne (by omega), set_ne (by omega), set_ne (by omega), set_ne (by omega), set_ne (by omega), set_ne (by omega), set_ne (by omega), set_ne (by omega), set_ne (by omega), set_ne (by omega), set_ne (by omega), set_ne (by omega), set_ne (by omega), set_ne (by omega), set_ne (by omega), st_m72_A a h]
theorem dB_0 {a : Nat} (h : 114 ≤ a) : pm_dB (fun _ => false) a = false := by
  have e1 : Nat.ble 114 a = true := Nat.ble_eq_true_of_le h
  rw [pm_dB, e1]
  generalize Nat.ble 120 a = c1
  generalize Nat.ble 220 a = c2
  generalize Nat.ble 226 a = c3
  generalize Nat.ble 229 a = c4
  generalize Nat.ble 232 a = c5
  generalize Nat.ble 223 a = c6
  generalize Nat.ble 151 a = c7
  generalize Nat.ble 182 a = c8
  generalize Nat.ble 213 a = c9
  cases c1 <;> cases c2 <;> cases c3 <;> cases c4 <;> cases c5 <;> cases c6 <;> cases c7 <;> cases c8 <;> cases c9 <;> rfl
theorem st_A : st_m74.2.1 = pm_dB (fun _ => false) := by
  funext a
  by_cases h : a < 114
  · have : ∀ a : Fin 114, st_m74.2.1 a.val = pm_dB (fun _ => false) a.val := by decide +kernel
    exact this ⟨a, h⟩
  · rw [st_m74_A a (by omega), dB_0 (by omega)]
theorem dN_0 {a j : Nat} (h : 70 ≤ j) : pm_dN (fun _ => false) a j = 0 := by
  unfold pm_dN
  repeat' (first | with_reducible rfl | (exfalso; omega) | refine cz0b (fun _ => ?_) (fun _ => ?_) | refine cz0e (fun _ => ?_) (fun _ => ?_) | rfl)
theorem st_N : st_m74.2.2.1 = pm_dM (fun _ => false) := by
  funext a j
  by_cases h : a < 114
  · by_cases hj : j < 70
    · have : ∀ a : Fin 114, ∀ j : Fin 70, st_m74.2.2.1 a.val j.val = pm_dM (fun _ => false) a.val j.val := by decide +kernel
      exact this ⟨a, h⟩ ⟨j, hj⟩
    · rw [st_m74_Z a j (by omega), pm_dM, dN_0 (by omega)]
      generalize Nat.ble 114 a = c
      generalize pm_dB (fun _ => false) a = c2
      cases c <;> cases c2 <;> rfl
  · have e1 : Nat.ble 114 a = true := Nat.ble_eq_true_of_le (by omega)
    rw [st_m74_Z a j (by omega), pm_dM, dB_0 (by omega), e1]; rfl
def st_al : List Nat := st_m74.1
def st_I : Nat → Nat → Int32 := st_m74.2.2.2.1
def st_L : Nat → Nat → Int64 := st_m74.2.2.2.2
theorem st_mm : st_m74 = pm_mm st_al (fun _ => false) st_I st_L := by
  show (_, st_m74.2.1, st_m74.2.2.1, _, _) = _
  rw [st_A, st_N]; rfl
end
