section
variable {X : Nat × (Nat → Int32)} {d : Nat} {al : List Nat} {D : Nat → Bool} {I : Nat → Nat → Int32} {L : Nat → Nat → Int64}
def bc1 (x0 : Int32) : Int32 := ((((((((x0 - ((pm_ush x0 1) &&& 1431655765)) &&& 858993459) + ((pm_ush (x0 - ((pm_ush x0 1) &&& 1431655765)) 2) &&& 858993459)) + (pm_ush (((x0 - ((pm_ush x0 1) &&& 1431655765)) &&& 858993459) + ((pm_ush (x0 - ((pm_ush x0 1) &&& 1431655765)) 2) &&& 858993459)) 4)) &&& 252645135) + (pm_ush (((((x0 - ((pm_ush x0 1) &&& 1431655765)) &&& 858993459) + ((pm_ush (x0 - ((pm_ush x0 1) &&& 1431655765)) 2) &&& 858993459)) + (pm_ush (((x0 - ((pm_ush x0 1) &&& 1431655765)) &&& 858993459) + ((pm_ush (x0 - ((pm_ush x0 1) &&& 1431655765)) 2) &&& 858993459)) 4)) &&& 252645135) 8)) + (pm_ush ((((((x0 - ((pm_ush x0 1) &&& 1431655765)) &&& 858993459) + ((pm_ush (x0 - ((pm_ush x0 1) &&& 1431655765)) 2) &&& 858993459)) + (pm_ush (((x0 - ((pm_ush x0 1) &&& 1431655765)) &&& 858993459) + ((pm_ush (x0 - ((pm_ush x0 1) &&& 1431655765)) 2) &&& 858993459)) 4)) &&& 252645135) + (pm_ush (((((x0 - ((pm_ush x0 1) &&& 1431655765)) &&& 858993459) + ((pm_ush (x0 - ((pm_ush x0 1) &&& 1431655765)) 2) &&& 858993459)) + (pm_ush (((x0 - ((pm_ush x0 1) &&& 1431655765)) &&& 858993459) + ((pm_ush (x0 - ((pm_ush x0 1) &&& 1431655765)) 2) &&& 858993459)) 4)) &&& 252645135) 8)) 16)) &&& 63)
theorem bc1_on : ∀ a : Fin 64, ∀ b : Fin 64, bc1 (Int32.ofNat (64 * a.val + b.val)) = on (Int32.ofNat (64 * a.val + b.val)) := by decide +kernel
theorem k_bitCount {x : Int32} (h0 : 0 ≤ x.toInt) (h1 : x.toInt < 4096) : Cl X (d + 1) 1 [vi x] (pm_mm al D I L) = some (some (vi (on x)), pm_mm al D I L) := by
  rw [Cl_s]
  show Rn X d co_Ji_bitCount (0, [some (vi x)], [], pm_mm al D I L) = _
  rw [sg_Ji_bitCount_0]
  have e0 : (0 : Int32).toInt = 0 := rfl
  have hx : x = Int32.ofNat (64 * (x.toNatClampNeg / 64) + x.toNatClampNeg % 64) := by
    rw [Nat.div_add_mod]; exact n_of (t_le.mpr (by omega))
  have hl : x.toNatClampNeg < 4096 := by rw [t_tn]; omega
  have := bc1_on ⟨x.toNatClampNeg / 64, by omega⟩ ⟨x.toNatClampNeg % 64, by omega⟩
  rw [← hx] at this
  rw [← this]; rfl
end
