section
/-- bit k of a number -/
def tb (x : Int32) (k : Nat) : Bool := x.toBitVec.getLsbD k
theorem tb_ext {x y : Int32} (h : ∀ k, k < 32 → tb x k = tb y k) : x = y := by
  apply Int32.toBitVec_inj.mp
  apply BitVec.eq_of_getLsbD_eq
  intro i hi; exact h i hi
theorem tb_and (x y : Int32) (k : Nat) : tb (x &&& y) k = (tb x k && tb y k) := by simp [tb]
theorem tb_or (x y : Int32) (k : Nat) : tb (x ||| y) k = (tb x k || tb y k) := by simp [tb]
theorem tb_xor (x y : Int32) (k : Nat) : tb (x ^^^ y) k = (tb x k ^^ tb y k) := by simp [tb]
theorem tb_m1 {k : Nat} (h : k < 32) : tb (-1) k = true := by
  have : ∀ k : Fin 32, tb (-1) k.val = true := by decide +kernel
  exact this ⟨k, h⟩
theorem tb_0 (k : Nat) : tb 0 k = false := by simp [tb]
theorem tb_not (x : Int32) {k : Nat} (h : k < 32) : tb (x ^^^ (-1)) k = !tb x k := by rw [tb_xor, tb_m1 h]; cases tb x k <;> rfl
theorem sh_n : ∀ k : Fin 32, (Int32.ofNat k.val &&& 31).toBitVec.smod 32 = BitVec.ofNat 32 k.val := by decide +kernel
theorem tb_shl {j k : Nat} (hj : j < 32) (hk : k < 32) : tb (1 <<< (Int32.ofNat j &&& 31)) k = decide (j = k) := by
  have : ∀ j k : Fin 32, tb (1 <<< (Int32.ofNat j.val &&& 31)) k.val = decide (j.val = k.val) := by decide +kernel
  exact this ⟨j, hj⟩ ⟨k, hk⟩
theorem one_and (y : Int32) : y &&& 1 = cond (tb y 0) 1 0 := by
  apply tb_ext
  intro k hk
  rw [tb_and]
  have h1 : ∀ k : Fin 32, tb 1 k.val = decide (k.val = 0) := by decide +kernel
  rw [h1 ⟨k, hk⟩]
  by_cases h : k = 0
  · subst h; cases tb y 0 <;> rfl
  · cases tb y 0 <;> simp [h, tb_0, h1 ⟨k, hk⟩]
theorem tb_shr (x : Int32) {k : Nat} (hk : k < 32) : tb (x >>> (Int32.ofNat k &&& 31)) 0 = tb x k := by
  have h : (x >>> (Int32.ofNat k &&& 31)).toBitVec = x.toBitVec.sshiftRight' (BitVec.ofNat 32 k) := by
    rw [Int32.toBitVec_shiftRight, sh_n ⟨k, hk⟩]
  rw [tb, h]
  show (x.toBitVec.sshiftRight (BitVec.ofNat 32 k).toNat).getLsbD 0 = _
  have : (BitVec.ofNat 32 k).toNat = k := by simp; omega
  rw [this, BitVec.getLsbD_sshiftRight]
  simp [hk, tb]
theorem hs_tb (x : Int32) {k : Nat} (hk : k < 32) : hs x (Int32.ofNat k) = tb x k := by
  rw [hs, one_and, tb_shr x hk]; cases tb x k <;> rfl
theorem hs0_tb (x : Int32) {k : Nat} (hk : k < 32) : decide ((x >>> (Int32.ofNat k &&& 31)) &&& 1 = 0) = !tb x k := by
  rw [one_and, tb_shr x hk]; cases tb x k <;> rfl
end
