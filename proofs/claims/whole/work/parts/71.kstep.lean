section
variable {X : Nat × (Nat → Int32)} {d : Nat} {al : List Nat} {D : Nat → Bool} {I : Nat → Nat → Int32} {L : Nat → Nat → Int64}
/-- the band that the class plays with -/
def PBc (I : Nat → Nat → Int32) (n : Nat) : PB := (I 49 0, I 49 4, I 49 1, I 49 2, n, dwC I, I 51)
/-- what stands in the class's play behind beat t (at t): air, force, fainted, sounds, silent, stolen, leaked -/
def stC (J : Nat → Nat → Int32) (t : Nat) (s : PS) : Prop := J 53 t = s.1 ∧ J 54 t = s.2.1 ∧ J 55 t = s.2.2.1 ∧ J 58 t = s.2.2.2.2.1
def stD (J : Nat → Nat → Int32) (t : Nat) (s : PS) : Prop := stC J t s ∧ J 57 t = s.2.2.2.1 ∧ J 59 t = s.2.2.2.2.2.1 ∧ J 56 t = s.2.2.2.2.2.2
def spF (I J : Nat → Nat → Int32) (t : Nat) : Prop := ∀ a j, ¬ (53 ≤ a ∧ a ≤ 59 ∧ j = t + 1) → J a j = I a j
theorem k_step {n t : Nat} {s : PS} (tr : Bool) (hn : n ≤ 6) (en : I 49 3 = Int32.ofNat n) (ht : t < 12) (hp : prm (I 51) n) (hw : ∀ k, k < 32 → tb (I 52 t) k = true → k < n) (hs : stC I t s) :
    ∃ J, Cl X (d + 2) 46 [vr 49, vi (Int32.ofNat t), vi (b01 tr)] (pm_mm al D I L) = some (none, pm_mm al D J L) ∧ spF I J t ∧ stD J (t + 1) (nx (PBc I n) (I 52 t) tr s) := by
  rw [Cl_s]
  show ∃ J, Rn X (d + 1) co_Pl_step (0, [some (vr 49), some (vi (Int32.ofNat t)), some (vi (b01 tr)), none], [], pm_mm al D I L) = _ ∧ _
  have i13 : pm_in (Int32.ofNat t) 13 = true := (n_in (by omega)).trans (decide_eq_true (by omega))
  have j13 : pm_in (Int32.ofNat (t + 1)) 13 = true := (n_in (by omega)).trans (decide_eq_true (by omega))
  have tn : (Int32.ofNat t).toNatClampNeg = t := n_tn (by omega)
  have tn1 : (Int32.ofNat (t + 1)).toNatClampNeg = t + 1 := n_tn (by omega)
  obtain ⟨c1, c2, c3, c4⟩ := hs
  generalize hB : PBc I n = B
  have b0 : I 49 0 = B.1 := by rw [← hB]; rfl
  have b1 : I 49 1 = B.2.2.1 := by rw [← hB]; rfl
  have b2 : I 49 2 = B.2.2.2.1 := by rw [← hB]; rfl
  have b4 : I 49 4 = B.2.1 := by rw [← hB]; rfl
  -- up to 76: force and air
  have s1 : ∃ o2, Rn X (d + 1) co_Pl_step (0, [some (vr 49), some (vi (Int32.ofNat t)), some (vi (b01 tr)), none], [], pm_mm al D I L)
      = Rn X (d + 1) co_Pl_step (76, [some (vr 49), some (vi (Int32.ofNat t)), o2, some (vi (nxa B tr s))], [], pm_mm al D (pm_up I 54 (t + 1) (nxf B tr s)) L) := by
    rw [sg_Pl_step_0]
    simp only [i13, j13, tn, tn1, n_s, cond_true, b01_ne, c1, c2, b0, b1, k_min, Option.bind_some, pm_ai, sg_Pl_step_49, sg_Pl_step_53, b2, sg_Pl_step_75]
    unfold nxa nxf nxc
    cases tr with
    | false => exact ⟨_, rfl⟩
    | true =>
      cases h : decide (s.2.1 ≤ 0) with
      | true => exact ⟨_, rfl⟩
      | false => exact ⟨_, rfl⟩
  obtain ⟨o2, s1⟩ := s1
  have s2 : Rn X (d + 1) co_Pl_step (76, [some (vr 49), some (vi (Int32.ofNat t)), o2, some (vi (nxa B tr s))], [], pm_mm al D (pm_up I 54 (t + 1) (nxf B tr s)) L)
      = ((Cl X (d + 1) 47 [vr 49, vi (Int32.ofNat t)] (pm_mm al D (pm_up (pm_up (pm_up I 54 (t + 1) (nxf B tr s)) 56 (t + 1) (nxl B tr s)) 53 (t + 1) (nxa B tr s - nxl B tr s)) L)).bind pm_av).bind (fun r => Rn X (d + 1) co_Pl_step (115, [some (vr 49), some (vi (Int32.ofNat t)), o2, some (vi (nxa B tr s))], [], r)) := by
    have h49 : pm_up I 54 (t + 1) (nxf B tr s) 49 4 = B.2.1 := b4
    have hl : mn (nxa B tr s) B.2.1 = nxl B tr s := mn_comm _ _
    rw [sg_Pl_step_76, h49, k_min, hl]
    simp only [Option.bind_some, pm_ai, n_s, sg_Pl_step_91, j13, tn1, cond_true]
    congr 4
    simp [pm_up]
  generalize hK : pm_up (pm_up (pm_up I 54 (t + 1) (nxf B tr s)) 56 (t + 1) (nxl B tr s)) 53 (t + 1) (nxa B tr s - nxl B tr s) = K at s2
  have kK : ∀ a j, ¬ (53 ≤ a ∧ a ≤ 59 ∧ j = t + 1) → K a j = I a j := fun a j h => by
    rw [← hK, pm_up, if_neg (by omega), pm_up, if_neg (by omega), pm_up, if_neg (by omega)]
  have k51 : K 51 = I 51 := by funext j; exact kK 51 j (by omega)
  have kdw : dwC K = dwC I := by funext p; exact kK 50 _ (by omega)
  have hd := k_drawAll (X := X) (d := d) (al := al) (D := D) (L := L) (I := K) hn ((kK 49 3 (by omega)).trans en) ht (by rw [k51]; exact hp) (by rw [kK 52 t (by omega)]; exact hw)
  have k53 : K 53 (t + 1) = nxa B tr s - nxl B tr s := by rw [← hK]; simp [pm_up]
  have e : dr (K 52 t) (K 55 t) (K 53 (t + 1)) (dwC K) (K 51) n = nxd B (I 52 t) tr s := by
    rw [kK 52 t (by omega), kK 55 t (by omega), k53, kdw, k51, c3, nxd, ← hB]; rfl
  rw [e] at hd
  refine ⟨dwn K t (nxd B (I 52 t) tr s), ?_, fun a j h => ?_, ⟨?_, ?_, ?_, ?_⟩, ?_, ?_, ?_⟩
  · rw [s1, s2, hd]
    simp only [Option.bind_some, pm_av, sg_Pl_step_115]
  · rw [dwn, pm_up, if_neg (by omega), pm_up, if_neg (by omega), pm_up, if_neg (by omega), pm_up, if_neg (by omega), pm_up, if_neg (by omega), kK a j h]
  · simp [dwn, pm_up, nx]
  · simp only [dwn, pm_up, nx]; simp [← hK, pm_up]
  · simp only [dwn, pm_up, nx]; simp [kK 55 t (by omega), kK 58 t (by omega), c3, c4, Int32.and_comm]
  · simp [dwn, pm_up, nx]
  · simp [dwn, pm_up, nx]
  · simp [dwn, pm_up, nx]
  · simp only [dwn, pm_up, nx]; simp [← hK, pm_up]
end
