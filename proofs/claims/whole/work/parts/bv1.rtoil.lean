section
variable {X : Nat × (Nat → Int32)} {d : Nat} {al : List Nat} {D : Nat → Bool} {I : Nat → Nat → Int32} {L : Nat → Nat → Int64}
def tfO (H : Nat → Bool) (st : Nat → Nat) (k : Nat) : Int32 := fo (fun t a => a ||| cond (H (st t)) (1 <<< (Int32.ofNat t &&& 31)) 0) k 0
theorem tfO_s (H : Nat → Bool) (st : Nat → Nat) (k : Nat) : tfO H st (k + 1) = tfO H st k ||| cond (H (st k)) (1 <<< (Int32.ofNat k &&& 31)) 0 := by rw [tfO, fo]; rfl
theorem tfO_0 (H : Nat → Bool) (st : Nat → Nat) : tfO H st 0 = 0 := by rw [tfO, fo]
def tl2 (what : Int32) (N : Nat) (E M T : Int32) : Int32 := cond (decide (what = 2)) T (cond (decide (N = 0)) (-1) (cond (decide (what = 0)) E M))
def tlH (H : Nat → Bool) (st : Nat → Nat) (k : Nat) (what : Int32) : Int32 := tl2 what (fN H 4096) (fE H 4096) (fM H 4096) (tfO H st k)
def vToil (I : Nat → Nat → Int32) (m : Nat → Nat) (b s l what : Int32) : Int32 := cond (okL m b s l && pm_in what 3) (tlH (lgH I b.toNatClampNeg s.toNatClampNeg l.toNatClampNeg) (fun t => (I 89 t).toNatClampNeg) (m 2) what) (-2)
theorem st_good {m : Nat → Nat} {t : Nat} (g : rG I m) (ht : t < m 2) : I 89 t = Int32.ofNat (I 89 t).toNatClampNeg ∧ (I 89 t).toNatClampNeg < 4096 := by
  obtain ⟨a1, a2⟩ := g.2.2.2.1 t ht
  have e0 : (0 : Int32).toInt = 0 := rfl
  exact ⟨n_of (t_le.mpr (by omega)), by rw [t_tn]; omega⟩
theorem r_toil {m : Nat → Nat} (b s l what : Int32) (g : rG I m) : ∃ J, Cl X (d + 6) 279 [vr 81, vi b, vi s, vi l, vi what] (pm_mm al D I L) = some (some (vi (vToil I m b s l what)), pm_mm al D J L) ∧ rF I J := by
  rw [Cl_s]
  show ∃ J, Rn X (d + 5) co_Mo_toil (0, [some (vr 81), some (vi b), some (vi s), some (vi l), some (vi what), none, none], [], pm_mm al D I L) = _ ∧ _
  have h5 : (if 0 ≤ what ∧ what ≤ 2 then (1 : Int32) else 0) = b01 (pm_in what 3) := in_m (m := 3) (by omega)
  obtain ⟨J, e1, e2, e3⟩ := c_layLog (X := X) (d := d) (al := al) (D := D) (L := L) b s l g
  refine ⟨J, ?_, e2⟩
  rw [sg_Mo_toil_0, e1, vToil]
  simp only [Option.bind_some, pm_ai]
  rw [sg_Mo_toil_12, b01_ne, c_in, h5, sg_Mo_toil_25]
  simp only [Option.bind_some, pm_ai]
  rw [sg_Mo_toil_22, b01_ne, sg_Mo_toil_25]
  cases hok : okL m b s l with
  | false => rw [Bool.not_false, cond_true, Bool.false_and, cond_false]
  | true =>
    rw [Bool.not_true, cond_false, Bool.true_and]
    cases hw : pm_in what 3 with
    | false => rw [Bool.not_false, cond_true, cond_false]
    | true =>
      rw [Bool.not_true, cond_false, cond_true]
      obtain ⟨b', s', l', eb, es, el, hb', hs', hl', n1, n2, n3, n4, n5, n6, n7⟩ := e3 hok
      have m0 := (g.1 0 (by omega)).1; have m1 := (g.1 1 (by omega)).1; have m3 := (g.1 3 (by omega)).1
      obtain ⟨m2, e86⟩ := g.1 2 (by omega)
      subst eb es el
      rw [n_tn (by omega), n_tn (by omega), n_tn (by omega)]
      have hN := fN_le (lgH I b' s' l') 4096
      generalize lgH I b' s' l' = H at n1 n2 n3 n7 hN ⊢
      clear n4 n5 n6
      have J86 : J 86 2 = Int32.ofNat (m 2) := by rw [e2 86 (by omega) (by omega)]; exact e86
      have J89 : ∀ t, J 89 t = I 89 t := fun t => congrFun (e2 89 (by omega) (by omega)) t
      have h := lf (σ := Unit) (m 2) (fun t _ => Rn X (d + 5) co_Mo_toil (34, [some (vr 81), some (vi (Int32.ofNat b')), some (vi (Int32.ofNat s')), some (vi (Int32.ofNat l')), some (vi what), some (vi (tfO H (fun t => (I 89 t).toNatClampNeg) t)), some (vi (Int32.ofNat t))], [], pm_mm al D J L)) (fun _ q => q) (fun t _ ht => by
        show Rn X (d + 5) co_Mo_toil _ = Rn X (d + 5) co_Mo_toil _
        obtain ⟨q1, q2⟩ := st_good g ht
        rw [sg_Mo_toil_34, J86, n_dle (by omega) (by omega), df (by omega), cond_false, Int32.one_mul, n_in (by omega), dt (show t < 8 by omega), cond_true, n_tn (by omega), J89, q1, n_in (by omega), dt q2, cond_true, n_tn (by omega), n7 _ q2, b01_ne, sg_Mo_toil_72, sg_Mo_toil_72, n_s, tfO_s]
        cases H (I 89 t).toNatClampNeg
        · rw [Bool.not_false, cond_true, cond_false]
        · rw [Bool.not_true, cond_false, cond_true]) ()
      have h : Rn X (d + 5) co_Mo_toil (34, [some (vr 81), some (vi (Int32.ofNat b')), some (vi (Int32.ofNat s')), some (vi (Int32.ofNat l')), some (vi what), some (vi (tfO H (fun t => (I 89 t).toNatClampNeg) 0)), some (vi (Int32.ofNat 0))], [], pm_mm al D J L) = Rn X (d + 5) co_Mo_toil (34, [some (vr 81), some (vi (Int32.ofNat b')), some (vi (Int32.ofNat s')), some (vi (Int32.ofNat l')), some (vi what), some (vi (tfO H (fun t => (I 89 t).toNatClampNeg) (m 2))), some (vi (Int32.ofNat (m 2)))], [], pm_mm al D J L) := h
      rw [tfO_0] at h
      refine Eq.trans h ?_
      rw [tlH]
      generalize tfO H (fun t => (I 89 t).toNatClampNeg) (m 2) = T
      rw [sg_Mo_toil_34, J86, n_dle (by omega) (by omega), dt (Nat.le_refl _), cond_true, n1, n2, n3]
      generalize fN H 4096 = N at hN ⊢
      generalize fE H 4096 = E
      generalize fM H 4096 = F
      rw [show decide (Int32.ofNat N = 0) = decide (N = 0) from n_deq (b := 0) (by omega) (by omega), sg_Mo_toil_119, sg_Mo_toil_119, sg_Mo_toil_119, sg_Mo_toil_119]
      rw [tl2]
      cases decide (what = 2) with
      | true => rw [cond_true, cond_true]
      | false =>
        rw [cond_false, cond_false]
        cases decide (N = 0) with
        | true => rw [cond_true, cond_true]
        | false =>
          rw [cond_false, cond_false]
          cases decide (what = 0) with
          | true => rw [cond_true, cond_true]
          | false => rw [cond_false, cond_false]
end
