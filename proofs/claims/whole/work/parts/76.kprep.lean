section
variable {X : Nat × (Nat → Int32)} {d : Nat} {al : List Nat} {D : Nat → Bool} {I : Nat → Nat → Int32} {L : Nat → Nat → Int64}
def prS (a j : Nat) : Prop := tkS a j ∨ a = 52
def prP (I J : Nat → Nat → Int32) (b s : Nat) : Prop := tkP I J (9 + 5 * b) ∧ ∀ t, t < 12 → J 52 t = wn (scC I (19 + 4 * s)) t &&& mk1 (I (9 + 5 * b) 4)
theorem k_prepare {b s : Nat} (hb : b < 2) (hs : s < 2) (g : gC I (19 + 4 * s)) : ∃ J, Cl X (d + 3) 122 [vr 1, vi (Int32.ofNat b), vi (Int32.ofNat s)] (pm_mm al D I L) = some (none, pm_mm al D J L) ∧ (∀ a j, ¬ prS a j → J a j = I a j) ∧ prP I J b s := by
  have s0 : ∀ I : Nat → Nat → Int32, Rn X (d + 2) co_Ch_prepare (0, [some (vr 1), some (vi (Int32.ofNat b)), some (vi (Int32.ofNat s))], [], pm_mm al D I L) = ((Cl X (d + 2) 39 [vr 49, vr (9 + 5 * b)] (pm_mm al D I L)).bind pm_av).bind (fun r => Rn X (d + 2) co_Ch_prepare (16, [some (vr 1), some (vi (Int32.ofNat b)), some (vi (Int32.ofNat s))], [], r)) := by
    intro I
    rcases two hb with rfl | rfl <;> rcases two hs with rfl | rfl
    · exact sg_Ch_prepare_0_0_0 ..
    · exact sg_Ch_prepare_0_1_0 ..
    · exact sg_Ch_prepare_1_0_0 ..
    · exact sg_Ch_prepare_1_1_0 ..
  have s16 : ∀ (o1 : Option pm_V) (I : Nat → Nat → Int32), Rn X (d + 2) co_Ch_prepare (16, [some (vr 1), o1, some (vi (Int32.ofNat s))], [], pm_mm al D I L) = ((Cl X (d + 2) 40 [vr 49, vr (19 + 4 * s)] (pm_mm al D I L)).bind pm_av).bind (fun r => Rn X (d + 2) co_Ch_prepare (32, [some (vr 1), o1, some (vi (Int32.ofNat s))], [], r)) := by
    intro o1 I
    rcases two hs with rfl | rfl
    · exact sg_Ch_prepare_0_0_16 ..
    · exact sg_Ch_prepare_0_1_16 ..
  have q1 : 9 + 5 * b = 9 ∨ 9 + 5 * b = 14 := by omega
  have q2 : 19 + 4 * s = 19 ∨ 19 + 4 * s = 23 := by omega
  rw [Cl_s]
  show ∃ J, Rn X (d + 2) co_Ch_prepare (0, [some (vr 1), some (vi (Int32.ofNat b)), some (vi (Int32.ofNat s))], [], pm_mm al D I L) = _ ∧ _
  obtain ⟨J, e1, e2, e3⟩ := k_takeBand (X := X) (d := d) (al := al) (D := D) (L := L) (I := I) q1
  have hsc : scC J (19 + 4 * s) = scC I (19 + 4 * s) := by
    simp only [scC, e2 (19 + 4 * s) 0 (by unfold tkS; omega)]
    congr 2
    · funext k; rw [e2 _ k (by unfold tkS; omega)]
    · congr 1
      · funext k; rw [e2 _ k (by unfold tkS; omega)]
      · funext k; rw [e2 _ k (by unfold tkS; omega)]
  have hg : gC J (19 + 4 * s) := by
    rw [gC, hsc, e2 _ 0 (by unfold tkS; omega)]
    refine ⟨g.1, g.2.1, fun k hk => ?_⟩
    rw [e2 _ k (by unfold tkS; omega), e2 _ k (by unfold tkS; omega), e2 _ k (by unfold tkS; omega)]
    exact g.2.2 k hk
  rw [s0, e1]
  simp only [Option.bind_some, pm_av, s16, k_takeScore q2 hg, sg_Ch_prepare_0_0_32]
  refine ⟨_, rfl, fun a j h => ?_, ⟨e3.1, e3.2.1, e3.2.2.1, e3.2.2.2.1, e3.2.2.2.2.1, e3.2.2.2.2.2.1, e3.2.2.2.2.2.2⟩, fun t ht => ?_⟩
  · unfold prS at h
    rw [pm_ups, if_neg (fun c => h (Or.inr c)), e2 a j (fun c => h (Or.inl c))]
  · rw [pm_ups, if_pos rfl, if_pos ht, hsc, e3.2.2.2.2.1]
theorem tb_mk {n k : Nat} (hn : n ≤ 6) (hk : k < 32) : tb (mk1 (Int32.ofNat n)) k = decide (k < n) := by
  have : ∀ (n : Fin 7) (k : Fin 32), tb (mk1 (Int32.ofNat n.val)) k.val = decide (k.val < n.val) := by decide +kernel
  exact this ⟨n, by omega⟩ ⟨k, hk⟩
/-- the play asks its beats only for the band's pipes -/
theorem pst_mask {B C : PB} {w v : Nat → Int32} {tr ur : Nat → Int32 → Bool} (h1 : B.1 = C.1) (h2 : B.2.1 = C.2.1) (h3 : B.2.2.1 = C.2.2.1) (h4 : B.2.2.2.1 = C.2.2.2.1) (h5 : B.2.2.2.2.1 = C.2.2.2.2.1)
    (h6 : ∀ i, i < C.2.2.2.2.1 → B.2.2.2.2.2.2 i = C.2.2.2.2.2.2 i ∧ B.2.2.2.2.2.1 (B.2.2.2.2.2.2 i) = C.2.2.2.2.2.1 (C.2.2.2.2.2.2 i)) : ∀ (t : Nat), (∀ u, u < t → ∀ i, i < C.2.2.2.2.1 → hs (w u) (C.2.2.2.2.2.2 i) = hs (v u) (C.2.2.2.2.2.2 i)) → (∀ u, u < t → ∀ x, tr u x = ur u x) → pst B w tr t = pst C v ur t
  | 0, _, _ => by rw [pst, pst, h1, h4]
  | t + 1, hw, ht => by
    have ih := pst_mask h1 h2 h3 h4 h5 h6 t (fun u hu => hw u (by omega)) (fun u hu => ht u (by omega))
    have hd : ∀ f br, dr (w t) f br B.2.2.2.2.2.1 B.2.2.2.2.2.2 B.2.2.2.2.1 = dr (v t) f br C.2.2.2.2.2.1 C.2.2.2.2.2.2 C.2.2.2.2.1 := fun f br => by
      rw [dr, dr, h5]
      refine fo_congr _ _ (fun i s hi => ?_)
      rw [dr1, dr1, (h6 i hi).2, (h6 i hi).1, hw t (by omega) i hi]
    rw [pst, pst, ih, ht t (by omega)]
    simp only [nx, nxd, nxl, nxa, nxf, hd, h1, h2, h3, h4]
end
