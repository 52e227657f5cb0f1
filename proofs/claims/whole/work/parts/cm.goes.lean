section
variable {X : Nat × (Nat → Int32)} {d : Nat} {al : List Nat} {D : Nat → Bool} {L : Nat → Nat → Int64}
/-- the class's search: what it leaves alone, the best so far, the notes laid -/
def SF (J K : Nat → Nat → Int32) : Prop := (∀ a j, ¬ plS a j → a ≠ 52 → ¬ (60 ≤ a ∧ a ≤ 72 ∧ a ≠ 64) → K a j = J a j) ∧ K 57 0 = J 57 0 ∧ K 59 0 = J 59 0
def SB (K : Nat → Nat → Int32) (S : SC) (set : Int32) (dd : Nat) (q : Nat × Nat) : Prop := K 60 3 = set ∧ K 60 4 = Int32.ofNat dd ∧ q.1 ≤ 1000000 ∧ K 60 2 = b01 (decide (q.1 < 1000000)) ∧ (q.1 < 1000000 → K 60 0 = Int32.ofNat q.1 ∧ ∀ j, j < S.1 → K 61 j = Int32.ofNat (sfd (dd + 1) S.1 q.2 j))
def SP (K : Nat → Nat → Int32) (S : SC) (n dd k p : Nat) : Prop := (∀ j, j < k → K 62 j = Int32.ofNat (sfd (dd + 1) k p j)) ∧ ∀ i, i ≤ k → ∀ t, t < 12 → K (64 + i) t = wgs S (fun k => decide (S.2.1 k < n)) (sfd (dd + 1) k p) i t
theorem SP_down {K : Nat → Nat → Int32} {S : SC} {n dd k p s : Nat} (h : SP K S n dd (k + 1) (p * (dd + 1) + s)) (hs : s ≤ dd) : SP K S n dd k p :=
  ⟨fun j hj => (h.1 j (by omega)).trans (by rw [sfd_up (by omega) hj (by omega)]), fun i hi t ht => (h.2 i (by omega) t ht).trans (wgs_congr i (fun j hj => sfd_up (by omega) (by omega) (by omega)))⟩
theorem k_isBetter {K : Nat → Nat → Int32} {S : SC} {set : Int32} {dd a : Nat} {q : Nat × Nat} (h : SB K S set dd q) (ha : a < 1000000) : Cl X (d + 1) 90 [vr 60, vi (Int32.ofNat a)] (pm_mm al D K L) = some (some (vi (b01 (decide (a < q.1)))), pm_mm al D K L) := by
  obtain ⟨h1, h2, h3, h4, h5⟩ := h
  rw [Cl_s]
  refine Eq.trans (show _ = Rn X d co_Sh_isBetter (0, [some (vr 60), some (vi (Int32.ofNat a))], [], pm_mm al D K L) from rfl) ?_
  rw [sg_Sh_isBetter_0, h4, sg_Sh_isBetter_15, sg_Sh_isBetter_20, sg_Sh_isBetter_20]
  by_cases hq : q.1 < 1000000
  · rw [(h5 hq).1, dt hq, n_dle (by omega) (by omega)]
    by_cases hc : q.1 ≤ a
    · rw [dt hc, df (show ¬ a < q.1 by omega)]; rfl
    · rw [df hc, dt (show a < q.1 by omega)]; rfl
  · rw [df hq, dt (show a < q.1 by omega)]; rfl
theorem k_keepRow {K : Nat → Nat → Int32} {J : Nat → Nat → Int32} {S : SC} {set : Int32} {n dd p a : Nat} {q : Nat × Nat} (h : SB K S set dd q) (hf : SF J K) (hp : SP K S n dd S.1 p) (h8 : S.1 ≤ 8) (ha : a < 1000000) : ∃ M, Cl X (d + 1) 89 [vr 60, vi (Int32.ofNat a)] (pm_mm al D K L) = some (none, pm_mm al D M L) ∧ SF J M ∧ SB M S set dd (a, p) ∧ SP M S n dd S.1 p := by
  obtain ⟨h1, h2, h3, h4, h5⟩ := h
  rw [Cl_s]
  refine ⟨_, (show _ = Rn X d co_Sh_keepRow (0, [some (vr 60), some (vi (Int32.ofNat a))], [], pm_mm al D K L) from rfl).trans (sg_Sh_keepRow_0 ..), ?_, ?_, ?_⟩
  · refine ⟨fun b j b1 b2 b3 => ?_, ?_, ?_⟩
    · rw [ups_ne (by omega), up_ne (by omega), up_ne (by omega)]; exact hf.1 b j b1 b2 b3
    · rw [ups_ne (by omega), up_ne (by omega), up_ne (by omega)]; exact hf.2.1
    · rw [ups_ne (by omega), up_ne (by omega), up_ne (by omega)]; exact hf.2.2
  · refine ⟨?_, ?_, by omega, ?_, fun _ => ⟨?_, fun j hj => ?_⟩⟩
    · rw [ups_ne (by omega), up_ne (by omega), up_ne (by omega)]; exact h1
    · rw [ups_ne (by omega), up_ne (by omega), up_ne (by omega)]; exact h2
    · rw [ups_ne (by omega), up_ne (by omega), up_eq, dt ha]; rfl
    · rw [ups_ne (by omega), up_eq]
    · rw [ups_eq, va_cpy, if_pos (by omega), Nat.zero_add, Nat.sub_zero]; exact hp.1 j hj
  · refine ⟨fun j hj => ?_, fun i hi t ht => ?_⟩
    · rw [ups_ne (by omega), up_ne (by omega), up_ne (by omega)]; exact hp.1 j hj
    · rw [ups_ne (by omega), up_ne (by omega), up_ne (by omega)]; exact hp.2 i hi t ht
theorem k_goesOn {J K : Nat → Nat → Int32} {B : PB} {S : SC} {set : Int32} {sc dd k p s : Nat} {q : Nat × Nat} (hs2 : sc < 2) (gB : bG B) (hdd : dd ≤ 2) (hk : k < S.1) (hbd : bdP J B) (nt : ntP J sc S) (hf : SF J K) (hb : SB K S set dd q) (hp : SP K S B.2.2.2.2.1 dd k p) (hs : s ≤ dd) :
    ∃ M, Cl X (d + 4) 91 [vr 60, vr 49, vr (19 + 4 * sc), vi (Int32.ofNat k), vi (Int32.ofNat s)] (pm_mm al D K L) = some (some (vi (b01 (sfv B S set (sfd (dd + 1) (k + 1) (p * (dd + 1) + s)) (k + 1)))), pm_mm al D M L) ∧ SF J M ∧ SB M S set dd q ∧ SP M S B.2.2.2.2.1 dd (k + 1) (p * (dd + 1) + s) := by
  have h8 : S.1 ≤ 8 := nt.1.1
  have hn6 := hbd.1
  rw [Cl_s]
  refine (fun (h : ∃ M, Rn X (d + 3) co_Sh_goesOn (0, [some (vr 60), some (vr 49), some (vr (19 + 4 * sc)), some (vi (Int32.ofNat k)), some (vi (Int32.ofNat s))], [], pm_mm al D K L) = _ ∧ _) => h) ?_
  rw [sgb_Sh_goesOn_0 hs2 (show k < 8 by omega)]
  generalize hK1 : pm_ups K 52 (va_cpy (K (64 + k)) (K 52) 0 0 12) = K1
  have k1 : ∀ a j, a ≠ 52 → K1 a j = K a j := fun a j h => by rw [← hK1, ups_ne h]
  have k52 : ∀ t, t < 12 → K1 52 t = wgs S (fun k => decide (S.2.1 k < B.2.2.2.2.1)) (sfd (dd + 1) k p) k t := fun t ht => by
    rw [← hK1, ups_eq, va_cpy, if_pos (by omega), Nat.zero_add, Nat.sub_zero]; exact hp.2 k (Nat.le_refl _) t ht
  have bd1 : bdP K1 B := bd_up hbd (fun a j a1 a2 a3 => (k1 a j (by omega)).trans (hf.1 a j (by unfold plS; omega) (by omega) (by omega)))
  have nt1 : ntP K1 sc S := nt_up nt hs2 (fun a j a1 a2 => (k1 a j (by omega)).trans (hf.1 a j (by unfold plS; omega) (by omega) (by omega)))
  have hadd := k_addNote (X := X) (d := d + 1) (al := al) (D := D) (L := L) (I := K1) (k := k) (n := B.2.2.2.2.1) (lt := s) hs2 hk nt1 hn6 bd1.2.1 (by omega)
  generalize hK2 : (if S.2.1 k < B.2.2.2.2.1 then pm_ups K1 52 (lyf (K1 52) (S.2.1 k) (S.2.2.1 k + s) (S.2.2.2 k)) else K1) = K2 at hadd
  have k2 : ∀ a j, a ≠ 52 → K2 a j = K1 a j := fun a j h => by
    rw [← hK2]; split
    · rw [ups_ne h]
    · rfl
  have k252 : ∀ t, t < 12 → K2 52 t = wgs S (fun k => decide (S.2.1 k < B.2.2.2.2.1)) (sfd (dd + 1) (k + 1) (p * (dd + 1) + s)) (k + 1) t := fun t ht => by
    have e1 : wgs S (fun k => decide (S.2.1 k < B.2.2.2.2.1)) (sfd (dd + 1) (k + 1) (p * (dd + 1) + s)) k t = K1 52 t := (wgs_congr k (fun j hj => sfd_up (by omega) hj (by omega))).trans (k52 t ht).symm
    rw [wgs] at e1
    rw [wgs, fo, e1, wg, sfd_top (by omega), ← hK2]
    by_cases hc : S.2.1 k < B.2.2.2.2.1
    · rw [if_pos hc, ups_eq, lyf]
      by_cases h : S.2.2.1 k + s ≤ t ∧ t < S.2.2.1 k + s + S.2.2.2 k
      · rw [if_pos ⟨h.1, h.2, ht⟩, if_pos ⟨dt hc, h⟩]
      · rw [if_neg (fun c => h ⟨c.1, c.2.1⟩), if_neg (fun c => h c.2)]
    · rw [if_neg hc, if_neg (fun c => by have := c.1; rw [df hc] at this; cases this)]
  rw [hadd]
  simp only [Option.bind_some, pm_av]
  rw [sgb_Sh_goesOn_25 (b := 0) (by omega) (show k < 8 by omega)]
  generalize hK3 : pm_up (pm_ups K2 (65 + k) (va_cpy (K2 52) (K2 (65 + k)) 0 0 12)) 62 k (Int32.ofNat s) = K3
  have k3 : ∀ a j, a ≠ 65 + k → ¬ (a = 62 ∧ j = k) → K3 a j = K2 a j := fun a j h1 h2 => by rw [← hK3, up_ne (by omega), ups_ne h1]
  have bd3 : bdP K3 B := bd_up bd1 (fun a j a1 a2 a3 => (k3 a j (by omega) (by omega)).trans (k2 a j (by omega)))
  have hpd : pdP K3 B (wgs S (fun _ => true) (sfd (dd + 1) (k + 1) (p * (dd + 1) + s)) (k + 1)) := pd_of bd3 (fun t ht i hi => by
    rw [k3 52 t (by omega) (by omega), k252 t ht]
    have := wg_mask S (fun _ => true) (sfd (dd + 1) (k + 1) (p * (dd + 1) + s)) B.2.2.2.2.1 t hi (k + 1) (fun j hj => (nt.1.2 j (by omega)).1)
    exact this)
  obtain ⟨M, p1, p2⟩ := k_wellB (X := X) (d := d) (al := al) (D := D) (L := L) set 0 hpd
  have K3f : ∀ a j, a ≠ 52 → ¬ (60 ≤ a ∧ a ≤ 72 ∧ a ≠ 64) → K3 a j = K a j := fun a j a1 a2 => by rw [k3 a j (by omega) (by omega), k2 a j a1, k1 a j a1]
  have K60 : ∀ a j, a = 60 ∨ a = 61 → M a j = K a j := fun a j ha => by rw [p2.1 a j (by unfold plS; omega), k3 a j (by omega) (by omega), k2 a j (by omega), k1 a j (by omega)]
  have hval : well (fun t => (pst (K3 49 0, B.2.1, K3 49 1, K3 49 2, B.2.2.2.2.1, B.2.2.2.2.2.1, B.2.2.2.2.2.2) (wgs S (fun _ => true) (sfd (dd + 1) (k + 1) (p * (dd + 1) + s)) (k + 1)) (trw set 0) (t + 1)).2.2.2.2.1) 0 12 = sfv B S set (sfd (dd + 1) (k + 1) (p * (dd + 1) + s)) (k + 1) := by
    rw [bd3.2.2.2.2.2.2.1, bd3.2.2.2.2.2.2.2.1, bd3.2.2.2.2.2.2.2.2]
    exact well_congr 12 0 (fun t _ ht => by rw [pst_trw gB])
  rw [hval] at p1
  refine ⟨M, ?_, ?_, ?_, ?_⟩
  · have e2 : K2 60 3 = set := by rw [k2 60 3 (by omega), k1 60 3 (by omega)]; exact hb.1
    rw [e2, p1]
    simp only [Option.bind_some, pm_ai]
    rw [sgb_Sh_goesOn_61]
    cases sfv B S set (sfd (dd + 1) (k + 1) (p * (dd + 1) + s)) (k + 1) <;> rfl
  · refine ⟨fun a j a1 a2 a3 => ?_, ?_, ?_⟩
    · rw [p2.1 a j a1, K3f a j a2 a3]; exact hf.1 a j a1 a2 a3
    · rw [p2.2.1, K3f 57 0 (by omega) (by omega)]; exact hf.2.1
    · rw [p2.2.2, K3f 59 0 (by omega) (by omega)]; exact hf.2.2
  · obtain ⟨b1, b2, b3, b4, b5⟩ := hb
    exact ⟨(K60 60 3 (by omega)).trans b1, (K60 60 4 (by omega)).trans b2, b3, (K60 60 2 (by omega)).trans b4, fun hq => ⟨(K60 60 0 (by omega)).trans (b5 hq).1, fun j hj => (K60 61 j (by omega)).trans ((b5 hq).2 j hj)⟩⟩
  · refine ⟨fun j hj => ?_, fun i hi t ht => ?_⟩
    · rw [p2.1 62 j (by unfold plS; omega)]
      by_cases h : j = k
      · rw [h, ← hK3, up_eq, sfd_top (by omega)]
      · rw [k3 62 j (by omega) (by omega), k2 62 j (by omega), k1 62 j (by omega), hp.1 j (by omega), sfd_up (by omega) (by omega) (by omega)]
    · rw [p2.1 (64 + i) t (by unfold plS; omega)]
      by_cases h : i = k + 1
      · rw [h, ← hK3, up_ne (by omega), show 64 + (k + 1) = 65 + k by omega, ups_eq, va_cpy, if_pos (by omega), Nat.zero_add, Nat.sub_zero]; exact k252 t ht
      · rw [k3 (64 + i) t (by omega) (by omega), k2 (64 + i) t (by omega), k1 (64 + i) t (by omega), hp.2 i (by omega) t ht]
        exact (wgs_congr i (fun j hj => sfd_up (by omega) (by omega) (by omega))).symm
end
