section
variable {X : Nat × (Nat → Int32)} {d : Nat} {al : List Nat} {D : Nat → Bool} {I : Nat → Nat → Int32} {L : Nat → Nat → Int64}
/-- the words, from their ends -/
def wch : Nat → List Nat
  | 0 => [115, 119, 111, 108, 108, 101, 98]
  | 1 => [104, 116, 103, 110, 101, 114, 116, 115]
  | 2 => [101, 112, 105, 112]
  | 3 => [101, 116, 111, 110]
  | 4 => [100, 97, 101, 114, 116]
  | 5 => [116, 115, 101, 114]
  | _ => [100, 114, 97, 101, 104]
/-- m bytes from p are a word -/
def spw (T : Nat → Int32) (p : Nat) : Nat → List Nat → Bool
  | 0, [] => true
  | 0, _ :: _ => false
  | _ + 1, [] => false
  | m + 1, c :: ds => decide (Int32.ofNat c = T (p + m)) && spw T p m ds
theorem spw_len {T : Nat → Int32} {p : Nat} : ∀ m ds, spw T p m ds = true → m = ds.length
  | 0, [], _ => rfl
  | 0, _ :: _, h => by cases h
  | _ + 1, [], h => by cases h
  | m + 1, c :: ds, h => by
    rw [spw, Bool.and_eq_true] at h
    rw [spw_len m ds h.2]; rfl
theorem spw_f {T : Nat → Int32} {p m : Nat} {ds : List Nat} (h : ¬ m = ds.length) : spw T p m ds = false := by
  cases e : spw T p m ds with
  | false => rfl
  | true => exact absurd (spw_len m ds e) h
theorem k_spells_0 {T : Nat → Int32} {n p e : Nat} (h : tpC I T n) (hp : p < e) (he : e ≤ n) : Cl X (d + 1) 72 [vr 34, vr 911, vi (Int32.ofNat p), vi (Int32.ofNat e)] (pm_mm al (pm_tb 7 D) I L) = some (some (vi (b01 (spw T p (e - p) (wch 0)))), pm_mm al (pm_tb 7 D) I L) := by
  obtain ⟨e7, hn, eT⟩ := h
  rw [Cl_s]
  show Rn X d co_Re_spells (0, [some (vr 34), some (vr 911), some (vi (Int32.ofNat p)), some (vi (Int32.ofNat e)), none], [], pm_mm al (pm_tb 7 D) I L) = _
  rw [sg_Re_spells_911_0, n_sub (by omega), show decide ((7 : Int32) = Int32.ofNat (e - p)) = decide (7 = e - p) from n_deq (a := 7) (by omega) (by omega)]
  by_cases hl : 7 = e - p
  · have st : ∀ i o3, i < 7 → Rn X d co_Re_spells (15, [some (vr 34), some (vr 911), some (vi (Int32.ofNat p)), o3, some (vi (Int32.ofNat i))], [], pm_mm al (pm_tb 7 D) I L) = cond (decide (pm_tv 911 i = T (p + i))) (Rn X d co_Re_spells (15, [some (vr 34), some (vr 911), some (vi (Int32.ofNat p)), pm_nl o3, some (vi (Int32.ofNat (i + 1)))], [], pm_mm al (pm_tb 7 D) I L)) (some (some (vi 0), pm_mm al (pm_tb 7 D) I L)) := fun i o3 hi => by
      rw [sg_Re_spells_911_15, show decide ((7 : Int32) ≤ Int32.ofNat i) = false from (n_dle (a := 7) (by omega) (by omega)).trans (df (by omega)), cond_false, n_in (by omega), dt hi, cond_true, n_add p i, n_in (by omega), dt (by omega), cond_true, n_tn (by omega), n_tn (by omega), eT (p + i) (by omega), n_s]
    have fi : ∀ o3, Rn X d co_Re_spells (15, [some (vr 34), some (vr 911), some (vi (Int32.ofNat p)), o3, some (vi (Int32.ofNat 7))], [], pm_mm al (pm_tb 7 D) I L) = some (some (vi 1), pm_mm al (pm_tb 7 D) I L) := fun o3 => by
      rw [sg_Re_spells_911_15, show decide ((7 : Int32) ≤ Int32.ofNat 7) = true from rfl, cond_true]
    rw [dt hl, cond_true, ← hl]
    have s0 := st 0 (some (vi (Int32.ofNat e))) (by omega)
    have s0 : Rn X d co_Re_spells (15, [some (vr 34), some (vr 911), some (vi (Int32.ofNat p)), some (vi (Int32.ofNat e)), some (vi 0)], [], pm_mm al (pm_tb 7 D) I L) = _ := s0
    rw [s0, st 1 _ (by omega), st 2 _ (by omega), st 3 _ (by omega), st 4 _ (by omega), st 5 _ (by omega), st 6 _ (by omega), fi]
    show _ = some (some (vi (b01 (decide (Int32.ofNat 115 = T (p + 6)) && (decide (Int32.ofNat 119 = T (p + 5)) && (decide (Int32.ofNat 111 = T (p + 4)) && (decide (Int32.ofNat 108 = T (p + 3)) && (decide (Int32.ofNat 108 = T (p + 2)) && (decide (Int32.ofNat 101 = T (p + 1)) && (decide (Int32.ofNat 98 = T (p + 0)) && true))))))))), _)
    rw [show pm_tv 911 0 = Int32.ofNat 98 from rfl, show pm_tv 911 1 = Int32.ofNat 101 from rfl, show pm_tv 911 2 = Int32.ofNat 108 from rfl, show pm_tv 911 3 = Int32.ofNat 108 from rfl, show pm_tv 911 4 = Int32.ofNat 111 from rfl, show pm_tv 911 5 = Int32.ofNat 119 from rfl, show pm_tv 911 6 = Int32.ofNat 115 from rfl]
    cases decide (Int32.ofNat 98 = T (p + 0)) <;> cases decide (Int32.ofNat 101 = T (p + 1)) <;> cases decide (Int32.ofNat 108 = T (p + 2)) <;> cases decide (Int32.ofNat 108 = T (p + 3)) <;> cases decide (Int32.ofNat 111 = T (p + 4)) <;> cases decide (Int32.ofNat 119 = T (p + 5)) <;> cases decide (Int32.ofNat 115 = T (p + 6)) <;> simp only [cond_true, cond_false, Bool.true_and, Bool.false_and, Bool.and_true, Bool.and_false, b01]
  · rw [df hl, cond_false, spw_f (show ¬ e - p = (wch 0).length from fun c => hl c.symm)]; rfl
theorem k_spells_1 {T : Nat → Int32} {n p e : Nat} (h : tpC I T n) (hp : p < e) (he : e ≤ n) : Cl X (d + 1) 72 [vr 34, vr 912, vi (Int32.ofNat p), vi (Int32.ofNat e)] (pm_mm al (pm_tb 7 D) I L) = some (some (vi (b01 (spw T p (e - p) (wch 1)))), pm_mm al (pm_tb 7 D) I L) := by
  obtain ⟨e7, hn, eT⟩ := h
  rw [Cl_s]
  show Rn X d co_Re_spells (0, [some (vr 34), some (vr 912), some (vi (Int32.ofNat p)), some (vi (Int32.ofNat e)), none], [], pm_mm al (pm_tb 7 D) I L) = _
  rw [sg_Re_spells_912_0, n_sub (by omega), show decide ((8 : Int32) = Int32.ofNat (e - p)) = decide (8 = e - p) from n_deq (a := 8) (by omega) (by omega)]
  by_cases hl : 8 = e - p
  · have st : ∀ i o3, i < 8 → Rn X d co_Re_spells (15, [some (vr 34), some (vr 912), some (vi (Int32.ofNat p)), o3, some (vi (Int32.ofNat i))], [], pm_mm al (pm_tb 7 D) I L) = cond (decide (pm_tv 912 i = T (p + i))) (Rn X d co_Re_spells (15, [some (vr 34), some (vr 912), some (vi (Int32.ofNat p)), pm_nl o3, some (vi (Int32.ofNat (i + 1)))], [], pm_mm al (pm_tb 7 D) I L)) (some (some (vi 0), pm_mm al (pm_tb 7 D) I L)) := fun i o3 hi => by
      rw [sg_Re_spells_912_15, show decide ((8 : Int32) ≤ Int32.ofNat i) = false from (n_dle (a := 8) (by omega) (by omega)).trans (df (by omega)), cond_false, n_in (by omega), dt hi, cond_true, n_add p i, n_in (by omega), dt (by omega), cond_true, n_tn (by omega), n_tn (by omega), eT (p + i) (by omega), n_s]
    have fi : ∀ o3, Rn X d co_Re_spells (15, [some (vr 34), some (vr 912), some (vi (Int32.ofNat p)), o3, some (vi (Int32.ofNat 8))], [], pm_mm al (pm_tb 7 D) I L) = some (some (vi 1), pm_mm al (pm_tb 7 D) I L) := fun o3 => by
      rw [sg_Re_spells_912_15, show decide ((8 : Int32) ≤ Int32.ofNat 8) = true from rfl, cond_true]
    rw [dt hl, cond_true, ← hl]
    have s0 := st 0 (some (vi (Int32.ofNat e))) (by omega)
    have s0 : Rn X d co_Re_spells (15, [some (vr 34), some (vr 912), some (vi (Int32.ofNat p)), some (vi (Int32.ofNat e)), some (vi 0)], [], pm_mm al (pm_tb 7 D) I L) = _ := s0
    rw [s0, st 1 _ (by omega), st 2 _ (by omega), st 3 _ (by omega), st 4 _ (by omega), st 5 _ (by omega), st 6 _ (by omega), st 7 _ (by omega), fi]
    show _ = some (some (vi (b01 (decide (Int32.ofNat 104 = T (p + 7)) && (decide (Int32.ofNat 116 = T (p + 6)) && (decide (Int32.ofNat 103 = T (p + 5)) && (decide (Int32.ofNat 110 = T (p + 4)) && (decide (Int32.ofNat 101 = T (p + 3)) && (decide (Int32.ofNat 114 = T (p + 2)) && (decide (Int32.ofNat 116 = T (p + 1)) && (decide (Int32.ofNat 115 = T (p + 0)) && true)))))))))), _)
    rw [show pm_tv 912 0 = Int32.ofNat 115 from rfl, show pm_tv 912 1 = Int32.ofNat 116 from rfl, show pm_tv 912 2 = Int32.ofNat 114 from rfl, show pm_tv 912 3 = Int32.ofNat 101 from rfl, show pm_tv 912 4 = Int32.ofNat 110 from rfl, show pm_tv 912 5 = Int32.ofNat 103 from rfl, show pm_tv 912 6 = Int32.ofNat 116 from rfl, show pm_tv 912 7 = Int32.ofNat 104 from rfl]
    cases decide (Int32.ofNat 115 = T (p + 0)) <;> cases decide (Int32.ofNat 116 = T (p + 1)) <;> cases decide (Int32.ofNat 114 = T (p + 2)) <;> cases decide (Int32.ofNat 101 = T (p + 3)) <;> cases decide (Int32.ofNat 110 = T (p + 4)) <;> cases decide (Int32.ofNat 103 = T (p + 5)) <;> cases decide (Int32.ofNat 116 = T (p + 6)) <;> cases decide (Int32.ofNat 104 = T (p + 7)) <;> simp only [cond_true, cond_false, Bool.true_and, Bool.false_and, Bool.and_true, Bool.and_false, b01]
  · rw [df hl, cond_false, spw_f (show ¬ e - p = (wch 1).length from fun c => hl c.symm)]; rfl
theorem k_spells_2 {T : Nat → Int32} {n p e : Nat} (h : tpC I T n) (hp : p < e) (he : e ≤ n) : Cl X (d + 1) 72 [vr 34, vr 913, vi (Int32.ofNat p), vi (Int32.ofNat e)] (pm_mm al (pm_tb 7 D) I L) = some (some (vi (b01 (spw T p (e - p) (wch 2)))), pm_mm al (pm_tb 7 D) I L) := by
  obtain ⟨e7, hn, eT⟩ := h
  rw [Cl_s]
  show Rn X d co_Re_spells (0, [some (vr 34), some (vr 913), some (vi (Int32.ofNat p)), some (vi (Int32.ofNat e)), none], [], pm_mm al (pm_tb 7 D) I L) = _
  rw [sg_Re_spells_913_0, n_sub (by omega), show decide ((4 : Int32) = Int32.ofNat (e - p)) = decide (4 = e - p) from n_deq (a := 4) (by omega) (by omega)]
  by_cases hl : 4 = e - p
  · have st : ∀ i o3, i < 4 → Rn X d co_Re_spells (15, [some (vr 34), some (vr 913), some (vi (Int32.ofNat p)), o3, some (vi (Int32.ofNat i))], [], pm_mm al (pm_tb 7 D) I L) = cond (decide (pm_tv 913 i = T (p + i))) (Rn X d co_Re_spells (15, [some (vr 34), some (vr 913), some (vi (Int32.ofNat p)), pm_nl o3, some (vi (Int32.ofNat (i + 1)))], [], pm_mm al (pm_tb 7 D) I L)) (some (some (vi 0), pm_mm al (pm_tb 7 D) I L)) := fun i o3 hi => by
      rw [sg_Re_spells_913_15, show decide ((4 : Int32) ≤ Int32.ofNat i) = false from (n_dle (a := 4) (by omega) (by omega)).trans (df (by omega)), cond_false, n_in (by omega), dt hi, cond_true, n_add p i, n_in (by omega), dt (by omega), cond_true, n_tn (by omega), n_tn (by omega), eT (p + i) (by omega), n_s]
    have fi : ∀ o3, Rn X d co_Re_spells (15, [some (vr 34), some (vr 913), some (vi (Int32.ofNat p)), o3, some (vi (Int32.ofNat 4))], [], pm_mm al (pm_tb 7 D) I L) = some (some (vi 1), pm_mm al (pm_tb 7 D) I L) := fun o3 => by
      rw [sg_Re_spells_913_15, show decide ((4 : Int32) ≤ Int32.ofNat 4) = true from rfl, cond_true]
    rw [dt hl, cond_true, ← hl]
    have s0 := st 0 (some (vi (Int32.ofNat e))) (by omega)
    have s0 : Rn X d co_Re_spells (15, [some (vr 34), some (vr 913), some (vi (Int32.ofNat p)), some (vi (Int32.ofNat e)), some (vi 0)], [], pm_mm al (pm_tb 7 D) I L) = _ := s0
    rw [s0, st 1 _ (by omega), st 2 _ (by omega), st 3 _ (by omega), fi]
    show _ = some (some (vi (b01 (decide (Int32.ofNat 101 = T (p + 3)) && (decide (Int32.ofNat 112 = T (p + 2)) && (decide (Int32.ofNat 105 = T (p + 1)) && (decide (Int32.ofNat 112 = T (p + 0)) && true)))))), _)
    rw [show pm_tv 913 0 = Int32.ofNat 112 from rfl, show pm_tv 913 1 = Int32.ofNat 105 from rfl, show pm_tv 913 2 = Int32.ofNat 112 from rfl, show pm_tv 913 3 = Int32.ofNat 101 from rfl]
    cases decide (Int32.ofNat 112 = T (p + 0)) <;> cases decide (Int32.ofNat 105 = T (p + 1)) <;> cases decide (Int32.ofNat 112 = T (p + 2)) <;> cases decide (Int32.ofNat 101 = T (p + 3)) <;> simp only [cond_true, cond_false, Bool.true_and, Bool.false_and, Bool.and_true, Bool.and_false, b01]
  · rw [df hl, cond_false, spw_f (show ¬ e - p = (wch 2).length from fun c => hl c.symm)]; rfl
theorem k_spells_3 {T : Nat → Int32} {n p e : Nat} (h : tpC I T n) (hp : p < e) (he : e ≤ n) : Cl X (d + 1) 72 [vr 34, vr 914, vi (Int32.ofNat p), vi (Int32.ofNat e)] (pm_mm al (pm_tb 7 D) I L) = some (some (vi (b01 (spw T p (e - p) (wch 3)))), pm_mm al (pm_tb 7 D) I L) := by
  obtain ⟨e7, hn, eT⟩ := h
  rw [Cl_s]
  show Rn X d co_Re_spells (0, [some (vr 34), some (vr 914), some (vi (Int32.ofNat p)), some (vi (Int32.ofNat e)), none], [], pm_mm al (pm_tb 7 D) I L) = _
  rw [sg_Re_spells_914_0, n_sub (by omega), show decide ((4 : Int32) = Int32.ofNat (e - p)) = decide (4 = e - p) from n_deq (a := 4) (by omega) (by omega)]
  by_cases hl : 4 = e - p
  · have st : ∀ i o3, i < 4 → Rn X d co_Re_spells (15, [some (vr 34), some (vr 914), some (vi (Int32.ofNat p)), o3, some (vi (Int32.ofNat i))], [], pm_mm al (pm_tb 7 D) I L) = cond (decide (pm_tv 914 i = T (p + i))) (Rn X d co_Re_spells (15, [some (vr 34), some (vr 914), some (vi (Int32.ofNat p)), pm_nl o3, some (vi (Int32.ofNat (i + 1)))], [], pm_mm al (pm_tb 7 D) I L)) (some (some (vi 0), pm_mm al (pm_tb 7 D) I L)) := fun i o3 hi => by
      rw [sg_Re_spells_914_15, show decide ((4 : Int32) ≤ Int32.ofNat i) = false from (n_dle (a := 4) (by omega) (by omega)).trans (df (by omega)), cond_false, n_in (by omega), dt hi, cond_true, n_add p i, n_in (by omega), dt (by omega), cond_true, n_tn (by omega), n_tn (by omega), eT (p + i) (by omega), n_s]
    have fi : ∀ o3, Rn X d co_Re_spells (15, [some (vr 34), some (vr 914), some (vi (Int32.ofNat p)), o3, some (vi (Int32.ofNat 4))], [], pm_mm al (pm_tb 7 D) I L) = some (some (vi 1), pm_mm al (pm_tb 7 D) I L) := fun o3 => by
      rw [sg_Re_spells_914_15, show decide ((4 : Int32) ≤ Int32.ofNat 4) = true from rfl, cond_true]
    rw [dt hl, cond_true, ← hl]
    have s0 := st 0 (some (vi (Int32.ofNat e))) (by omega)
    have s0 : Rn X d co_Re_spells (15, [some (vr 34), some (vr 914), some (vi (Int32.ofNat p)), some (vi (Int32.ofNat e)), some (vi 0)], [], pm_mm al (pm_tb 7 D) I L) = _ := s0
    rw [s0, st 1 _ (by omega), st 2 _ (by omega), st 3 _ (by omega), fi]
    show _ = some (some (vi (b01 (decide (Int32.ofNat 101 = T (p + 3)) && (decide (Int32.ofNat 116 = T (p + 2)) && (decide (Int32.ofNat 111 = T (p + 1)) && (decide (Int32.ofNat 110 = T (p + 0)) && true)))))), _)
    rw [show pm_tv 914 0 = Int32.ofNat 110 from rfl, show pm_tv 914 1 = Int32.ofNat 111 from rfl, show pm_tv 914 2 = Int32.ofNat 116 from rfl, show pm_tv 914 3 = Int32.ofNat 101 from rfl]
    cases decide (Int32.ofNat 110 = T (p + 0)) <;> cases decide (Int32.ofNat 111 = T (p + 1)) <;> cases decide (Int32.ofNat 116 = T (p + 2)) <;> cases decide (Int32.ofNat 101 = T (p + 3)) <;> simp only [cond_true, cond_false, Bool.true_and, Bool.false_and, Bool.and_true, Bool.and_false, b01]
  · rw [df hl, cond_false, spw_f (show ¬ e - p = (wch 3).length from fun c => hl c.symm)]; rfl
theorem k_spells_4 {T : Nat → Int32} {n p e : Nat} (h : tpC I T n) (hp : p < e) (he : e ≤ n) : Cl X (d + 1) 72 [vr 34, vr 915, vi (Int32.ofNat p), vi (Int32.ofNat e)] (pm_mm al (pm_tb 7 D) I L) = some (some (vi (b01 (spw T p (e - p) (wch 4)))), pm_mm al (pm_tb 7 D) I L) := by
  obtain ⟨e7, hn, eT⟩ := h
  rw [Cl_s]
  show Rn X d co_Re_spells (0, [some (vr 34), some (vr 915), some (vi (Int32.ofNat p)), some (vi (Int32.ofNat e)), none], [], pm_mm al (pm_tb 7 D) I L) = _
  rw [sg_Re_spells_915_0, n_sub (by omega), show decide ((5 : Int32) = Int32.ofNat (e - p)) = decide (5 = e - p) from n_deq (a := 5) (by omega) (by omega)]
  by_cases hl : 5 = e - p
  · have st : ∀ i o3, i < 5 → Rn X d co_Re_spells (15, [some (vr 34), some (vr 915), some (vi (Int32.ofNat p)), o3, some (vi (Int32.ofNat i))], [], pm_mm al (pm_tb 7 D) I L) = cond (decide (pm_tv 915 i = T (p + i))) (Rn X d co_Re_spells (15, [some (vr 34), some (vr 915), some (vi (Int32.ofNat p)), pm_nl o3, some (vi (Int32.ofNat (i + 1)))], [], pm_mm al (pm_tb 7 D) I L)) (some (some (vi 0), pm_mm al (pm_tb 7 D) I L)) := fun i o3 hi => by
      rw [sg_Re_spells_915_15, show decide ((5 : Int32) ≤ Int32.ofNat i) = false from (n_dle (a := 5) (by omega) (by omega)).trans (df (by omega)), cond_false, n_in (by omega), dt hi, cond_true, n_add p i, n_in (by omega), dt (by omega), cond_true, n_tn (by omega), n_tn (by omega), eT (p + i) (by omega), n_s]
    have fi : ∀ o3, Rn X d co_Re_spells (15, [some (vr 34), some (vr 915), some (vi (Int32.ofNat p)), o3, some (vi (Int32.ofNat 5))], [], pm_mm al (pm_tb 7 D) I L) = some (some (vi 1), pm_mm al (pm_tb 7 D) I L) := fun o3 => by
      rw [sg_Re_spells_915_15, show decide ((5 : Int32) ≤ Int32.ofNat 5) = true from rfl, cond_true]
    rw [dt hl, cond_true, ← hl]
    have s0 := st 0 (some (vi (Int32.ofNat e))) (by omega)
    have s0 : Rn X d co_Re_spells (15, [some (vr 34), some (vr 915), some (vi (Int32.ofNat p)), some (vi (Int32.ofNat e)), some (vi 0)], [], pm_mm al (pm_tb 7 D) I L) = _ := s0
    rw [s0, st 1 _ (by omega), st 2 _ (by omega), st 3 _ (by omega), st 4 _ (by omega), fi]
    show _ = some (some (vi (b01 (decide (Int32.ofNat 100 = T (p + 4)) && (decide (Int32.ofNat 97 = T (p + 3)) && (decide (Int32.ofNat 101 = T (p + 2)) && (decide (Int32.ofNat 114 = T (p + 1)) && (decide (Int32.ofNat 116 = T (p + 0)) && true))))))), _)
    rw [show pm_tv 915 0 = Int32.ofNat 116 from rfl, show pm_tv 915 1 = Int32.ofNat 114 from rfl, show pm_tv 915 2 = Int32.ofNat 101 from rfl, show pm_tv 915 3 = Int32.ofNat 97 from rfl, show pm_tv 915 4 = Int32.ofNat 100 from rfl]
    cases decide (Int32.ofNat 116 = T (p + 0)) <;> cases decide (Int32.ofNat 114 = T (p + 1)) <;> cases decide (Int32.ofNat 101 = T (p + 2)) <;> cases decide (Int32.ofNat 97 = T (p + 3)) <;> cases decide (Int32.ofNat 100 = T (p + 4)) <;> simp only [cond_true, cond_false, Bool.true_and, Bool.false_and, Bool.and_true, Bool.and_false, b01]
  · rw [df hl, cond_false, spw_f (show ¬ e - p = (wch 4).length from fun c => hl c.symm)]; rfl
theorem k_spells_5 {T : Nat → Int32} {n p e : Nat} (h : tpC I T n) (hp : p < e) (he : e ≤ n) : Cl X (d + 1) 72 [vr 34, vr 916, vi (Int32.ofNat p), vi (Int32.ofNat e)] (pm_mm al (pm_tb 7 D) I L) = some (some (vi (b01 (spw T p (e - p) (wch 5)))), pm_mm al (pm_tb 7 D) I L) := by
  obtain ⟨e7, hn, eT⟩ := h
  rw [Cl_s]
  show Rn X d co_Re_spells (0, [some (vr 34), some (vr 916), some (vi (Int32.ofNat p)), some (vi (Int32.ofNat e)), none], [], pm_mm al (pm_tb 7 D) I L) = _
  rw [sg_Re_spells_916_0, n_sub (by omega), show decide ((4 : Int32) = Int32.ofNat (e - p)) = decide (4 = e - p) from n_deq (a := 4) (by omega) (by omega)]
  by_cases hl : 4 = e - p
  · have st : ∀ i o3, i < 4 → Rn X d co_Re_spells (15, [some (vr 34), some (vr 916), some (vi (Int32.ofNat p)), o3, some (vi (Int32.ofNat i))], [], pm_mm al (pm_tb 7 D) I L) = cond (decide (pm_tv 916 i = T (p + i))) (Rn X d co_Re_spells (15, [some (vr 34), some (vr 916), some (vi (Int32.ofNat p)), pm_nl o3, some (vi (Int32.ofNat (i + 1)))], [], pm_mm al (pm_tb 7 D) I L)) (some (some (vi 0), pm_mm al (pm_tb 7 D) I L)) := fun i o3 hi => by
      rw [sg_Re_spells_916_15, show decide ((4 : Int32) ≤ Int32.ofNat i) = false from (n_dle (a := 4) (by omega) (by omega)).trans (df (by omega)), cond_false, n_in (by omega), dt hi, cond_true, n_add p i, n_in (by omega), dt (by omega), cond_true, n_tn (by omega), n_tn (by omega), eT (p + i) (by omega), n_s]
    have fi : ∀ o3, Rn X d co_Re_spells (15, [some (vr 34), some (vr 916), some (vi (Int32.ofNat p)), o3, some (vi (Int32.ofNat 4))], [], pm_mm al (pm_tb 7 D) I L) = some (some (vi 1), pm_mm al (pm_tb 7 D) I L) := fun o3 => by
      rw [sg_Re_spells_916_15, show decide ((4 : Int32) ≤ Int32.ofNat 4) = true from rfl, cond_true]
    rw [dt hl, cond_true, ← hl]
    have s0 := st 0 (some (vi (Int32.ofNat e))) (by omega)
    have s0 : Rn X d co_Re_spells (15, [some (vr 34), some (vr 916), some (vi (Int32.ofNat p)), some (vi (Int32.ofNat e)), some (vi 0)], [], pm_mm al (pm_tb 7 D) I L) = _ := s0
    rw [s0, st 1 _ (by omega), st 2 _ (by omega), st 3 _ (by omega), fi]
    show _ = some (some (vi (b01 (decide (Int32.ofNat 116 = T (p + 3)) && (decide (Int32.ofNat 115 = T (p + 2)) && (decide (Int32.ofNat 101 = T (p + 1)) && (decide (Int32.ofNat 114 = T (p + 0)) && true)))))), _)
    rw [show pm_tv 916 0 = Int32.ofNat 114 from rfl, show pm_tv 916 1 = Int32.ofNat 101 from rfl, show pm_tv 916 2 = Int32.ofNat 115 from rfl, show pm_tv 916 3 = Int32.ofNat 116 from rfl]
    cases decide (Int32.ofNat 114 = T (p + 0)) <;> cases decide (Int32.ofNat 101 = T (p + 1)) <;> cases decide (Int32.ofNat 115 = T (p + 2)) <;> cases decide (Int32.ofNat 116 = T (p + 3)) <;> simp only [cond_true, cond_false, Bool.true_and, Bool.false_and, Bool.and_true, Bool.and_false, b01]
  · rw [df hl, cond_false, spw_f (show ¬ e - p = (wch 5).length from fun c => hl c.symm)]; rfl
theorem k_spells_6 {T : Nat → Int32} {n p e : Nat} (h : tpC I T n) (hp : p < e) (he : e ≤ n) : Cl X (d + 1) 72 [vr 34, vr 917, vi (Int32.ofNat p), vi (Int32.ofNat e)] (pm_mm al (pm_tb 7 D) I L) = some (some (vi (b01 (spw T p (e - p) (wch 6)))), pm_mm al (pm_tb 7 D) I L) := by
  obtain ⟨e7, hn, eT⟩ := h
  rw [Cl_s]
  show Rn X d co_Re_spells (0, [some (vr 34), some (vr 917), some (vi (Int32.ofNat p)), some (vi (Int32.ofNat e)), none], [], pm_mm al (pm_tb 7 D) I L) = _
  rw [sg_Re_spells_917_0, n_sub (by omega), show decide ((5 : Int32) = Int32.ofNat (e - p)) = decide (5 = e - p) from n_deq (a := 5) (by omega) (by omega)]
  by_cases hl : 5 = e - p
  · have st : ∀ i o3, i < 5 → Rn X d co_Re_spells (15, [some (vr 34), some (vr 917), some (vi (Int32.ofNat p)), o3, some (vi (Int32.ofNat i))], [], pm_mm al (pm_tb 7 D) I L) = cond (decide (pm_tv 917 i = T (p + i))) (Rn X d co_Re_spells (15, [some (vr 34), some (vr 917), some (vi (Int32.ofNat p)), pm_nl o3, some (vi (Int32.ofNat (i + 1)))], [], pm_mm al (pm_tb 7 D) I L)) (some (some (vi 0), pm_mm al (pm_tb 7 D) I L)) := fun i o3 hi => by
      rw [sg_Re_spells_917_15, show decide ((5 : Int32) ≤ Int32.ofNat i) = false from (n_dle (a := 5) (by omega) (by omega)).trans (df (by omega)), cond_false, n_in (by omega), dt hi, cond_true, n_add p i, n_in (by omega), dt (by omega), cond_true, n_tn (by omega), n_tn (by omega), eT (p + i) (by omega), n_s]
    have fi : ∀ o3, Rn X d co_Re_spells (15, [some (vr 34), some (vr 917), some (vi (Int32.ofNat p)), o3, some (vi (Int32.ofNat 5))], [], pm_mm al (pm_tb 7 D) I L) = some (some (vi 1), pm_mm al (pm_tb 7 D) I L) := fun o3 => by
      rw [sg_Re_spells_917_15, show decide ((5 : Int32) ≤ Int32.ofNat 5) = true from rfl, cond_true]
    rw [dt hl, cond_true, ← hl]
    have s0 := st 0 (some (vi (Int32.ofNat e))) (by omega)
    have s0 : Rn X d co_Re_spells (15, [some (vr 34), some (vr 917), some (vi (Int32.ofNat p)), some (vi (Int32.ofNat e)), some (vi 0)], [], pm_mm al (pm_tb 7 D) I L) = _ := s0
    rw [s0, st 1 _ (by omega), st 2 _ (by omega), st 3 _ (by omega), st 4 _ (by omega), fi]
    show _ = some (some (vi (b01 (decide (Int32.ofNat 100 = T (p + 4)) && (decide (Int32.ofNat 114 = T (p + 3)) && (decide (Int32.ofNat 97 = T (p + 2)) && (decide (Int32.ofNat 101 = T (p + 1)) && (decide (Int32.ofNat 104 = T (p + 0)) && true))))))), _)
    rw [show pm_tv 917 0 = Int32.ofNat 104 from rfl, show pm_tv 917 1 = Int32.ofNat 101 from rfl, show pm_tv 917 2 = Int32.ofNat 97 from rfl, show pm_tv 917 3 = Int32.ofNat 114 from rfl, show pm_tv 917 4 = Int32.ofNat 100 from rfl]
    cases decide (Int32.ofNat 104 = T (p + 0)) <;> cases decide (Int32.ofNat 101 = T (p + 1)) <;> cases decide (Int32.ofNat 97 = T (p + 2)) <;> cases decide (Int32.ofNat 114 = T (p + 3)) <;> cases decide (Int32.ofNat 100 = T (p + 4)) <;> simp only [cond_true, cond_false, Bool.true_and, Bool.false_and, Bool.and_true, Bool.and_false, b01]
  · rw [df hl, cond_false, spw_f (show ¬ e - p = (wch 6).length from fun c => hl c.symm)]; rfl
/-- the word of a sort that stands there, or 7 -/
def wat (s : Nat) (T : Nat → Int32) (p m : Nat) : Nat := match s with
  | 0 => cond (spw T p m (wch 0)) 0 (cond (spw T p m (wch 1)) 1 (cond (spw T p m (wch 2)) 2 7))
  | 1 => cond (spw T p m (wch 3)) 3 7
  | 2 => cond (spw T p m (wch 4)) 4 (cond (spw T p m (wch 5)) 5 7)
  | 3 => cond (spw T p m (wch 6)) 6 7
  | _ => 7
def wi (w : Nat) : Int32 := cond (decide (w = 7)) (-1) (Int32.ofNat w)
theorem k_wordAt {T : Nat → Int32} {n p e s : Nat} (h : tpC I T n) (hp : p < e) (he : e ≤ n) (hs : s < 4) : Cl X (d + 2) 70 [vr 34, vi (Int32.ofNat s), vi (Int32.ofNat p), vi (Int32.ofNat e)] (pm_mm al (pm_tb 7 D) I L) = some (some (vi (wi (wat s T p (e - p)))), pm_mm al (pm_tb 7 D) I L) := by
  rw [Cl_s]
  show Rn X (d + 1) co_Re_wordAt (0, [some (vr 34), some (vi (Int32.ofNat s)), some (vi (Int32.ofNat p)), some (vi (Int32.ofNat e)), none], [], pm_mm al (pm_tb 7 D) I L) = _
  have sp : ∀ w, w < 7 → Cl X (d + 1) 71 [vi (Int32.ofNat w)] (pm_mm al (pm_tb 7 D) I L) = some (some (vr (911 + w)), pm_mm al (pm_tb 7 D) I L) := fun w hw => by
    rw [Cl_s]
    show Rn X d co_Re_spelling (0, [some (vi (Int32.ofNat w))], [], pm_mm al (pm_tb 7 D) I L) = _
    rw [sg_Re_spelling_0]
    have hc : w = 0 ∨ w = 1 ∨ w = 2 ∨ w = 3 ∨ w = 4 ∨ w = 5 ∨ w = 6 := by omega
    rcases hc with c | c | c | c | c | c | c <;> subst c <;> rfl
  have ss : ∀ w, w < 7 → Cl X (d + 1) 72 [vr 34, vr (911 + w), vi (Int32.ofNat p), vi (Int32.ofNat e)] (pm_mm al (pm_tb 7 D) I L) = some (some (vi (b01 (spw T p (e - p) (wch w)))), pm_mm al (pm_tb 7 D) I L) := fun w hw => by
    have hc : w = 0 ∨ w = 1 ∨ w = 2 ∨ w = 3 ∨ w = 4 ∨ w = 5 ∨ w = 6 := by omega
    rcases hc with c | c | c | c | c | c | c <;> subst c
    · exact k_spells_0 h hp he
    · exact k_spells_1 h hp he
    · exact k_spells_2 h hp he
    · exact k_spells_3 h hp he
    · exact k_spells_4 h hp he
    · exact k_spells_5 h hp he
    · exact k_spells_6 h hp he
  have st : ∀ w, w < 7 → Rn X (d + 1) co_Re_wordAt (3, [some (vr 34), some (vi (Int32.ofNat s)), some (vi (Int32.ofNat p)), some (vi (Int32.ofNat e)), some (vi (Int32.ofNat w))], [], pm_mm al (pm_tb 7 D) I L) = cond (decide (pm_sv 901 w = Int32.ofNat s) && spw T p (e - p) (wch w)) (some (some (vi (Int32.ofNat w)), pm_mm al (pm_tb 7 D) I L)) (Rn X (d + 1) co_Re_wordAt (3, [some (vr 34), some (vi (Int32.ofNat s)), some (vi (Int32.ofNat p)), some (vi (Int32.ofNat e)), some (vi (Int32.ofNat (w + 1)))], [], pm_mm al (pm_tb 7 D) I L)) := fun w hw => by
    rw [sg_Re_wordAt_3, show decide ((7 : Int32) ≤ Int32.ofNat w) = false from (n_dle (a := 7) (by omega) (by omega)).trans (df (by omega)), cond_false, n_in (by omega), dt hw, cond_true, n_tn (by omega), sp w hw]
    simp only [Option.bind_some, pm_ar]
    rw [sg_Re_wordAt_26, ss w hw]
    simp only [Option.bind_some, pm_ai]
    rw [sg_Re_wordAt_31, b01_ne, sg_Re_wordAt_37, n_s]
    cases decide (pm_sv 901 w = Int32.ofNat s) <;> cases spw T p (e - p) (wch w) <;> simp only [cond_true, cond_false, Bool.not_true, Bool.not_false, Bool.true_and, Bool.false_and]
  have fi : Rn X (d + 1) co_Re_wordAt (3, [some (vr 34), some (vi (Int32.ofNat s)), some (vi (Int32.ofNat p)), some (vi (Int32.ofNat e)), some (vi (Int32.ofNat 7))], [], pm_mm al (pm_tb 7 D) I L) = some (some (vi (-1)), pm_mm al (pm_tb 7 D) I L) := by
    rw [sg_Re_wordAt_3, show decide ((7 : Int32) ≤ Int32.ofNat 7) = true from rfl, cond_true]
  rw [sg_Re_wordAt_0]
  refine Eq.trans (st 0 (by omega)) ?_
  rw [st 1 (by omega), st 2 (by omega), st 3 (by omega), st 4 (by omega), st 5 (by omega), st 6 (by omega), fi]
  have hc : s = 0 ∨ s = 1 ∨ s = 2 ∨ s = 3 := by omega
  rcases hc with c | c | c | c <;> subst c
  · rw [show decide (pm_sv 901 0 = Int32.ofNat 0) = true from rfl, show decide (pm_sv 901 1 = Int32.ofNat 0) = true from rfl, show decide (pm_sv 901 2 = Int32.ofNat 0) = true from rfl, show decide (pm_sv 901 3 = Int32.ofNat 0) = false from rfl, show decide (pm_sv 901 4 = Int32.ofNat 0) = false from rfl, show decide (pm_sv 901 5 = Int32.ofNat 0) = false from rfl, show decide (pm_sv 901 6 = Int32.ofNat 0) = false from rfl, wat]
    simp only [Bool.true_and, Bool.false_and, cond_false]
    cases spw T p (e - p) (wch 0) <;> cases spw T p (e - p) (wch 1) <;> cases spw T p (e - p) (wch 2) <;> simp only [cond_true, cond_false] <;> rfl
  · rw [show decide (pm_sv 901 0 = Int32.ofNat 1) = false from rfl, show decide (pm_sv 901 1 = Int32.ofNat 1) = false from rfl, show decide (pm_sv 901 2 = Int32.ofNat 1) = false from rfl, show decide (pm_sv 901 3 = Int32.ofNat 1) = true from rfl, show decide (pm_sv 901 4 = Int32.ofNat 1) = false from rfl, show decide (pm_sv 901 5 = Int32.ofNat 1) = false from rfl, show decide (pm_sv 901 6 = Int32.ofNat 1) = false from rfl, wat]
    simp only [Bool.true_and, Bool.false_and, cond_false]
    cases spw T p (e - p) (wch 3) <;> simp only [cond_true, cond_false] <;> rfl
  · rw [show decide (pm_sv 901 0 = Int32.ofNat 2) = false from rfl, show decide (pm_sv 901 1 = Int32.ofNat 2) = false from rfl, show decide (pm_sv 901 2 = Int32.ofNat 2) = false from rfl, show decide (pm_sv 901 3 = Int32.ofNat 2) = false from rfl, show decide (pm_sv 901 4 = Int32.ofNat 2) = true from rfl, show decide (pm_sv 901 5 = Int32.ofNat 2) = true from rfl, show decide (pm_sv 901 6 = Int32.ofNat 2) = false from rfl, wat]
    simp only [Bool.true_and, Bool.false_and, cond_false]
    cases spw T p (e - p) (wch 4) <;> cases spw T p (e - p) (wch 5) <;> simp only [cond_true, cond_false] <;> rfl
  · rw [show decide (pm_sv 901 0 = Int32.ofNat 3) = false from rfl, show decide (pm_sv 901 1 = Int32.ofNat 3) = false from rfl, show decide (pm_sv 901 2 = Int32.ofNat 3) = false from rfl, show decide (pm_sv 901 3 = Int32.ofNat 3) = false from rfl, show decide (pm_sv 901 4 = Int32.ofNat 3) = false from rfl, show decide (pm_sv 901 5 = Int32.ofNat 3) = false from rfl, show decide (pm_sv 901 6 = Int32.ofNat 3) = true from rfl, wat]
    simp only [Bool.true_and, Bool.false_and, cond_false]
    cases spw T p (e - p) (wch 6) <;> simp only [cond_true, cond_false] <;> rfl
theorem wat_rg (s : Nat) (T : Nat → Int32) (p m : Nat) : wat s T p m ≤ 7 := by
  unfold wat
  split <;> first | omega | (cases spw T p m _ <;> simp only [cond_true, cond_false] <;> first | omega | (cases spw T p m _ <;> simp only [cond_true, cond_false] <;> first | omega | (cases spw T p m _ <;> simp only [cond_true, cond_false] <;> omega)))
end
