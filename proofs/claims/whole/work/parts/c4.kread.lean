section
variable {X : Nat × (Nat → Int32)} {d : Nat} {al : List Nat} {D : Nat → Bool} {I : Nat → Nat → Int32} {L : Nat → Nat → Int64}
def vu (v : Nat → Nat) (i x : Nat) : Nat → Nat := fun j => if j = i then x else v j
/-- numbers read: where it breaks off, or the numbers, the fault, and what stands behind -/
def rdn (T : Nat → Int32) (n w : Nat) : Nat → Nat → Nat → (Nat → Nat) → Nat × Nat → Nat ⊕ ((Nat → Nat) × (Nat × Nat) × Nat)
  | 0, _, p, v, f => .inr (v, f, p)
  | r + 1, i, p, v, f => cond (decide (sk T n p < n) && isn T n (sk T n p)) (rdn T n w r (i + 1) (te T n (sk T n p)) (vu v i (nvb T n (sk T n p))) (mkr f (rng w i (nvb T n (sk T n p))) 2 (sk T n p))) (.inl (sk T n p))
/-- a line's end -/
def lnx (T : Nat → Int32) (n w : Nat) (x : Nat ⊕ ((Nat → Nat) × (Nat × Nat) × Nat)) : Nat ⊕ (Nat × (Nat → Nat) × (Nat × Nat) × Nat) := match x with
  | .inl q => .inl q
  | .inr (v, f, p) => cond (decide (sk T n p < n) && decide (T (sk T n p) = 59)) (.inr (w, v, f, sk T n p + 1)) (.inl (sk T n p))
def lne (s : Nat) (T : Nat → Int32) (n b ℓ : Nat) (f : Nat × Nat) : Nat ⊕ (Nat × (Nat → Nat) × (Nat × Nat) × Nat) :=
  cond (decide (wat s T b (te T n b - b) = 7)) (.inl b) (lnx T n (wat s T b (te T n b - b)) (rdn T n (wat s T b (te T n b - b)) (nno (wat s T b (te T n b - b))) 0 (te T n b) (fun _ => 0) (lnf (wat s T b (te T n b - b)) ℓ f b)))
def txx (go : Nat → Nat → Nat × Nat → (Nat → Int32) → Nat ⊕ (Nat × (Nat × Nat) × (Nat → Int32))) (T : Nat → Int32) (n ℓ : Nat) (P : Nat → Int32) (x : Nat ⊕ (Nat × (Nat → Nat) × (Nat × Nat) × Nat)) : Nat ⊕ (Nat × (Nat × Nat) × (Nat → Int32)) := match x with
  | .inl q => .inl q
  | .inr (w, v, f, p) => go (sk T n p) (lnn w ℓ) f (pay w ℓ v P)
def txt (s : Nat) (T : Nat → Int32) (n : Nat) : Nat → Nat → Nat → Nat × Nat → (Nat → Int32) → Nat ⊕ (Nat × (Nat × Nat) × (Nat → Int32))
  | 0, _, ℓ, f, P => .inr (ℓ, f, P)
  | r + 1, b, ℓ, f, P => cond (decide (b < n)) (txx (txt s T n r) T n ℓ P (lne s T n b ℓ f)) (.inr (ℓ, f, P))
theorem m1f {w : Nat} (hw : w < 2147483648) : decide (Int32.ofNat w = -1) = false := df (fun c => by rw [t_eq, n_ti (by omega), show (-1 : Int32).toInt = -1 from rfl] at c; omega)
theorem tpC_up {T : Nat → Int32} {n : Nat} {J : Nat → Nat → Int32} (h : tpC I T n) (e : ∀ a j, (a = 34 ∧ j = 7) ∨ a = 3 → J a j = I a j) : tpC J T n := ⟨(e 34 7 (by omega)).trans h.1, h.2.1, fun k hk => (e 3 k (by omega)).trans (h.2.2 k hk)⟩
theorem k_tok {T : Nat → Int32} {n s b tk : Nat} {o1 o2 o6 : Option pm_V} {K : Nat → Nat → Int32} (h : tpC I T n) (hb : b < n) (htk : tk < 600) (hf : ¬ I 34 4 = 1) (hK : Cl X (d + 3) 69 [vr 34, vi (Int32.ofNat s), vi (Int32.ofNat b), vi (Int32.ofNat (te T n b))] (pm_mm al (pm_tb 7 D) I L) = some (none, pm_mm al (pm_tb 7 D) K L)) (hT : tpC K T n) :
    Rn X (d + 3) co_Re_read (16, [some (vr 34), o1, o2, some (vi (Int32.ofNat s)), some (vi (Int32.ofNat b)), some (vi (Int32.ofNat tk)), o6], [], pm_mm al (pm_tb 7 D) I L) = Rn X (d + 3) co_Re_read (16, [some (vr 34), o1, o2, some (vi (Int32.ofNat s)), some (vi (Int32.ofNat (sk T n (te T n b)))), some (vi (Int32.ofNat (tk + 1))), some (vi (Int32.ofNat (te T n b)))], [], pm_mm al (pm_tb 7 D) K L) := by
  have h0 := h
  obtain ⟨e7, hn, eT⟩ := h
  rw [sg_Re_read_16, show decide ((600 : Int32) ≤ Int32.ofNat tk) = false from (n_dle (a := 600) (by omega) (by omega)).trans (df (by omega)), cond_false, e7, n_dle (by omega) (by omega), df (by omega), cond_false, df hf, cond_false, k_tokenEnd (d := d + 1) h0 hb]
  simp only [Option.bind_some, pm_ai]
  rw [sg_Re_read_47, hK]
  simp only [Option.bind_some, pm_av]
  rw [sg_Re_read_58, k_skip (d := d + 2) hT (te_rg hb).2]
  simp only [Option.bind_some, pm_ai]
  rw [sg_Re_read_64, n_s]
/-- behind a break -/
theorem k_brk {x4 x5 : Int32} {o1 o2 o6 : Option pm_V} {x3 : Int32} (h : I 34 4 = 1) : Rn X (d + 3) co_Re_read (16, [some (vr 34), o1, o2, some (vi x3), some (vi x4), some (vi x5), o6], [], pm_mm al (pm_tb 7 D) I L) = some (none, pm_mm al (pm_tb 7 D) I L) := by
  have h72 : ∀ o3 o4 o5, Rn X (d + 3) co_Re_read (72, [some (vr 34), o1, o2, o3, o4, o5, o6], [], pm_mm al (pm_tb 7 D) I L) = some (none, pm_mm al (pm_tb 7 D) I L) := fun o3 o4 o5 => by
    rw [sg_Re_read_72, h, show decide ((1 : Int32) = 1) = true from rfl, cond_true, sg_Re_read_96, h, show decide ((1 : Int32) = 0) = false from rfl, cond_false, sg_Re_read_122]
  rw [sg_Re_read_16, h72, h, show decide ((1 : Int32) = 1) = true from rfl, cond_true]
  cases decide ((600 : Int32) ≤ x5) <;> cases decide (I 34 7 ≤ x4) <;> simp only [cond_true, cond_false]
/-- what a run that breaks off leaves -/
def BK (I0 K : Nat → Nat → Int32) (q : Nat) : Prop := (∀ a j, ¬ (34 ≤ a ∧ a ≤ 48) → K a j = I0 a j) ∧ K 34 4 = 1 ∧ K 34 5 = Int32.ofNat q
theorem k_end {T : Nat → Int32} {n w b tk : Nat} {f : Nat × Nat} {o1 o2 o6 : Option pm_V} {x3 : Int32} {I0 : Nat → Nat → Int32} (h : tpC I T n) (hb : b = n) (hw : w < 7) (e8 : I 34 8 = Int32.ofNat w) (hf : fC f I) (hf1 : ¬ f.1 = 1) (hfr : ∀ a j, ¬ (34 ≤ a ∧ a ≤ 48) → I a j = I0 a j) :
    ∃ K, Rn X (d + 3) co_Re_read (16, [some (vr 34), o1, o2, some (vi x3), some (vi (Int32.ofNat b)), some (vi (Int32.ofNat tk)), o6], [], pm_mm al (pm_tb 7 D) I L) = some (none, pm_mm al (pm_tb 7 D) K L) ∧ BK I0 K b := by
  obtain ⟨e7, hn, eT⟩ := h
  have hf0 := hf.1
  have h4 : decide (I 34 4 = 1) = false := by rw [hf.2.2.1]; exact (n_deq (b := 1) (by omega) (by omega)).trans (df hf1)
  have h72 : ∀ o3 o4 o5, Rn X (d + 3) co_Re_read (72, [some (vr 34), o1, o2, o3, o4, o5, o6], [], pm_mm al (pm_tb 7 D) I L) = some (none, pm_mm al (pm_tb 7 D) (pm_up (pm_up I 34 4 1) 34 5 (Int32.ofNat n)) L) := fun o3 o4 o5 => by
    rw [sg_Re_read_72, h4, cond_false, e8, m1f (by omega), cond_false, e7, k_breakOff (d := d + 2)]
    simp only [Option.bind_some, pm_av]
    rw [sg_Re_read_96, show decide (pm_up (pm_up I 34 4 1) 34 5 (Int32.ofNat n) 34 4 = 0) = false by rw [up_ne (by omega), up_eq]; rfl, cond_false, sg_Re_read_122]
  refine ⟨pm_up (pm_up I 34 4 1) 34 5 (Int32.ofNat n), ?_, fun a j ha => ?_, by rw [up_ne (by omega), up_eq], by rw [up_eq, hb]⟩
  · rw [sg_Re_read_16, h72, e7, show decide (Int32.ofNat n ≤ Int32.ofNat b) = true from (n_dle (by omega) (by omega)).trans (dt (by omega)), cond_true]
    cases decide ((600 : Int32) ≤ Int32.ofNat tk) <;> simp only [cond_true, cond_false]
  · rw [up_ne (by omega), up_ne (by omega)]; exact hfr a j ha
/-- tokens taken -/
theorem tk_open {T : Nat → Int32} {n s b ℓ : Nat} {f : Nat × Nat} (h : tpC I T n) (hs : s < 4) (hb : b < n) (e8 : I 34 8 = -1) (e10 : I 34 10 = Int32.ofNat ℓ) (hl : ℓ ≤ 600) (hf : fC f I) :
    (wat s T b (te T n b - b) = 7 → Cl X (d + 3) 69 [vr 34, vi (Int32.ofNat s), vi (Int32.ofNat b), vi (Int32.ofNat (te T n b))] (pm_mm al (pm_tb 7 D) I L) = some (none, pm_mm al (pm_tb 7 D) (pm_up (pm_up I 34 4 1) 34 5 (Int32.ofNat b)) L))
    ∧ (∀ w, w = wat s T b (te T n b - b) → w < 7 → ∃ J, Cl X (d + 3) 69 [vr 34, vi (Int32.ofNat s), vi (Int32.ofNat b), vi (Int32.ofNat (te T n b))] (pm_mm al (pm_tb 7 D) I L) = some (none, pm_mm al (pm_tb 7 D) J L) ∧ (∀ a j, ¬ (a = 34 ∧ (j = 4 ∨ j = 5 ∨ j = 8 ∨ j = 9 ∨ j = 10)) → J a j = I a j) ∧ fC (lnf w ℓ f b) J ∧ J 34 8 = Int32.ofNat w ∧ J 34 9 = Int32.ofNat 0 ∧ J 34 10 = Int32.ofNat (lnn w ℓ)) := by
  have hte := te_rg (T := T) hb
  have hn := h.2.1
  rw [Cl_s]
  have s0 : Rn X (d + 2) co_Re_takeToken (0, [some (vr 34), some (vi (Int32.ofNat s)), some (vi (Int32.ofNat b)), some (vi (Int32.ofNat (te T n b)))], [], pm_mm al (pm_tb 7 D) I L) = ((Cl X (d + 2) 73 [vr 34, vi (wi (wat s T b (te T n b - b))), vi (Int32.ofNat b)] (pm_mm al (pm_tb 7 D) I L)).bind pm_av).bind (fun r => Rn X (d + 2) co_Re_takeToken (20, [some (vr 34), some (vi (Int32.ofNat s)), some (vi (Int32.ofNat b)), some (vi (Int32.ofNat (te T n b)))], [], r)) := by
    rw [sg_Re_takeToken_0, e8, show decide ((-1 : Int32) = -1) = true from rfl, cond_true, k_wordAt (d := d) h hte.1 hte.2 hs]
    simp only [Option.bind_some, pm_ai]
    rw [sg_Re_takeToken_16]
  refine ⟨fun hw => ?_, fun w ew hw => ?_⟩
  · show Rn X (d + 2) co_Re_takeToken (0, [some (vr 34), some (vi (Int32.ofNat s)), some (vi (Int32.ofNat b)), some (vi (Int32.ofNat (te T n b)))], [], pm_mm al (pm_tb 7 D) I L) = _
    rw [s0, hw, k_openNone]
    simp only [Option.bind_some, pm_av]
    rw [sg_Re_takeToken_20, sg_Re_takeToken_70]
  · obtain ⟨J, j1, j2, j3, j4, j5, j6⟩ := k_openLine (X := X) (d := d) (al := al) (D := D) (I := I) (L := L) (b := b) hw (by omega) hl e10 hf
    refine ⟨J, ?_, j2, j3, j4, j5, j6⟩
    show Rn X (d + 2) co_Re_takeToken (0, [some (vr 34), some (vi (Int32.ofNat s)), some (vi (Int32.ofNat b)), some (vi (Int32.ofNat (te T n b)))], [], pm_mm al (pm_tb 7 D) I L) = _
    rw [s0, ← ew, j1]
    simp only [Option.bind_some, pm_av]
    rw [sg_Re_takeToken_20, sg_Re_takeToken_70]
theorem tk_num {T : Nat → Int32} {n s b w i : Nat} {f : Nat × Nat} (h : tpC I T n) (hb : b < n) (hw : w < 7) (hi : i < nno w) (e8 : I 34 8 = Int32.ofNat w) (e9 : I 34 9 = Int32.ofNat i) (hf : fC f I) :
    (isn T n b = false → Cl X (d + 3) 69 [vr 34, vi (Int32.ofNat s), vi (Int32.ofNat b), vi (Int32.ofNat (te T n b))] (pm_mm al (pm_tb 7 D) I L) = some (none, pm_mm al (pm_tb 7 D) (pm_up (pm_up I 34 4 1) 34 5 (Int32.ofNat b)) L))
    ∧ (isn T n b = true → ∃ J, Cl X (d + 3) 69 [vr 34, vi (Int32.ofNat s), vi (Int32.ofNat b), vi (Int32.ofNat (te T n b))] (pm_mm al (pm_tb 7 D) I L) = some (none, pm_mm al (pm_tb 7 D) J L) ∧ (∀ a j, ¬ (a = 34 ∧ (j = 4 ∨ j = 5 ∨ j = 9)) → ¬ (a = 48 ∧ j = i) → J a j = I a j) ∧ fC (mkr f (rng w i (nvb T n b)) 2 b) J ∧ J 34 9 = Int32.ofNat (i + 1) ∧ J 48 i = Int32.ofNat (nvb T n b)) := by
  obtain ⟨_, _, s3, s4, s5⟩ := sv_lno hw
  obtain ⟨n1, n2⟩ := k_takeNumber (X := X) (d := d) (al := al) (D := D) (I := I) (L := L) (b := b) h hb hw (by omega) e8 e9 hf
  rw [Cl_s]
  have s0 : Rn X (d + 2) co_Re_takeToken (0, [some (vr 34), some (vi (Int32.ofNat s)), some (vi (Int32.ofNat b)), some (vi (Int32.ofNat (te T n b)))], [], pm_mm al (pm_tb 7 D) I L) = ((Cl X (d + 2) 74 [vr 34, vi (Int32.ofNat b), vi (Int32.ofNat (te T n b))] (pm_mm al (pm_tb 7 D) I L)).bind pm_av).bind (fun r => Rn X (d + 2) co_Re_takeToken (44, [some (vr 34), some (vi (Int32.ofNat s)), some (vi (Int32.ofNat b)), some (vi (Int32.ofNat (te T n b)))], [], r)) := by
    rw [sg_Re_takeToken_0, e8, m1f (by omega), cond_false, n_in (by omega), dt hw, cond_true, n_tn (by omega), s3, e9, n_dle (by omega) (by omega), df (by omega), cond_false]
  refine ⟨fun hw => ?_, fun hw => ?_⟩
  · show Rn X (d + 2) co_Re_takeToken (0, [some (vr 34), some (vi (Int32.ofNat s)), some (vi (Int32.ofNat b)), some (vi (Int32.ofNat (te T n b)))], [], pm_mm al (pm_tb 7 D) I L) = _
    rw [s0, n1 hw]
    simp only [Option.bind_some, pm_av]
    rw [sg_Re_takeToken_44, sg_Re_takeToken_70]
  · obtain ⟨J, j1, j2, j3, j4, j5⟩ := n2 hw
    refine ⟨J, ?_, j2, j3, j4, j5⟩
    show Rn X (d + 2) co_Re_takeToken (0, [some (vr 34), some (vi (Int32.ofNat s)), some (vi (Int32.ofNat b)), some (vi (Int32.ofNat (te T n b)))], [], pm_mm al (pm_tb 7 D) I L) = _
    rw [s0, j1]
    simp only [Option.bind_some, pm_av]
    rw [sg_Re_takeToken_44, sg_Re_takeToken_70]
theorem tk_end {T : Nat → Int32} {n s b w ℓ : Nat} {v : Nat → Nat} {P : Nat → Int32} (h : tpC I T n) (hb : b < n) (hw : w < 7) (e8 : I 34 8 = Int32.ofNat w) (e9 : I 34 9 = Int32.ofNat (nno w)) (ev : ∀ i, i < nno w → I 48 i = Int32.ofNat (v i)) (hc : CP (sow w) ℓ P I) :
    (¬ T b = 59 → Cl X (d + 3) 69 [vr 34, vi (Int32.ofNat s), vi (Int32.ofNat b), vi (Int32.ofNat (te T n b))] (pm_mm al (pm_tb 7 D) I L) = some (none, pm_mm al (pm_tb 7 D) (pm_up (pm_up I 34 4 1) 34 5 (Int32.ofNat b)) L))
    ∧ (T b = 59 → ∃ J, Cl X (d + 3) 69 [vr 34, vi (Int32.ofNat s), vi (Int32.ofNat b), vi (Int32.ofNat (te T n b))] (pm_mm al (pm_tb 7 D) I L) = some (none, pm_mm al (pm_tb 7 D) J L) ∧ (∀ a j, ¬ (35 ≤ a ∧ a ≤ 46) → ¬ (a = 34 ∧ (j = 3 ∨ j = 8)) → J a j = I a j) ∧ J 34 8 = -1 ∧ CP (sow w) (lnn w ℓ) (pay w ℓ v P) J) := by
  obtain ⟨_, _, s3, s4, s5⟩ := sv_lno hw
  obtain ⟨e7, hn, eT⟩ := h
  rw [Cl_s]
  have s0 : Rn X (d + 2) co_Re_takeToken (0, [some (vr 34), some (vi (Int32.ofNat s)), some (vi (Int32.ofNat b)), some (vi (Int32.ofNat (te T n b)))], [], pm_mm al (pm_tb 7 D) I L) = cond (decide (T b = 59)) (((Cl X (d + 2) 75 [vr 34] (pm_mm al (pm_tb 7 D) I L)).bind pm_av).bind (fun r => Rn X (d + 2) co_Re_takeToken (62, [some (vr 34), some (vi (Int32.ofNat s)), some (vi (Int32.ofNat b)), some (vi (Int32.ofNat (te T n b)))], [], r))) (((Cl X (d + 2) 63 [vr 34, vi (Int32.ofNat b)] (pm_mm al (pm_tb 7 D) I L)).bind pm_av).bind (fun r => Rn X (d + 2) co_Re_takeToken (70, [some (vr 34), some (vi (Int32.ofNat s)), some (vi (Int32.ofNat b)), some (vi (Int32.ofNat (te T n b)))], [], r))) := by
    rw [sg_Re_takeToken_0, e8, m1f (by omega), cond_false, n_in (by omega), dt hw, cond_true, n_tn (by omega), s3, e9, n_dle (by omega) (by omega), dt (Nat.le_refl _), cond_true, n_in (by omega), dt (by omega), cond_true, n_tn (by omega), eT b (by omega)]
  refine ⟨fun hne => ?_, fun he => ?_⟩
  · show Rn X (d + 2) co_Re_takeToken (0, [some (vr 34), some (vi (Int32.ofNat s)), some (vi (Int32.ofNat b)), some (vi (Int32.ofNat (te T n b)))], [], pm_mm al (pm_tb 7 D) I L) = _
    rw [s0, df hne, cond_false, k_breakOff (d := d + 1)]
    simp only [Option.bind_some, pm_av]
    rw [sg_Re_takeToken_70]
  · obtain ⟨J, j1, j2, j3, j4⟩ := k_close (X := X) (d := d) (al := al) (D := D) (I := I) (L := L) hw e8 ev hc
    refine ⟨J, ?_, j2, j3, j4⟩
    show Rn X (d + 2) co_Re_takeToken (0, [some (vr 34), some (vi (Int32.ofNat s)), some (vi (Int32.ofNat b)), some (vi (Int32.ofNat (te T n b)))], [], pm_mm al (pm_tb 7 D) I L) = _
    rw [s0, dt he, cond_true, j1]
    simp only [Option.bind_some, pm_av]
    rw [sg_Re_takeToken_62, sg_Re_takeToken_70]
end
