section
variable {X : Nat × (Nat → Int32)} {d : Nat} {al : List Nat} {D : Nat → Bool} {I : Nat → Nat → Int32} {L : Nat → Nat → Int64}
theorem mkr_rg {f : Nat × Nat} {ok : Bool} {c b : Nat} (h : ¬ f.1 = 1) (hc : ¬ c = 1) : ¬ (mkr f ok c b).1 = 1 := by
  rw [mkr, mkf]
  cases ok with
  | true => exact h
  | false =>
    rw [cond_false]
    cases decide (f.1 = 0)
    · exact h
    · exact hc
theorem fC_ne1 {f : Nat × Nat} (hf : fC f I) (h : ¬ f.1 = 1) : ¬ I 34 4 = 1 := fun c => by
  have := hf.1
  rw [hf.2.2.1] at c
  exact h ((n_eq (b := 1) (by omega) (by omega)).mp c)
theorem BK_of {I0 J : Nat → Nat → Int32} {b : Nat} (h : ∀ a j, ¬ (34 ≤ a ∧ a ≤ 48) → J a j = I0 a j) : BK I0 (pm_up (pm_up J 34 4 1) 34 5 (Int32.ofNat b)) b := ⟨fun a j ha => by rw [up_ne (by omega), up_ne (by omega)]; exact h a j ha, by rw [up_ne (by omega), up_eq], up_eq⟩
/-- the numbers of a line: the class -/
theorem k_nums {T : Nat → Int32} {n s w : Nat} {I0 : Nat → Nat → Int32} {o1 o2 : Option pm_V} (hw : w < 7) : ∀ (r i p tk : Nat) (v : Nat → Nat) (f : Nat × Nat) (o6 : Option pm_V) (J : Nat → Nat → Int32), i + r = nno w → p ≤ n → tk ≤ p → tpC J T n → J 34 8 = Int32.ofNat w → J 34 9 = Int32.ofNat i → (∀ k, k < i → J 48 k = Int32.ofNat (v k)) → fC f J → ¬ f.1 = 1 → (∀ a j, ¬ (34 ≤ a ∧ a ≤ 48) → J a j = I0 a j) →
    match rdn T n w r i p v f with
    | .inl q => ∃ K, Rn X (d + 3) co_Re_read (16, [some (vr 34), o1, o2, some (vi (Int32.ofNat s)), some (vi (Int32.ofNat (sk T n p))), some (vi (Int32.ofNat tk)), o6], [], pm_mm al (pm_tb 7 D) J L) = some (none, pm_mm al (pm_tb 7 D) K L) ∧ BK I0 K q
    | .inr (v', f', p') => ∃ K tk' o6', Rn X (d + 3) co_Re_read (16, [some (vr 34), o1, o2, some (vi (Int32.ofNat s)), some (vi (Int32.ofNat (sk T n p))), some (vi (Int32.ofNat tk)), o6], [], pm_mm al (pm_tb 7 D) J L) = Rn X (d + 3) co_Re_read (16, [some (vr 34), o1, o2, some (vi (Int32.ofNat s)), some (vi (Int32.ofNat (sk T n p'))), some (vi (Int32.ofNat tk')), o6'], [], pm_mm al (pm_tb 7 D) K L) ∧ p' ≤ n ∧ p ≤ p' ∧ tk' ≤ p' ∧ (∀ a j, ¬ (a = 34 ∧ (j = 4 ∨ j = 5 ∨ j = 9)) → ¬ a = 48 → K a j = J a j) ∧ K 34 9 = Int32.ofNat (nno w) ∧ (∀ k, k < nno w → K 48 k = Int32.ofNat (v' k)) ∧ fC f' K ∧ ¬ f'.1 = 1
  | 0, i, p, tk, v, f, o6, J, hi, hp, htk, hT, e8, e9, ev, hf, hf1, hfr => by
    rw [rdn]
    have hi : i = nno w := by omega
    exact ⟨J, tk, o6, rfl, hp, Nat.le_refl _, htk, fun _ _ _ _ => rfl, by rw [e9, hi], fun k hk => ev k (by omega), hf, hf1⟩
  | r + 1, i, p, tk, v, f, o6, J, hi, hp, htk, hT, e8, e9, ev, hf, hf1, hfr => by
    obtain ⟨g1, g2⟩ := sk_rg (T := T) hp
    have hn := hT.2.1
    rw [rdn]
    by_cases hb : sk T n p < n
    · obtain ⟨t1, t2⟩ := te_rg (T := T) hb
      obtain ⟨n1, n2⟩ := tk_num (X := X) (d := d) (al := al) (D := D) (I := J) (L := L) (s := s) (b := sk T n p) (i := i) hT hb hw (by omega) e8 e9 hf
      rw [dt hb, Bool.true_and]
      cases hs : isn T n (sk T n p) with
      | false =>
        rw [cond_false]
        refine ⟨_, ?_, BK_of (b := sk T n p) hfr⟩
        rw [k_tok hT hb (by omega) (fC_ne1 hf hf1) (n1 hs) (tpC_up hT (fun a j h => by rw [up_ne (by omega), up_ne (by omega)])), k_brk (by rw [up_ne (by omega), up_eq])]
      | true =>
        rw [cond_true]
        obtain ⟨K, k1, k2, k3, k4, k5⟩ := n2 hs
        have hTK : tpC K T n := tpC_up hT (fun a j h => k2 a j (by omega) (by omega))
        have ih := k_nums (T := T) (n := n) (s := s) (I0 := I0) (o1 := o1) (o2 := o2) hw r (i + 1) (te T n (sk T n p)) (tk + 1) (vu v i (nvb T n (sk T n p))) (mkr f (rng w i (nvb T n (sk T n p))) 2 (sk T n p)) (some (vi (Int32.ofNat (te T n (sk T n p))))) K (by omega) t2 (by omega) hTK ((k2 _ _ (by omega) (by omega)).trans e8) k4 (fun k hk => by
          unfold vu
          by_cases e : k = i
          · rw [if_pos e, e]; exact k5
          · rw [if_neg e, k2 _ _ (by omega) (by omega)]; exact ev k (by omega)) k3 (mkr_rg hf1 (by omega)) (fun a j h => by rw [k2 a j (by omega) (by omega)]; exact hfr a j h)
        rw [k_tok hT hb (by omega) (fC_ne1 hf hf1) k1 hTK]
        revert ih
        cases rdn T n w r (i + 1) (te T n (sk T n p)) (vu v i (nvb T n (sk T n p))) (mkr f (rng w i (nvb T n (sk T n p))) 2 (sk T n p)) with
        | inl q => exact fun ih => ih
        | inr x =>
          obtain ⟨v', f', p'⟩ := x
          intro ih
          obtain ⟨K', tk', o6', c1, c2, c3, c4, c5, c6, c7, c8, c9⟩ := ih
          exact ⟨K', tk', o6', c1, c2, by omega, c4, fun a j h1 h2 => by rw [c5 a j h1 h2, k2 a j h1 (by omega)], c6, c7, c8, c9⟩
    · rw [df hb, Bool.false_and, cond_false]
      exact k_end hT (by omega) hw e8 hf hf1 hfr
/-- between lines -/
def RS (T : Nat → Int32) (n s ℓ : Nat) (f : Nat × Nat) (P : Nat → Int32) (I0 J : Nat → Nat → Int32) : Prop := tpC J T n ∧ J 34 8 = -1 ∧ J 34 10 = Int32.ofNat ℓ ∧ fC f J ∧ ¬ f.1 = 1 ∧ CP s ℓ P J ∧ ∀ a j, ¬ (34 ≤ a ∧ a ≤ 48) → J a j = I0 a j
theorem sow_wat {s : Nat} {T : Nat → Int32} {p m : Nat} (hs : s < 4) (h : ¬ wat s T p m = 7) : sow (wat s T p m) = s ∧ wat s T p m < 7 := by
  have hc : s = 0 ∨ s = 1 ∨ s = 2 ∨ s = 3 := by omega
  rcases hc with c | c | c | c <;> subst c
  · rw [wat] at h ⊢
    revert h
    cases spw T p m (wch 0) <;> cases spw T p m (wch 1) <;> cases spw T p m (wch 2) <;> first | exact fun _ => ⟨rfl, by decide⟩ | exact fun h => absurd rfl h
  · rw [wat] at h ⊢
    revert h
    cases spw T p m (wch 3) <;> first | exact fun _ => ⟨rfl, by decide⟩ | exact fun h => absurd rfl h
  · rw [wat] at h ⊢
    revert h
    cases spw T p m (wch 4) <;> cases spw T p m (wch 5) <;> first | exact fun _ => ⟨rfl, by decide⟩ | exact fun h => absurd rfl h
  · rw [wat] at h ⊢
    revert h
    cases spw T p m (wch 6) <;> first | exact fun _ => ⟨rfl, by decide⟩ | exact fun h => absurd rfl h
theorem lnn_le (w ℓ : Nat) : lnn w ℓ ≤ ℓ + 1 ∧ ℓ ≤ lnn w ℓ := by
  rw [lnn]
  cases decide (lno w = 0)
  · exact ⟨Nat.le_refl _, Nat.le_succ _⟩
  · exact ⟨Nat.le_succ _, Nat.le_refl _⟩
theorem k_lines {T : Nat → Int32} {n s : Nat} {I0 : Nat → Nat → Int32} {o1 o2 : Option pm_V} (hs : s < 4) : ∀ (r b ℓ tk : Nat) (f : Nat × Nat) (P : Nat → Int32) (o6 : Option pm_V) (J : Nat → Nat → Int32), b ≤ n → n ≤ b + r → tk ≤ b → ℓ ≤ b → RS T n s ℓ f P I0 J →
    match txt s T n r b ℓ f P with
    | .inl q => ∃ K, Rn X (d + 3) co_Re_read (16, [some (vr 34), o1, o2, some (vi (Int32.ofNat s)), some (vi (Int32.ofNat b)), some (vi (Int32.ofNat tk)), o6], [], pm_mm al (pm_tb 7 D) J L) = some (none, pm_mm al (pm_tb 7 D) K L) ∧ BK I0 K q
    | .inr (ℓ', f', P') => ∃ K o3 o4 o5 o6', Rn X (d + 3) co_Re_read (16, [some (vr 34), o1, o2, some (vi (Int32.ofNat s)), some (vi (Int32.ofNat b)), some (vi (Int32.ofNat tk)), o6], [], pm_mm al (pm_tb 7 D) J L) = Rn X (d + 3) co_Re_read (72, [some (vr 34), o1, o2, o3, o4, o5, o6'], [], pm_mm al (pm_tb 7 D) K L) ∧ RS T n s ℓ' f' P' I0 K := by
  have hend : ∀ (r ℓ tk : Nat) (f : Nat × Nat) (P : Nat → Int32) (o6 : Option pm_V) (J : Nat → Nat → Int32), RS T n s ℓ f P I0 J → ∃ K o3 o4 o5 o6', Rn X (d + 3) co_Re_read (16, [some (vr 34), o1, o2, some (vi (Int32.ofNat s)), some (vi (Int32.ofNat n)), some (vi (Int32.ofNat tk)), o6], [], pm_mm al (pm_tb 7 D) J L) = Rn X (d + 3) co_Re_read (72, [some (vr 34), o1, o2, o3, o4, o5, o6'], [], pm_mm al (pm_tb 7 D) K L) ∧ RS T n s ℓ f P I0 K := fun r ℓ tk f P o6 J hR => by
    have hn := hR.1.2.1
    refine ⟨J, some (vi (Int32.ofNat s)), some (vi (Int32.ofNat n)), some (vi (Int32.ofNat tk)), o6, ?_, hR⟩
    rw [sg_Re_read_16, hR.1.1, show decide (Int32.ofNat n ≤ Int32.ofNat n) = true from (n_dle (by omega) (by omega)).trans (dt (by omega)), cond_true]
    cases decide ((600 : Int32) ≤ Int32.ofNat tk) <;> simp only [cond_true, cond_false]
  intro r
  induction r with
  | zero =>
    intro b ℓ tk f P o6 J hb hr htk hl hR
    rw [txt]
    have e : b = n := by omega
    subst e
    exact hend 0 ℓ tk f P o6 J hR
  | succ r ih =>
    intro b ℓ tk f P o6 J hb hr htk hl hR
    have hn := hR.1.2.1
    rw [txt]
    by_cases hbn : b < n
    · rw [dt hbn, cond_true, lne]
      obtain ⟨hT, e8, e10, hf, hf1, hCP, hfr⟩ := hR
      obtain ⟨t1, t2⟩ := te_rg (T := T) hbn
      obtain ⟨w7, wop⟩ := tk_open (X := X) (d := d) (al := al) (D := D) (I := J) (L := L) (s := s) (b := b) (ℓ := ℓ) hT hs hbn e8 e10 (by omega) hf
      by_cases hw : wat s T b (te T n b - b) = 7
      · rw [dt hw, cond_true, txx]
        refine ⟨_, ?_, BK_of (b := b) hfr⟩
        rw [k_tok hT hbn (by omega) (fC_ne1 hf hf1) (w7 hw) (tpC_up hT (fun a j h => by rw [up_ne (by omega), up_ne (by omega)])), k_brk (by rw [up_ne (by omega), up_eq])]
      · obtain ⟨sw1, sw2⟩ := sow_wat hs hw
        rw [df hw, cond_false]
        obtain ⟨K, k1, k2, k3, k4, k5, k6⟩ := wop _ rfl sw2
        generalize hwe : wat s T b (te T n b - b) = w at sw1 sw2 k3 k4 k6 ⊢
        have hTK : tpC K T n := tpC_up hT (fun a j h => k2 a j (by omega))
        have hfl : ¬ (lnf w ℓ f b).1 = 1 := mkr_rg hf1 (by omega)
        have nm := k_nums (X := X) (d := d) (al := al) (D := D) (L := L) (T := T) (n := n) (s := s) (I0 := I0) (o1 := o1) (o2 := o2) sw2 (nno w) 0 (te T n b) (tk + 1) (fun _ => 0) (lnf w ℓ f b) (some (vi (Int32.ofNat (te T n b)))) K (by omega) t2 (by omega) hTK k4 k5 (fun k hk => absurd hk (Nat.not_lt_zero k)) k3 hfl (fun a j h => by rw [k2 a j (by omega)]; exact hfr a j h)
        rw [k_tok hT hbn (by omega) (fC_ne1 hf hf1) k1 hTK]
        revert nm
        cases rdn T n w (nno w) 0 (te T n b) (fun _ => 0) (lnf w ℓ f b) with
        | inl q => exact fun nm => nm
        | inr x =>
          obtain ⟨v, f', p'⟩ := x
          intro nm
          obtain ⟨K2, tk2, o62, c1, c2, c3, c4, c5, c6, c7, c8, c9⟩ := nm
          have hTK2 : tpC K2 T n := tpC_up hTK (fun a j h => c5 a j (by omega) (by omega))
          have hCK2 : CP (sow w) ℓ P K2 := by
            rw [sw1]
            exact CP_up hCP (fun a j h => by rw [c5 a j (by omega) (by omega), k2 a j (by omega)])
          have hfr2 : ∀ a j, ¬ (34 ≤ a ∧ a ≤ 48) → K2 a j = I0 a j := fun a j h => by rw [c5 a j (by omega) (by omega), k2 a j (by omega)]; exact hfr a j h
          have e82 : K2 34 8 = Int32.ofNat w := (c5 _ _ (by omega) (by omega)).trans k4
          obtain ⟨g1, g2⟩ := sk_rg (T := T) c2
          rw [c1, lnx]
          by_cases hb2 : sk T n p' < n
          · obtain ⟨u1, u2⟩ := te_rg (T := T) hb2
            obtain ⟨y1, y2⟩ := tk_end (X := X) (d := d) (al := al) (D := D) (I := K2) (L := L) (s := s) (b := sk T n p') (ℓ := ℓ) (v := v) (P := P) hTK2 hb2 sw2 e82 c6 c7 hCK2
            rw [dt hb2, Bool.true_and]
            by_cases h59 : T (sk T n p') = 59
            · rw [dt h59, cond_true, txx]
              obtain ⟨K3, z1, z2, z3, z4⟩ := y2 h59
              rw [sw1] at z4
              have hTK3 : tpC K3 T n := tpC_up hTK2 (fun a j h => z2 a j (by omega) (by omega))
              have hln := lnn_le w ℓ
              have hte59 : te T n (sk T n p') = sk T n p' + 1 := by
                have e1 : ltr T (sk T n p') = false := by rw [ltr, h59]; rfl
                have e2 : dgi T (sk T n p') = false := by rw [dgi, h59]; rfl
                rw [te, e1, e2, cond_false, cond_false]
              have hg3 := sk_rg (T := T) (n := n) (p := sk T n p' + 1) (by omega)
              have := ih (sk T n (sk T n p' + 1)) (lnn w ℓ) (tk2 + 1) f' (pay w ℓ v P) (some (vi (Int32.ofNat (te T n (sk T n p'))))) K3 hg3.2 (by omega) (by omega) (by omega) ⟨hTK3, z3, by rw [z2 _ _ (by omega) (by omega), c5 _ _ (by omega) (by omega)]; exact k6, fC_up c8 (fun j hj => z2 _ _ (by omega) (by omega)), c9, z4, fun a j h => by rw [z2 a j (by omega) (by omega)]; exact hfr2 a j h⟩
              rw [k_tok hTK2 hb2 (by omega) (fC_ne1 c8 c9) z1 hTK3, hte59]
              rw [hte59] at this
              exact this
            · rw [df h59, cond_false, txx]
              refine ⟨_, ?_, BK_of (b := sk T n p') hfr2⟩
              rw [k_tok hTK2 hb2 (by omega) (fC_ne1 c8 c9) (y1 h59) (tpC_up hTK2 (fun a j h => by rw [up_ne (by omega), up_ne (by omega)])), k_brk (by rw [up_ne (by omega), up_eq])]
          · rw [df hb2, Bool.false_and, cond_false, txx]
            exact k_end hTK2 (by omega) sw2 e82 c8 c9 hfr2
    · rw [df hbn, cond_false]
      have e : b = n := by omega
      subst e
      exact hend r ℓ tk f P o6 J hR
end
