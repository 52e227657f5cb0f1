section
variable {X : Nat × (Nat → Int32)} {d : Nat} {al : List Nat} {D : Nat → Bool} {I : Nat → Nat → Int32} {L : Nat → Nat → Int64}
/-- the way by a row, and back -/
def tr1 (P : Nat → Int32 × Int32) (l : List Nat) (i : Nat) (s : Int32 × Nat) : Int32 × Nat := (s.1 + dst P s.2 (li l i), li l i)
def trv (P : Nat → Int32 × Int32) (n : Nat) (l : List Nat) : Int32 := (fo (tr1 P l) n (0, 6)).1 + dst P (fo (tr1 P l) n (0, 6)).2 6
theorem tr_at {P : Nat → Int32 × Int32} {n : Nat} {l : List Nat} (h : ∀ i, i < n → li l i < n) : ∀ i, i ≤ n → (fo (tr1 P l) i (0, 6)).2 < n ∨ (fo (tr1 P l) i (0, 6)).2 = 6
  | 0, _ => Or.inr rfl
  | i + 1, hi => Or.inl (h i (by omega))
theorem tr_rg {P : Nat → Int32 × Int32} {n : Nat} {l : List Nat} (g : gP P n) (hn : n ≤ 6) (h : ∀ i, i < n → li l i < n) : ∀ i, i ≤ n → 0 ≤ (fo (tr1 P l) i (0, 6)).1.toInt ∧ (fo (tr1 P l) i (0, 6)).1.toInt ≤ 18 * i
  | 0, _ => ⟨by rw [fo]; decide, by rw [fo]; decide⟩
  | i + 1, hi => by
    obtain ⟨h1, h2⟩ := tr_rg g hn h i (by omega)
    have h3 := (dst_ti g (tr_at (P := P) h i (by omega)) (Or.inl (h i (by omega)))).2
    rw [fo, tr1]
    show 0 ≤ ((fo (tr1 P l) i (0, 6)).1 + dst P (fo (tr1 P l) i (0, 6)).2 (li l i)).toInt ∧ _
    have := t_add (x := (fo (tr1 P l) i (0, 6)).1) (y := dst P (fo (tr1 P l) i (0, 6)).2 (li l i)) (by omega) (by omega)
    show 0 ≤ ((fo (tr1 P l) i (0, 6)).1 + dst P (fo (tr1 P l) i (0, 6)).2 (li l i)).toInt ∧ ((fo (tr1 P l) i (0, 6)).1 + dst P (fo (tr1 P l) i (0, 6)).2 (li l i)).toInt ≤ _
    omega
theorem trv_rg {P : Nat → Int32 × Int32} {n : Nat} {l : List Nat} (g : gP P n) (hn : n ≤ 6) (h : ∀ i, i < n → li l i < n) : 0 ≤ (trv P n l).toInt ∧ (trv P n l).toInt ≤ 126 := by
  obtain ⟨h1, h2⟩ := tr_rg g hn h n (Nat.le_refl n)
  have h3 := (dst_ti g (tr_at (P := P) h n (Nat.le_refl n)) (Or.inr rfl)).2
  rw [trv, t_add (by omega) (by omega)]; omega
theorem ok_lt {n : Nat} {l : List Nat} (h : okB n l = true) (hn : n ≤ 6) : ∀ i, i < n → li l i < n := fun i hi => by
  obtain ⟨l6, lp⟩ := ok_prm h hn
  obtain ⟨p, hp, ep⟩ := lp.1 i hi
  have : li l i = p := (n_eq (by have := l6 i (by omega); omega) (by omega)).mp ep
  omega
theorem c_round {b n : Nat} {l : List Nat} (hb : b < 8) (eb : I 81 23 = Int32.ofNat b) (hn : n ≤ 6) (en : I 81 25 = Int32.ofNat n) (hr : rwP I 94 (li l)) (hl : ∀ i, i < n → li l i < n) :
    Cl X (d + 4) 273 [vr 81] (pm_mm al D I L) = some (some (vi (trv (PT I b (I 81 44) (I 81 45)) n l)), pm_mm al D I L) := by
  rw [Cl_s]
  show Rn X (d + 3) co_Mo_round (0, [some (vr 81), none, none, none], [], pm_mm al D I L) = _
  rw [sg_Mo_round_0]
  generalize hP : PT I b (I 81 44) (I 81 45) = P
  have h := lf n (fun i (_ : Unit) => Rn X (d + 3) co_Mo_round (7, [some (vr 81), some (vi (fo (tr1 P l) i (0, 6)).1), some (vi (Int32.ofNat (fo (tr1 P l) i (0, 6)).2)), some (vi (Int32.ofNat i))], [], pm_mm al D I L)) (fun _ q => q) (fun i _ hi => by
    show Rn X (d + 3) co_Mo_round _ = Rn X (d + 3) co_Mo_round _
    have hat := tr_at (P := P) hl i (by omega)
    have hli := hl i hi
    have hw := c_way (X := X) (d := d) (al := al) (D := D) (L := L) (I := I) (a := (fo (tr1 P l) i (0, 6)).2) (c := li l i) hb eb (by omega) (by omega)
    rw [hP] at hw
    rw [sg_Mo_round_7, en]
    simp (disch := omega) only [n_dle, df, cond_false, n_in, dt, cond_true, n_tn, hr i (by omega), hw, Option.bind_some, pm_ai, sg_Mo_round_27, n_s]
    rfl) ()
  refine Eq.trans h ?_
  show Rn X (d + 3) co_Mo_round _ = _
  have hat := tr_at (P := P) hl n (Nat.le_refl n)
  have hw := c_way (X := X) (d := d) (al := al) (D := D) (L := L) (I := I) (a := (fo (tr1 P l) n (0, 6)).2) (c := 6) hb eb (by omega) (by omega)
  rw [hP] at hw
  have hw : Cl X (d + 3) 227 [vr 81, vi (Int32.ofNat (fo (tr1 P l) n (0, 6)).2), vi 6] (pm_mm al D I L) = _ := hw
  rw [sg_Mo_round_7, en]
  simp (disch := omega) only [n_dle, dt, cond_true, hw, Option.bind_some, pm_ai, sg_Mo_round_50]
  rfl
def vTour (I : Nat → Nat → Int32) (m : Nat → Nat) (b k : Int32) : Int32 :=
  cond (pm_in b (m 0) && decide (-1 ≤ k ∧ k ≤ I 87 (29 * b.toNatClampNeg) - 1)) (bsK (bst (trv (PT I b.toNatClampNeg 0 0) (I 87 (29 * b.toNatClampNeg)).toNatClampNeg) (I 87 (29 * b.toNatClampNeg)).toNatClampNeg) k) (-1)
def toF (J K : Nat → Nat → Int32) : Prop := ∀ a j, a ≠ 94 → a ≠ 111 → K a j = J a j
theorem r_tour {m : Nat → Nat} (b k : Int32) (g : rG I m) : ∃ J, Cl X (d + 5) 274 [vr 81, vi b, vi k] (pm_mm al D I L) = some (some (vi (vTour I m b k)), pm_mm al D J L) ∧ rF I J := by
  rw [Cl_s]
  show ∃ J, Rn X (d + 4) co_Mo_tour (0, [some (vr 81), some (vi b), some (vi k), none, none, none, none], [], pm_mm al D I L) = _ ∧ _
  obtain ⟨m0, e0⟩ := g.1 0 (by omega)
  rw [sg_Mo_tour_0, vTour]
  cases hb : pm_in b (m 0) with
  | false =>
    rw [c_handHome_f (I := pm_up I 81 0 0) m0 e0 hb]
    simp only [Option.bind_some, pm_ai, sg_Mo_tour_10, sg_Mo_tour_27]
    exact ⟨_, rfl, rF_code.trans (fun a h1 h2 => by rw [up_rw h1, up_rw h1])⟩
  | true =>
    obtain ⟨b', hb', eb⟩ := in_nat hb
    obtain ⟨J, e1, e2, e3, e44, e45⟩ := c_handHome_t (X := X) (d := d) (al := al) (D := D) (L := L) (I := pm_up I 81 0 0) m0 e0 hb'
    have hF : rF I J := rF_code.trans (rF_hh e2)
    have J87 : ∀ j, J 87 j = I 87 j := fun j => (e2 87 j (by unfold hhS hdS; omega)).trans (up_ne (by omega))
    have J25 : J 81 25 = I 87 (29 * b') := e3.2.1
    subst eb
    rw [e1, n_tn (by omega)]
    simp only [Option.bind_some, pm_ai, sg_Mo_tour_10, sg_Mo_tour_27, c_in, sg_Mo_tour_24, J25, show decide ((1 : Int32) = 0) = false from rfl, cond_false, Bool.true_and]
    by_cases hk : -1 ≤ k ∧ k ≤ I 87 (29 * b') - 1
    · rw [if_pos hk, dt hk]
      have en := n_of (g.2.1 b' hb').2.1
      have n6 : (I 87 (29 * b')).toNatClampNeg ≤ 6 := (g.2.1 b' hb').1
      have gp := gP_O (sx := 0) (sy := 0) g hb' ⟨by decide, by decide⟩ ⟨by decide, by decide⟩
      rw [en] at hk
      generalize hn : (I 87 (29 * b')).toNatClampNeg = n at n6 hk gp
      rw [hn] at en
      generalize hf : trv (PT I b' 0 0) n = f
      have f1 : ∀ l, okB n l = true → f l < 1000000 := fun l ho => by
        have := trv_rg gp n6 (ok_lt ho n6)
        rw [hf] at this
        rw [t_lt]; have e : (1000000 : Int32).toInt = 1000000 := rfl; omega
      have turn : ∀ l q K o7 o8, okB n l = true → toF J K → rwP K 94 (li l) → (q.1 < 1000000 → ∀ p, p < n → K 111 p = Int32.ofNat (li q.2 p)) →
          ∃ M p7 p8, Rn X (d + 4) co_Mo_tour (36, [some (vr 81), some (vi (Int32.ofNat b')), some (vi k), some (vi q.1), some (vi 1), o7, o8], [], pm_mm al D K L) = Rn X (d + 4) co_Mo_tour (36, [some (vr 81), some (vi (Int32.ofNat b')), some (vi k), some (vi (bs1 f q l).1), some (vi (b01 (nr n l).isSome)), p7, p8], [], pm_mm al D M L)
            ∧ toF J M ∧ (∀ l', nr n l = some l' → rwP M 94 (li l')) ∧ ∀ p, p < n → M 111 p = Int32.ofNat (li (bs1 f q l).2 p) := by
        intro l q K o7 o8 ho hK hr hq
        obtain ⟨l6, lp⟩ := ok_prm ho n6
        have K25 : K 81 25 = Int32.ofNat n := (hK 81 25 (by omega) (by omega)).trans (J25.trans en)
        have hlt' := ok_lt ho n6
        have hPT : PT K b' (K 81 44) (K 81 45) = PT I b' 0 0 := by
          funext a
          rw [PT, PT, hK 81 44 (by omega) (by omega), hK 81 45 (by omega) (by omega), e44, e45, hK 87 _ (by omega) (by omega), hK 87 _ (by omega) (by omega), J87, J87]
        have hrd := c_round (X := X) (d := d) (al := al) (D := D) (L := L) (I := K) (l := l) (n := n) (b := b') (by omega) ((hK 81 23 (by omega) (by omega)).trans e3.1) n6 K25 hr hlt'
        rw [hPT, hf] at hrd
        have cpy : ∀ i v Q, v + i = n → f l < q.1 → (∀ a j, a ≠ 111 → Q a j = K a j) → (∀ p, p < v → Q 111 p = Int32.ofNat (li l p)) → ∃ Q', Rn X (d + 4) co_Mo_tour (50, [some (vr 81), some (vi (Int32.ofNat b')), some (vi k), some (vi q.1), pm_nl (some (vi 1)), some (vi (f l)), some (vi (Int32.ofNat v))], [], pm_mm al D Q L) = Rn X (d + 4) co_Mo_tour (85, [some (vr 81), some (vi (Int32.ofNat b')), some (vi k), some (vi q.1), pm_nl (some (vi 1)), some (vi (f l)), some (vi (Int32.ofNat n))], [], pm_mm al D Q' L) ∧ (∀ a j, a ≠ 111 → Q' a j = K a j) ∧ ∀ p, p < n → Q' 111 p = Int32.ofNat (li l p) := by
          intro i
          induction i with
          | zero =>
            intro v Q hv hlt hQ h111
            obtain rfl : v = n := by omega
            refine ⟨Q, ?_, hQ, h111⟩
            rw [sg_Mo_tour_50, hQ 81 25 (by omega), K25]
            simp (disch := omega) only [n_dle, dt, cond_true]
          | succ i ih =>
            intro v Q hv hlt hQ h111
            rw [sg_Mo_tour_50, hQ 81 25 (by omega), K25, df (Int32.not_le.mpr hlt)]
            simp (disch := omega) only [n_dle, df, cond_false, n_in, dt, cond_true, n_tn, n_s]
            refine ih (v + 1) _ (by omega) hlt (fun a j h => by rw [up_ne (by omega)]; exact hQ a j h) (fun p hp => ?_)
            by_cases hpv : p = v
            · subst hpv; rw [up_eq, hQ 94 p (by omega), hr p (by omega)]
            · rw [up_ne (by omega)]; exact h111 p (by omega)
        have mid : ∃ Q p8, Rn X (d + 4) co_Mo_tour (50, [some (vr 81), some (vi (Int32.ofNat b')), some (vi k), some (vi q.1), pm_nl (some (vi 1)), some (vi (f l)), some (vi 0)], [], pm_mm al D K L) = Rn X (d + 4) co_Mo_tour (85, [some (vr 81), some (vi (Int32.ofNat b')), some (vi k), some (vi q.1), pm_nl (some (vi 1)), some (vi (f l)), p8], [], pm_mm al D Q L) ∧ (∀ a j, a ≠ 111 → Q a j = K a j) ∧ ∀ p, p < n → Q 111 p = Int32.ofNat (li (bs1 f q l).2 p) := by
          by_cases hlt : f l < q.1
          · obtain ⟨Q, q1, q2, q3⟩ := cpy n 0 K (by omega) hlt (fun _ _ _ => rfl) (fun p hp => absurd hp (Nat.not_lt_zero p))
            refine ⟨Q, _, q1, q2, fun p hp => ?_⟩
            rw [bs1, if_pos hlt]; exact q3 p hp
          · refine ⟨K, some (vi 0), ?_, fun _ _ _ => rfl, fun p hp => ?_⟩
            · rw [sg_Mo_tour_50, dt (Int32.not_lt.mp hlt)]
              cases decide (K 81 25 ≤ 0) <;> rfl
            · rw [bs1, if_neg hlt]
              refine hq ?_ p hp
              have := f1 l ho
              rw [t_lt] at this ⊢
              have h2 := Int32.not_lt.mp hlt
              rw [t_le] at h2; omega
        obtain ⟨Q, p8, q1, q2, q3⟩ := mid
        obtain ⟨M, n1, n2, n3⟩ := c_nextRow (X := X) (d := d + 2) (al := al) (D := D) (L := L) (I := Q) (l := l) n6 ((q2 81 25 (by omega)).trans K25) (fun i hi => (q2 94 i (by omega)).trans (hr i hi)) l6
        have hmn : mn q.1 (f l) = (bs1 f q l).1 := by
          rw [bs1, mn]
          by_cases hlt : f l < q.1
          · rw [if_pos hlt, if_neg (Int32.not_lt.mpr (Int32.le_of_lt hlt))]
          · rw [if_neg hlt]
            by_cases h2 : q.1 < f l
            · rw [if_pos h2]
            · rw [if_neg h2]; exact Int32.le_antisymm (Int32.not_lt.mp h2) (Int32.not_lt.mp hlt)
        refine ⟨M, some (vi (f l)), p8, ?_, fun a j a1 a2 => ?_, n3, fun p hp => ?_⟩
        · rw [sg_Mo_tour_36, show decide ((1 : Int32) = 0) = false from rfl, cond_false, hrd]
          simp only [Option.bind_some, pm_ai, sg_Mo_tour_45]
          rw [q1, sg_Mo_tour_85, c_lesser, hmn]
          simp only [Option.bind_some, pm_ai, sg_Mo_tour_91]
          rw [n1]
          simp only [Option.bind_some, pm_ai, sg_Mo_tour_96]
        · rw [n2 a j a1, q2 a j a2]; exact hK a j a1 a2
        · rw [n2 111 p (by omega)]; exact q3 p hp
      have fin : ∀ q K o7 o8, toF J K → (∀ p, p < n → K 111 p = Int32.ofNat (li q.2 p)) → Rn X (d + 4) co_Mo_tour (36, [some (vr 81), some (vi (Int32.ofNat b')), some (vi k), some (vi q.1), some (vi 0), o7, o8], [], pm_mm al D K L) = some (some (vi (bsK q k)), pm_mm al D K L) := by
        intro q K o7 o8 hK h111
        rw [sg_Mo_tour_36, bsK]
        by_cases hk1 : k = -1
        · subst hk1; simp only [decide_true, cond_true, sg_Mo_tour_116]
        · obtain ⟨k', hk', ek⟩ := k_rng n6 hk hk1
          rw [df hk1]
          subst ek
          simp (disch := omega) only [decide_true, cond_true, cond_false, n_in, dt, n_tn, sg_Mo_tour_116, h111 k' hk']
      have loop : ∀ t l q K o7 o8, chB n (l :: t) = true → toF J K → rwP K 94 (li l) → (q.1 < 1000000 → ∀ p, p < n → K 111 p = Int32.ofNat (li q.2 p)) → ∃ M, Rn X (d + 4) co_Mo_tour (36, [some (vr 81), some (vi (Int32.ofNat b')), some (vi k), some (vi q.1), some (vi 1), o7, o8], [], pm_mm al D K L) = some (some (vi (bsK (bs f (l :: t) q) k)), pm_mm al D M L) ∧ toF J M := by
        intro t
        induction t with
        | nil =>
          intro l q K o7 o8 hc hK hr hq
          obtain ⟨ho, h | ⟨l', t', e1, e2, e3⟩⟩ := ch_cons hc
          · obtain ⟨M, p7, p8, t1, t2, t3, t4⟩ := turn l q K o7 o8 ho hK hr hq
            rw [h.1] at t1
            exact ⟨M, t1.trans (fin _ M p7 p8 t2 t4), t2⟩
          · cases e2
        | cons l' t' ih =>
          intro l q K o7 o8 hc hK hr hq
          obtain ⟨ho, h | ⟨l2, t2, e1, e2, e3⟩⟩ := ch_cons hc
          · cases h.2
          · cases e2
            obtain ⟨M, p7, p8, t1, t2, t3, t4⟩ := turn l q K o7 o8 ho hK hr hq
            rw [e1] at t1
            obtain ⟨N, n1, n2⟩ := ih l' (bs1 f q l) M p7 p8 e3 t2 (t3 l' e1) (fun _ => t4)
            exact ⟨N, t1.trans n1, n2⟩
      obtain ⟨t0, et⟩ := rws_hd n
      have hch := (rws_cons n6).1
      rw [et] at hch
      obtain ⟨M, m1', m2'⟩ := loop t0 rw0 (1000000, []) J none none hch (fun _ _ _ _ => rfl) (fun i hi => by
        rw [e3.2.2.2.2.2 i hi]
        have : i = 0 ∨ i = 1 ∨ i = 2 ∨ i = 3 ∨ i = 4 ∨ i = 5 := by omega
        rcases this with rfl | rfl | rfl | rfl | rfl | rfl <;> rfl) (fun h => absurd h (by decide))
      refine ⟨M, ?_, hF.trans (fun a h1 h2 => by funext j; exact m2' a j (by omega) (by omega))⟩
      rw [bst, et]
      exact m1'
    · rw [if_neg hk, df hk]
      exact ⟨J, rfl, hF⟩
end
