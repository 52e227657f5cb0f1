section
variable {X : Nat × (Nat → Int32)} {d : Nat} {al : List Nat} {D : Nat → Bool} {I : Nat → Nat → Int32} {L : Nat → Nat → Int64}
theorem dst_comm {P : Nat → Int32 × Int32} {n a c : Nat} (g : gP P n) (ha : a < n ∨ a = 6) (hc : c < n ∨ c = 6) : dst P a c = dst P c a := by
  rw [dst, dst, ab_comm (g a ha).1 (g c hc).1, ab_comm (g a ha).2 (g c hc).2]
theorem ab_id {x : Int32} (h : rg x 0 9) : ab (x - 0) = x := by
  rw [Int32.sub_zero, ab, dt (t_le.mpr (by have := h.1; have e : (0 : Int32).toInt = 0 := rfl; omega)), cond_true]
/-- the seats as the class has them -/
def cP (I : Nat → Nat → Int32) (b n : Nat) (P : Nat → Int32 × Int32) : Prop := I (9 + 5 * b) 4 = Int32.ofNat n ∧ ∀ p, p < n → I (12 + 5 * b) p = (P p).1 ∧ I (13 + 5 * b) p = (P p).2
theorem cP_of {m : Nat → Nat} {b : Nat} {sx sy : Int32} (g : rG I m) (r : RL I m) (hb : b < m 0) : cP I b (I 87 (29 * b)).toNatClampNeg (PT I b sx sy) := by
  have n6 := (g.2.1 b hb).1
  refine ⟨(r.2.1 b hb).1.trans (n_of (g.2.1 b hb).2.1), fun p hp => ?_⟩
  have := (r.2.1 b hb).2.2.2.2.2 p hp
  rw [PT, if_neg (by omega), show 12 + 5 * b = 9 + 5 * b + 3 by omega, show 13 + 5 * b = 9 + 5 * b + 4 by omega]
  exact ⟨this.2.2.1, this.2.2.2⟩
theorem cP_up {J K : Nat → Nat → Int32} {b n : Nat} {P : Nat → Int32 × Int32} (h : cP J b n P) (hb : b < 2) (e : ∀ a j, 9 ≤ a → a < 19 → K a j = J a j) : cP K b n P :=
  ⟨(e _ _ (by omega) (by omega)).trans h.1, fun p hp => ⟨(e _ _ (by omega) (by omega)).trans (h.2 p hp).1, (e _ _ (by omega) (by omega)).trans (h.2 p hp).2⟩⟩
theorem k_wayBy {b n : Nat} {l : List Nat} {P : Nat → Int32 × Int32} (hb : b < 2) (hn : n ≤ 6) (c : cP I b n P) (g : gP P n) (h6 : P 6 = (0, 0)) (hr : rwP I 79 (li l)) (hl : ∀ i, i < n → li l i < n) :
    Cl X (d + 3) 14 [vr (9 + 5 * b), vr 79] (pm_mm al D I L) = some (some (vi (trv P n l)), pm_mm al D I L) := by
  rw [Cl_s]
  refine Eq.trans (show _ = Rn X (d + 2) co_Ba_wayBy (0, [some (vr (9 + 5 * b)), some (vr 79), none, none, none, none], [], pm_mm al D I L) from rfl) ?_
  rw [sgb_Ba_wayBy_0 hb]
  obtain ⟨c1, c2⟩ := c
  have h := lf n (fun i (_ : Unit) => Rn X (d + 2) co_Ba_wayBy (10, [some (vr (9 + 5 * b)), some (vr 79), some (vi (fo (tr1 P l) i (0, 6)).1), some (vi (P (fo (tr1 P l) i (0, 6)).2).1), some (vi (P (fo (tr1 P l) i (0, 6)).2).2), some (vi (Int32.ofNat i))], [], pm_mm al D I L)) (fun _ q => q) (fun i _ hi => by
    show Rn X (d + 2) co_Ba_wayBy _ = Rn X (d + 2) co_Ba_wayBy _
    have hat := tr_at (P := P) hl i (by omega)
    have hli := hl i hi
    have hw := k_wayTo (X := X) (d := d) (al := al) (D := D) (L := L) (I := I) (p := li l i) (P (fo (tr1 P l) i (0, 6)).2).1 (P (fo (tr1 P l) i (0, 6)).2).2 hb (by omega)
    obtain ⟨x1, x2⟩ := c2 (li l i) hli
    rw [x1, x2] at hw
    have hd : ab ((P (li l i)).1 - (P (fo (tr1 P l) i (0, 6)).2).1) + ab ((P (li l i)).2 - (P (fo (tr1 P l) i (0, 6)).2).2) = dst P (fo (tr1 P l) i (0, 6)).2 (li l i) := (dst_comm g hat (Or.inl hli)).symm
    rw [hd] at hw
    rw [sgb_Ba_wayBy_10 hb, c1]
    simp (disch := omega) only [n_dle, df, cond_false, n_in, dt, cond_true, n_tn, hr i (by omega), hw, Option.bind_some, pm_ai, sgb_Ba_wayBy_31 hb, x1, x2, n_s]
    rfl) ()
  have s0 : Rn X (d + 2) co_Ba_wayBy (10, [some (vr (9 + 5 * b)), some (vr 79), some (vi 0), some (vi 0), some (vi 0), some (vi 0)], [], pm_mm al D I L) = Rn X (d + 2) co_Ba_wayBy (10, [some (vr (9 + 5 * b)), some (vr 79), some (vi (fo (tr1 P l) 0 (0, 6)).1), some (vi (P (fo (tr1 P l) 0 (0, 6)).2).1), some (vi (P (fo (tr1 P l) 0 (0, 6)).2).2), some (vi (Int32.ofNat 0))], [], pm_mm al D I L) := by
    show _ = Rn X (d + 2) co_Ba_wayBy (10, [some (vr (9 + 5 * b)), some (vr 79), some (vi 0), some (vi (P 6).1), some (vi (P 6).2), some (vi (Int32.ofNat 0))], [], pm_mm al D I L)
    rw [h6]; rfl
  rw [s0]
  refine Eq.trans h ?_
  show Rn X (d + 2) co_Ba_wayBy _ = _
  have hat := tr_at (P := P) hl n (Nat.le_refl n)
  rw [sgb_Ba_wayBy_10 hb, c1]
  simp (disch := omega) only [n_dle, dt, cond_true, trv, dst, h6]
  rw [ab_id (g _ hat).1, ab_id (g _ hat).2, Int32.add_assoc]
def qtF (J K : Nat → Nat → Int32) : Prop := ∀ a j, a ≠ 79 → a ≠ 80 → K a j = J a j
theorem k_shortestTour {b n : Nat} {P : Nat → Int32 × Int32} (hb : b < 2) (b1 : n ≤ 6) (c : cP I b n P) (g : gP P n) (h6 : P 6 = (0, 0)) :
    ∃ J, Cl X (d + 4) 146 [vr 1, vr (9 + 5 * b)] (pm_mm al D I L) = some (some (vi (bst (trv P n) n).1), pm_mm al D J L) ∧ qtF I J ∧ ∀ p, p < 6 → J 80 p = Int32.ofNat (li (bst (trv P n) n).2 p) := by
  rw [Cl_s]
  have st0 : cond (Nat.ble (pm_wd [vr 1, vr (9 + 5 * b)]) (pm_mx 146)) (Rn X (d + 3) (pm_co 146) (0, pm_ent (pm_mx 146) [vr 1, vr (9 + 5 * b)], [], pm_mm al D I L)) none = Rn X (d + 3) co_Ch_shortestTour (0, [some (vr 1), some (vr (9 + 5 * b)), none, none, none, none], [], pm_mm al D I L) := rfl
  have kf := k_firstRow (X := X) (d := d + 2) (al := al) (D := D) (L := L) (I := I) (Or.inr rfl : (79 = 51 ∨ 79 = 79))
  rw [st0, sgb_Ch_shortestTour_0 hb, kf]
  simp only [Option.bind_some, pm_av, sgb_Ch_shortestTour_13 hb]
  generalize hf : trv P n = f
  have f1 : ∀ l, okB n l = true → f l < 1000000 := fun l ho => by
    have := trv_rg g b1 (ok_lt ho b1)
    rw [hf] at this
    rw [t_lt]; have e : (1000000 : Int32).toInt = 1000000 := rfl; omega
  have turn : ∀ l q K o5 tn, tn < 720 → okB n l = true → qtF I K → rwP K 79 (li l) → (q.1 < 1000000 → ∀ p, p < 6 → K 80 p = Int32.ofNat (li q.2 p)) →
      ∃ M p5, Rn X (d + 3) co_Ch_shortestTour (16, [some (vr 1), some (vr (9 + 5 * b)), some (vi q.1), some (vi 1), some (vi (Int32.ofNat tn)), o5], [], pm_mm al D K L) = Rn X (d + 3) co_Ch_shortestTour (16, [some (vr 1), some (vr (9 + 5 * b)), some (vi (bs1 f q l).1), some (vi (b01 (nr n l).isSome)), some (vi (Int32.ofNat (tn + 1))), p5], [], pm_mm al D M L)
        ∧ qtF I M ∧ (∀ l', nr n l = some l' → rwP M 79 (li l')) ∧ (∀ p, p < 6 → M 80 p = Int32.ofNat (li (bs1 f q l).2 p)) := by
    intro l q K o5 tn htn ho hK hr hq
    obtain ⟨l6, lp⟩ := ok_prm ho b1
    have hlt' := ok_lt ho b1
    have hwb := k_wayBy (X := X) (d := d) (al := al) (D := D) (L := L) (I := K) hb b1 (cP_up c hb (fun a j a1 a2 => hK a j (by omega) (by omega))) g h6 hr hlt'
    rw [hf] at hwb
    have mid : ∃ Q p5, Rn X (d + 3) co_Ch_shortestTour (36, [some (vr 1), some (vr (9 + 5 * b)), some (vi q.1), some (vi 1), some (vi (Int32.ofNat tn)), o5], [vi (f l)], pm_mm al D K L) = Rn X (d + 3) co_Ch_shortestTour (62, [some (vr 1), some (vr (9 + 5 * b)), some (vi (bs1 f q l).1), some (vi 1), some (vi (Int32.ofNat tn)), p5], [], pm_mm al D Q L) ∧ qtF I Q ∧ rwP Q 79 (li l) ∧ ∀ p, p < 6 → Q 80 p = Int32.ofNat (li (bs1 f q l).2 p) := by
      rw [sgb_Ch_shortestTour_36 hb]
      by_cases hlt : f l < q.1
      · rw [df (Int32.not_le.mpr hlt), cond_false, bs1, if_pos hlt]
        refine ⟨_, _, rfl, fun a j a1 a2 => by rw [ups_ne a2]; exact hK a j a1 a2, fun i hi => by rw [ups_ne (by omega)]; exact hr i hi, fun p hp => ?_⟩
        rw [ups_eq]; simp [va_cpy, hp, hr p hp]
      · rw [dt (Int32.not_lt.mp hlt), cond_true, bs1, if_neg hlt]
        refine ⟨K, _, rfl, hK, hr, fun p hp => ?_⟩
        refine hq ?_ p hp
        have := f1 l ho
        have h2 := Int32.not_lt.mp hlt
        rw [t_lt] at this ⊢
        rw [t_le] at h2
        have e1 : (1000000 : Int32).toInt = 1000000 := rfl
        omega
    obtain ⟨Q, p5, q1, q2, q3, q4⟩ := mid
    have Q3 : Q (9 + 5 * b) 4 = Int32.ofNat n := (q2 _ 4 (by omega) (by omega)).trans c.1
    obtain ⟨M, n1, n2, n3⟩ := k_nextRow (X := X) (d := d + 1) (al := al) (D := D) (L := L) (I := Q) (b := 1) (l := l) (by omega) b1 q3 l6
    have n1 : Cl X (d + 3) 162 [vr 79, vi (Int32.ofNat n)] (pm_mm al D Q L) = _ := n1
    refine ⟨M, p5, ?_, fun a j a1 a2 => by rw [n2 a j a1]; exact q2 a j a1 a2, n3, fun p hp => by rw [n2 80 p (by omega)]; exact q4 p hp⟩
    rw [sgb_Ch_shortestTour_16 hb, show decide ((1 : Int32) = 0) = false from rfl]
    simp (disch := omega) only [a0, a1, a2, a3, a4, a5, a6, a7, a8, a9, a10, a11, a12, a13, a20, a24, a60, a64, a84, a99, a100, a600, a720, a4096, a1000000, df, cond_false, hwb, Option.bind_some, pm_ai]
    rw [q1, sgb_Ch_shortestTour_62 hb, Q3, n1]
    simp only [Option.bind_some, pm_ai, sgb_Ch_shortestTour_73 hb, n_s]
  have loop : ∀ t l q K o5 tn, tn + (t.length + 1) ≤ 720 → chB n (l :: t) = true → qtF I K → rwP K 79 (li l) → (q.1 < 1000000 → ∀ p, p < 6 → K 80 p = Int32.ofNat (li q.2 p)) → ∃ M, Rn X (d + 3) co_Ch_shortestTour (16, [some (vr 1), some (vr (9 + 5 * b)), some (vi q.1), some (vi 1), some (vi (Int32.ofNat tn)), o5], [], pm_mm al D K L) = some (some (vi (bs f (l :: t) q).1), pm_mm al D M L) ∧ qtF I M ∧ ∀ p, p < 6 → M 80 p = Int32.ofNat (li (bs f (l :: t) q).2 p) := by
    intro t
    induction t with
    | nil =>
      intro l q K o5 tn htn hc hK hr hq
      have htn : tn + 1 ≤ 720 := htn
      obtain ⟨ho, h | ⟨l', t', e1, e2, e3⟩⟩ := ch_cons hc
      · obtain ⟨M, p5, t1, t2, t3, t4⟩ := turn l q K o5 tn (by omega) ho hK hr hq
        rw [h.1] at t1
        refine ⟨M, t1.trans ?_, t2, t4⟩
        rw [sgb_Ch_shortestTour_16 hb]
        simp only [sgb_Ch_shortestTour_80]
        show cond _ _ _ = _
        cases decide (720 ≤ Int32.ofNat (tn + 1)) <;> rfl
      · cases e2
    | cons l' t' ih =>
      intro l q K o5 tn htn hc hK hr hq
      have htn : tn + (t'.length + 1 + 1) ≤ 720 := htn
      obtain ⟨ho, h | ⟨l2, t2, e1, e2, e3⟩⟩ := ch_cons hc
      · cases h.2
      · cases e2
        obtain ⟨M, p5, t1, t2, t3, t4⟩ := turn l q K o5 tn (by omega) ho hK hr hq
        rw [e1] at t1
        obtain ⟨N, n1, n2, n3⟩ := ih l' (bs1 f q l) M p5 (tn + 1) (by omega) e3 t2 (t3 l' e1) (fun _ => t4)
        exact ⟨N, t1.trans n1, n2, n3⟩
  obtain ⟨t0, et⟩ := rws_hd n
  have hch := rws_cons b1
  rw [et] at hch
  have hlen : t0.length + 1 ≤ 720 := hch.2
  obtain ⟨M, m1, m2, m3⟩ := loop t0 rw0 (1000000, []) (pm_ups I 79 (fun p => if p < 6 then Int32.ofNat p else I 79 p)) none 0 (by omega) hch.1 (fun a j a1 a2 => ups_ne a1) (fun i hi => by
    rw [ups_eq, if_pos hi]
    have : i = 0 ∨ i = 1 ∨ i = 2 ∨ i = 3 ∨ i = 4 ∨ i = 5 := by omega
    rcases this with rfl | rfl | rfl | rfl | rfl | rfl <;> rfl) (fun h => absurd h (by decide))
  have eb : bs f (rw0 :: t0) (1000000, []) = bst f n := by rw [bst, et]
  rw [eb] at m1 m3
  exact ⟨M, m1, m2, m3⟩
theorem q_tour {m : Nat → Nat} (b k : Int32) (g : rG I m) (r : RL I m) : ∃ J, Cl X (d + 5) 145 [vr 1, vi b, vi k] (pm_mm al D I L) = some (some (vi (vTour I m b k)), pm_mm al D J L) ∧ cF I J := by
  rw [Cl_s]
  show ∃ J, Rn X (d + 4) co_Ch_tour (0, [some (vr 1), some (vi b), some (vi k), none], [], pm_mm al D I L) = _ ∧ _
  have m0 := (g.1 0 (by omega)).1
  have h1 : Cl X (d + 4) 93 [vr 2, vi 0, vi b] (pm_mm al D I L) = _ := k_has (d := d + 3) (s := 0) (m := m 0) b (by omega) m0 ((r.1 0 (by omega)).trans (g.1 0 (by omega)).2)
  rw [sg_Ch_tour_x_0, h1, vTour]
  simp only [Option.bind_some, pm_ai]
  cases hb : pm_in b (m 0) with
  | false => exact ⟨I, (sg_Ch_tour_x0_9 ..).trans (sgb_Ch_tour_33 ..), cF_refl⟩
  | true =>
    obtain ⟨b', hb', eb⟩ := in_nat hb
    subst eb
    have hb2 : b' < 2 := by omega
    rw [n_tn (by omega)]
    have n6 := (g.2.1 b' hb').1
    have en := n_of (g.2.1 b' hb').2.1
    have hrg := rk_rng (k := k) n6 en
    have c9 := sgb_Ch_tour_9 (b := b') hb2 X (d + 4) k none 1 al D I L
    have I4 : I (9 + 5 * b') 4 = I 87 (29 * b') := (r.2.1 b' hb').1
    rw [show b01 true = 1 from rfl, c9, show decide ((1 : Int32) = 0) = false from rfl, cond_false, I4]
    cases hk1 : decide (k < -1) with
    | true =>
      rw [hk1] at hrg
      rw [← hrg]
      exact ⟨I, sgb_Ch_tour_33 .., cF_refl⟩
    | false =>
      cases hk2 : decide (k < I 87 (29 * b')) with
      | false =>
        rw [hk1, hk2] at hrg
        rw [← hrg]
        exact ⟨I, sgb_Ch_tour_33 .., cF_refl⟩
      | true =>
        rw [hk1, hk2] at hrg
        rw [← hrg]
        have hk : -1 ≤ k ∧ k ≤ Int32.ofNat (I 87 (29 * b')).toNatClampNeg - 1 := by
          rw [← en]; exact of_decide_eq_true hrg.symm
        have gp := gP_O (sx := 0) (sy := 0) g hb' ⟨by decide, by decide⟩ ⟨by decide, by decide⟩
        obtain ⟨K, f1, f2, f3⟩ := k_shortestTour (X := X) (d := d) (al := al) (D := D) (L := L) (I := I) (P := PT I b' 0 0) hb2 n6 (cP_of g r hb') gp rfl
        simp only [cond_false, cond_true]
        rw [f1]
        simp only [Option.bind_some, pm_ai, sgb_Ch_tour_48]
        refine ⟨K, ?_, ⟨fun a a1 a2 => ?_, ?_, ?_, ?_⟩⟩
        · show _ = some (some (vi (bsK (bst (trv (PT I b' 0 0) (I 87 (29 * b')).toNatClampNeg) (I 87 (29 * b')).toNatClampNeg) k)), pm_mm al D K L)
          rw [bsK]
          by_cases hk1 : k = -1
          · subst hk1; simp only [decide_true, cond_true, sgb_Ch_tour_64]
          · obtain ⟨k', hk', ek⟩ := k_rng n6 hk hk1
            rw [df hk1]
            subst ek
            simp (disch := omega) only [cond_false, n_in, dt, cond_true, n_tn, sgb_Ch_tour_64, f3 k' (by omega)]
        · funext j; exact f2 a j (by omega) (by omega)
        · exact f2 57 0 (by omega) (by omega)
        · exact f2 59 0 (by omega) (by omega)
        · funext j; exact f2 64 j (by omega) (by omega)
end
