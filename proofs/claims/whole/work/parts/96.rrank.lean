section
variable {X : Nat × (Nat → Int32)} {d : Nat} {al : List Nat} {D : Nat → Bool} {I : Nat → Nat → Int32} {L : Nat → Nat → Int64}
/-- the best of rows: how much, and the first of them -/
def bs1 (f : List Nat → Int32) (s : Int32 × List Nat) (l : List Nat) : Int32 × List Nat := if f l < s.1 then (f l, l) else s
def bs (f : List Nat → Int32) : List (List Nat) → Int32 × List Nat → Int32 × List Nat
  | [], s => s
  | l :: t, s => bs f t (bs1 f s l)
def bst (f : List Nat → Int32) (n : Nat) : Int32 × List Nat := bs f (rws n) (1000000, [])
theorem bs1_le (f : List Nat → Int32) (s : Int32 × List Nat) (l : List Nat) : (bs1 f s l).1 ≤ s.1 ∧ (bs1 f s l).1 ≤ f l := by
  rw [bs1]
  by_cases h : f l < s.1
  · rw [if_pos h]; exact ⟨Int32.le_of_lt h, Int32.le_refl _⟩
  · rw [if_neg h]; exact ⟨Int32.le_refl _, Int32.not_lt.mp h⟩
theorem bs_le (f : List Nat → Int32) : ∀ ls s, (bs f ls s).1 ≤ s.1
  | [], s => Int32.le_refl _
  | l :: t, s => Int32.le_trans (bs_le f t _) (bs1_le f s l).1
theorem rws_cons {n : Nat} (hn : n ≤ 6) : chB n (rws n) = true ∧ (rws n).length ≤ 720 := by
  have := rws_ch ⟨n, by omega⟩
  rw [Bool.and_eq_true] at this
  exact ⟨this.1, Nat.le_of_ble_eq_true this.2⟩
theorem rws_hd (n : Nat) : ∃ t, rws n = rw0 :: t := ⟨_, rfl⟩
theorem on_rg (x : Int32) : ∀ n, n ≤ 12 → 0 ≤ (fo (on1 x) n 0).toInt ∧ (fo (on1 x) n 0).toInt ≤ n
  | 0, _ => ⟨by rw [fo]; decide, by rw [fo]; decide⟩
  | n + 1, h => by
    obtain ⟨h1, h2⟩ := on_rg x n (by omega)
    have e : (b01 (hs x (Int32.ofNat n))).toInt = 0 ∨ (b01 (hs x (Int32.ofNat n))).toInt = 1 := by cases hs x (Int32.ofNat n); exact Or.inl rfl; exact Or.inr rfl
    rw [fo, on1, t_add (by omega) (by omega)]; omega
theorem on_r (x : Int32) : 0 ≤ (on x).toInt ∧ (on x).toInt ≤ 12 := on_rg x 12 (Nat.le_refl _)
theorem sil_rg (g : Nat → Int32) : ∀ n, n ≤ 12 → 0 ≤ (fo (sil1 g) n 0).toInt ∧ (fo (sil1 g) n 0).toInt ≤ 12 * n
  | 0, _ => ⟨by rw [fo]; decide, by rw [fo]; decide⟩
  | n + 1, h => by
    obtain ⟨h1, h2⟩ := sil_rg g n (by omega)
    have := on_r (g n)
    rw [fo, sil1, t_add (by omega) (by omega)]; omega
theorem sil_mono (g : Nat → Int32) (t : Nat) : ∀ m, t + m ≤ 12 → (fo (sil1 g) t 0).toInt ≤ (fo (sil1 g) (t + m) 0).toInt
  | 0, _ => Int.le_refl _
  | m + 1, h => by
    have := sil_mono g t m (by omega)
    have := sil_rg g (t + m) (by omega)
    have := on_r (g (t + m))
    rw [← Nat.add_assoc, fo, sil1, t_add (by omega) (by omega)]; omega
def bdW (B : PB) (l : List Nat) : PB := (B.1, B.2.1, B.2.2.1, B.2.2.2.1, B.2.2.2.2.1, B.2.2.2.2.2.1, fun i => Int32.ofNat (li l i))
def rkv (B : PB) (w : Nat → Int32) (set : Int32) (l : List Nat) : Int32 := fo (sil1 (fun t => (pst (bdW B l) w (trd set (-1)) (t + 1)).2.2.2.2.1)) 12 0
theorem rkv_rg (B : PB) (w : Nat → Int32) (set : Int32) (l : List Nat) : 0 ≤ (rkv B w set l).toInt ∧ (rkv B w set l).toInt ≤ 144 := sil_rg _ 12 (Nat.le_refl _)
def bsK (q : Int32 × List Nat) (k : Int32) : Int32 := cond (decide (k = -1)) q.1 (Int32.ofNat (li q.2 k.toNatClampNeg))
def vRank (I : Nat → Nat → Int32) (m : Nat → Nat) (b s u k : Int32) : Int32 :=
  cond (pm_in s (m 1) && pm_in b (m 0) && pm_in u (m 2) && decide (-1 ≤ k ∧ k ≤ I 87 (29 * b.toNatClampNeg) - 1))
    (bsK (bst (rkv (bdO I b.toNatClampNeg) (wn (scO I s.toNatClampNeg)) (I 89 u.toNatClampNeg)) (I 87 (29 * b.toNatClampNeg)).toNatClampNeg) k) (-1)
def rkF (J K : Nat → Nat → Int32) : Prop := ∀ a j, a ≠ 94 → a ≠ 111 → ¬ (95 ≤ a ∧ a ≤ 100) → ¬ (a = 81 ∧ 37 ≤ j ∧ j ≤ 39) → K a j = J a j
theorem k_rng {k : Int32} {n : Nat} (hn : n ≤ 6) (h : -1 ≤ k ∧ k ≤ Int32.ofNat n - 1) (hk : ¬ k = -1) : ∃ k', k' < n ∧ k = Int32.ofNat k' := by
  have e1 : (-1 : Int32).toInt = -1 := rfl
  have e2 : (1 : Int32).toInt = 1 := rfl
  have e0 : (0 : Int32).toInt = 0 := rfl
  have hn2 := n_ti (show n < 2147483648 by omega)
  obtain ⟨h1, h2⟩ := h
  rw [t_le, e1] at h1
  rw [t_le, t_sub (by omega) (by omega), hn2, e2] at h2
  rw [t_eq, e1] at hk
  exact ⟨k.toNatClampNeg, by rw [t_tn]; omega, n_of (t_le.mpr (by omega))⟩
theorem r_rank {m : Nat → Nat} (b s u k : Int32) (g : rG I m) : ∃ J, Cl X (d + 5) 263 [vr 81, vi b, vi s, vi u, vi k] (pm_mm al D I L) = some (some (vi (vRank I m b s u k)), pm_mm al D J L) ∧ rF I J := by
  rw [Cl_s]
  show ∃ J, Rn X (d + 4) co_Mo_rank (0, [some (vr 81), some (vi b), some (vi s), some (vi u), some (vi k), none, none, none, none], [], pm_mm al D I L) = _ ∧ _
  have g' : rG (pm_up I 81 0 0) m := by rw [rG_up m rF_code]; exact g
  obtain ⟨J, e1, e2, e3⟩ := c_layAll (X := X) (d := d) (al := al) (D := D) (L := L) (I := pm_up I 81 0 0) b s u g'
  rw [sg_Mo_rank_0, e1]
  simp only [Option.bind_some, pm_ai, sg_Mo_rank_12, b01_ne, vRank, c_in, sg_Mo_rank_27, sg_Mo_rank_30]
  cases hok : (pm_in s (m 1) && pm_in b (m 0) && pm_in u (m 2)) with
  | false => exact ⟨J, rfl, rF_code.trans (rF_la e2)⟩
  | true =>
    simp only [Bool.and_eq_true] at hok
    obtain ⟨⟨o1, o2⟩, o3⟩ := hok
    obtain ⟨s', hs', es⟩ := in_nat o1
    obtain ⟨b', hb', eb⟩ := in_nat o2
    obtain ⟨u', hu', eu⟩ := in_nat o3
    have m0 := (g.1 0 (by omega)).1
    have m1 := (g.1 1 (by omega)).1
    have m2 := (g.1 2 (by omega)).1
    obtain ⟨hl, h40⟩ := e3 b' s' u' eb es eu hb' hs' hu'
    have h40 : J 81 40 = I 89 u' := h40
    have J25 : J 81 25 = I 87 (29 * b') := hl.1.2.1
    have btn : b.toNatClampNeg = b' := by rw [eb, n_tn (by omega)]
    have stn : s.toNatClampNeg = s' := by rw [es, n_tn (by omega)]
    have utn : u.toNatClampNeg = u' := by rw [eu, n_tn (by omega)]
    rw [J25, btn, stn, utn]
    by_cases hk : -1 ≤ k ∧ k ≤ I 87 (29 * b') - 1
    · rw [if_pos hk, dt hk]
      have en := n_of (g.2.1 b' hb').2.1
      have n6 : (I 87 (29 * b')).toNatClampNeg ≤ 6 := (g.2.1 b' hb').1
      rw [en] at hk
      generalize hn : (I 87 (29 * b')).toNatClampNeg = n at n6 hk
      rw [hn] at en
      generalize hf : rkv (bdO I b') (wn (scO I s')) (I 89 u') = f
      have f1 : ∀ l, f l < 1000000 := fun l => by
        have := rkv_rg (bdO I b') (wn (scO I s')) (I 89 u') l
        rw [hf] at this
        rw [t_lt]; have e : (1000000 : Int32).toInt = 1000000 := rfl; omega
      have J87 : ∀ j, J 87 j = I 87 j := fun j => (e2 87 j (by unfold laS; omega)).trans (up_ne (by omega))
      have turn : ∀ l q K o7 o8, okB n l = true → rkF J K → rwP K 94 (li l) → (q.1 < 1000000 → ∀ p, p < n → K 111 p = Int32.ofNat (li q.2 p)) →
          ∃ M p7 p8, Rn X (d + 4) co_Mo_rank (40, [some (vr 81), some (vi b), some (vi s), some (vi u), some (vi k), some (vi q.1), some (vi 1), o7, o8], [], pm_mm al D K L) = Rn X (d + 4) co_Mo_rank (40, [some (vr 81), some (vi b), some (vi s), some (vi u), some (vi k), some (vi (bs1 f q l).1), some (vi (b01 (nr n l).isSome)), p7, p8], [], pm_mm al D M L)
            ∧ rkF J M ∧ (∀ l', nr n l = some l' → rwP M 94 (li l')) ∧ ∀ p, p < n → M 111 p = Int32.ofNat (li (bs1 f q l).2 p) := by
        intro l q K o7 o8 ho hK hr hq
        obtain ⟨l6, lp⟩ := ok_prm ho n6
        have K25 : K 81 25 = Int32.ofNat n := (hK 81 25 (by omega) (by omega) (by omega) (by omega)).trans (J25.trans en)
        have K87 : ∀ j, K 87 j = I 87 j := fun j => (hK 87 j (by omega) (by omega) (by omega) (by omega)).trans (J87 j)
        obtain ⟨P, p1, p2, p3⟩ := c_plays (X := X) (d := d + 1) (al := al) (D := D) (L := L) (I := K) (b := b') (n := n) (K 81 40) (-1) (by omega) ((hK 81 23 (by omega) (by omega) (by omega) (by omega)).trans hl.1.1) n6 K25 (fun i hi => ⟨li l i, l6 i (by omega), hr i (by omega)⟩)
        have hps : ∀ t, t ≤ 12 → pst (PBr K b' n) (K 93) (trd (K 81 40) (-1)) t = pst (bdW (bdO I b') l) (wn (scO I s')) (trd (I 89 u') (-1)) t := fun t ht => by
          rw [show K 81 40 = I 89 u' from (hK 81 40 (by omega) (by omega) (by omega) (by omega)).trans h40]
          refine pst_congr (B := PBr K b' n) (C := bdW (bdO I b') l) ?_ (K87 _) ?_ ?_ hn.symm (fun i hi => ?_) t (fun v hv => (hK 93 v (by omega) (by omega) (by omega) (by omega)).trans (hl.2.2 v (by omega))) (fun _ _ _ => rfl)
          · exact (hK 81 27 (by omega) (by omega) (by omega) (by omega)).trans hl.1.2.2.1
          · exact (hK 81 28 (by omega) (by omega) (by omega) (by omega)).trans hl.1.2.2.2.1
          · exact (hK 81 29 (by omega) (by omega) (by omega) (by omega)).trans hl.1.2.2.2.2.1
          · have hi : i < (I 87 (29 * b')).toNatClampNeg := hi
            have e : K 94 i = Int32.ofNat (li l i) := hr i (by omega)
            refine ⟨e, ?_⟩
            show dwR K b' (K 94 i) = dwR I b' (Int32.ofNat (li l i))
            rw [e, dwR, dwR]; exact K87 _
        have hval : fo (sil1 (P 98)) 12 0 = f l := by
          rw [← hf]
          exact sil_congr (fun t ht => by rw [(p3.1 t ht).2.2.2.1, hps (t + 1) (by omega)])
        have P25 : P 81 25 = Int32.ofNat n := (p2 81 25 (by omega) (by omega)).trans K25
        have Pr : rwP P 94 (li l) := fun i hi => (p2 94 i (by omega) (by omega)).trans (hr i hi)
        have hP : rkF J P := fun a j a1 a2 a3 a4 => (p2 a j a3 a4).trans (hK a j a1 a2 a3 a4)
        have cpy : ∀ i v Q, v + i = n → f l < q.1 → (∀ a j, a ≠ 111 → Q a j = P a j) → (∀ p, p < v → Q 111 p = Int32.ofNat (li l p)) → ∃ Q', Rn X (d + 4) co_Mo_rank (63, [some (vr 81), some (vi b), some (vi s), some (vi u), some (vi k), some (vi q.1), pm_nl (some (vi 1)), some (vi (f l)), some (vi (Int32.ofNat v))], [], pm_mm al D Q L) = Rn X (d + 4) co_Mo_rank (99, [some (vr 81), some (vi b), some (vi s), some (vi u), some (vi k), some (vi q.1), pm_nl (some (vi 1)), some (vi (f l)), some (vi (Int32.ofNat n))], [], pm_mm al D Q' L) ∧ (∀ a j, a ≠ 111 → Q' a j = P a j) ∧ ∀ p, p < n → Q' 111 p = Int32.ofNat (li l p) := by
          intro i
          induction i with
          | zero =>
            intro v Q hv hlt hQ h111
            obtain rfl : v = n := by omega
            refine ⟨Q, ?_, hQ, h111⟩
            rw [sg_Mo_rank_63, hQ 81 25 (by omega), P25]
            simp (disch := omega) only [n_dle, dt, cond_true]
          | succ i ih =>
            intro v Q hv hlt hQ h111
            rw [sg_Mo_rank_63, hQ 81 25 (by omega), P25, df (Int32.not_le.mpr hlt)]
            simp (disch := omega) only [n_dle, df, cond_false, n_in, dt, cond_true, n_tn, n_s]
            refine ih (v + 1) _ (by omega) hlt (fun a j h => by rw [up_ne (by omega)]; exact hQ a j h) (fun p hp => ?_)
            by_cases hpv : p = v
            · subst hpv; rw [up_eq, hQ 94 p (by omega), Pr p (by omega)]
            · rw [up_ne (by omega)]; exact h111 p (by omega)
        have mid : ∃ Q p8, Rn X (d + 4) co_Mo_rank (63, [some (vr 81), some (vi b), some (vi s), some (vi u), some (vi k), some (vi q.1), pm_nl (some (vi 1)), some (vi (f l)), some (vi 0)], [], pm_mm al D P L) = Rn X (d + 4) co_Mo_rank (99, [some (vr 81), some (vi b), some (vi s), some (vi u), some (vi k), some (vi q.1), pm_nl (some (vi 1)), some (vi (f l)), p8], [], pm_mm al D Q L) ∧ (∀ a j, a ≠ 111 → Q a j = P a j) ∧ ∀ p, p < n → Q 111 p = Int32.ofNat (li (bs1 f q l).2 p) := by
          by_cases hlt : f l < q.1
          · obtain ⟨Q, q1, q2, q3⟩ := cpy n 0 P (by omega) hlt (fun _ _ _ => rfl) (fun p hp => absurd hp (Nat.not_lt_zero p))
            refine ⟨Q, _, q1, q2, fun p hp => ?_⟩
            rw [bs1, if_pos hlt]; exact q3 p hp
          · refine ⟨P, some (vi 0), ?_, fun _ _ _ => rfl, fun p hp => ?_⟩
            · rw [sg_Mo_rank_63, dt (Int32.not_lt.mp hlt)]
              cases decide (P 81 25 ≤ 0) <;> rfl
            · rw [bs1, if_neg hlt, p2 111 p (by omega) (by omega)]
              refine hq ?_ p hp
              have := f1 l
              rw [t_lt] at this ⊢
              have h2 := Int32.not_lt.mp hlt
              rw [t_le] at h2; omega
        obtain ⟨Q, p8, q1, q2, q3⟩ := mid
        obtain ⟨M, n1, n2, n3⟩ := c_nextRow (X := X) (d := d + 2) (al := al) (D := D) (L := L) (I := Q) (l := l) n6 ((q2 81 25 (by omega)).trans P25) (fun i hi => (q2 94 i (by omega)).trans (Pr i hi)) l6
        have hmn : mn q.1 (f l) = (bs1 f q l).1 := by
          rw [bs1, mn]
          by_cases hlt : f l < q.1
          · rw [if_pos hlt, if_neg (Int32.not_lt.mpr (Int32.le_of_lt hlt))]
          · rw [if_neg hlt]
            by_cases h2 : q.1 < f l
            · rw [if_pos h2]
            · rw [if_neg h2]; exact Int32.le_antisymm (Int32.not_lt.mp h2) (Int32.not_lt.mp hlt)
        refine ⟨M, some (vi (f l)), p8, ?_, fun a j a1 a2 a3 a4 => ?_, n3, fun p hp => ?_⟩
        · rw [sg_Mo_rank_40, show decide ((1 : Int32) = 0) = false from rfl, cond_false, p1]
          simp only [Option.bind_some, pm_av, sg_Mo_rank_54, c_silentAll, pm_ai, hval, sg_Mo_rank_58]
          rw [q1, sg_Mo_rank_99, c_lesser, hmn]
          simp only [Option.bind_some, pm_ai, sg_Mo_rank_106]
          rw [n1]
          simp only [Option.bind_some, pm_ai, sg_Mo_rank_112]
        · rw [n2 a j a1, q2 a j a2]; exact hP a j a1 a2 a3 a4
        · rw [n2 111 p (by omega)]; exact q3 p hp
      have fin : ∀ q K o7 o8, rkF J K → (∀ p, p < n → K 111 p = Int32.ofNat (li q.2 p)) → Rn X (d + 4) co_Mo_rank (40, [some (vr 81), some (vi b), some (vi s), some (vi u), some (vi k), some (vi q.1), some (vi 0), o7, o8], [], pm_mm al D K L) = some (some (vi (bsK q k)), pm_mm al D K L) := by
        intro q K o7 o8 hK h111
        rw [sg_Mo_rank_40, bsK]
        by_cases hk1 : k = -1
        · subst hk1; simp only [decide_true, cond_true, sg_Mo_rank_135]
        · obtain ⟨k', hk', ek⟩ := k_rng n6 hk hk1
          rw [df hk1]
          subst ek
          simp (disch := omega) only [decide_true, cond_true, cond_false, n_in, dt, n_tn, sg_Mo_rank_135, h111 k' hk']
      have loop : ∀ t l q K o7 o8, chB n (l :: t) = true → rkF J K → rwP K 94 (li l) → (q.1 < 1000000 → ∀ p, p < n → K 111 p = Int32.ofNat (li q.2 p)) → ∃ M, Rn X (d + 4) co_Mo_rank (40, [some (vr 81), some (vi b), some (vi s), some (vi u), some (vi k), some (vi q.1), some (vi 1), o7, o8], [], pm_mm al D K L) = some (some (vi (bsK (bs f (l :: t) q) k)), pm_mm al D M L) ∧ rkF J M := by
        intro t
        induction t with
        | nil =>
          intro l q K o7 o8 hc hK hr hq
          obtain ⟨ho, h | ⟨l', t', e1, e2, e3⟩⟩ := ch_cons hc
          · obtain ⟨M, p7, p8, t1, t2, t3, t4⟩ := turn l q K o7 o8 ho hK hr hq
            rw [h.1] at t1
            exact ⟨M, t1.trans (fin _ M p7 p8 t2 t4), t2⟩
          · cases e2
        | cons l' t' ih =>
          intro l q K o7 o8 hc hK hr hq
          obtain ⟨ho, h | ⟨l2, t2, e1, e2, e3⟩⟩ := ch_cons hc
          · cases h.2
          · cases e2
            obtain ⟨M, p7, p8, t1, t2, t3, t4⟩ := turn l q K o7 o8 ho hK hr hq
            rw [e1] at t1
            obtain ⟨N, n1, n2⟩ := ih l' (bs1 f q l) M p7 p8 e3 t2 (t3 l' e1) (fun _ => t4)
            exact ⟨N, t1.trans n1, n2⟩
      obtain ⟨t0, et⟩ := rws_hd n
      have hch := (rws_cons n6).1
      rw [et] at hch
      obtain ⟨M, m1', m2'⟩ := loop t0 rw0 (1000000, []) J none none hch (fun _ _ _ _ _ _ => rfl) (fun i hi => by
        rw [hl.1.2.2.2.2.2 i hi]
        have : i = 0 ∨ i = 1 ∨ i = 2 ∨ i = 3 ∨ i = 4 ∨ i = 5 := by omega
        rcases this with rfl | rfl | rfl | rfl | rfl | rfl <;> rfl) (fun h => absurd h (by decide))
      refine ⟨M, ?_, rF_code.trans ((rF_la e2).trans (fun a h1 h2 => by funext j; exact m2' a j (by omega) (by omega) (by omega) (by omega)))⟩
      rw [bst, et]
      exact m1'
    · rw [if_neg hk, df hk]
      exact ⟨J, rfl, rF_code.trans (rF_la e2)⟩
end
