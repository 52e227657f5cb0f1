section
variable {X : Nat × (Nat → Int32)} {d : Nat} {al : List Nat} {D : Nat → Bool} {I : Nat → Nat → Int32} {L : Nat → Nat → Int64}
def okL (m : Nat → Nat) (b s l : Int32) : Bool := pm_in l (m 3) && (pm_in s (m 1) && pm_in b (m 0))
theorem c_layLog {m : Nat → Nat} (b s l : Int32) (g : rG I m) : ∃ J, Cl X (d + 5) 247 [vr 81, vi b, vi s, vi l] (pm_mm al D (pm_up I 81 0 0) L) = some (some (vi (b01 (okL m b s l))), pm_mm al D J L) ∧ rF I J
    ∧ (okL m b s l = true → ∃ b' s' l', b = Int32.ofNat b' ∧ s = Int32.ofNat s' ∧ l = Int32.ofNat l' ∧ b' < m 0 ∧ s' < m 1 ∧ l' < m 3 ∧ llN (lgH I b' s' l') (lgW I b' s') 4096 J) := by
  rw [Cl_s]
  show ∃ J, Rn X (d + 4) co_Mo_layLog (0, [some (vr 81), some (vi b), some (vi s), some (vi l), none], [], pm_mm al D (pm_up I 81 0 0) L) = _ ∧ _
  obtain ⟨m3, e3⟩ := g.1 3 (by omega)
  have h51 : rF I (pm_up (pm_up I 81 0 0) 81 51 l) := rF_code.trans (fun a h1 h2 => up_rw h1)
  have g' : rG (pm_up (pm_up I 81 0 0) 81 51 l) m := by rw [rG_up m h51]; exact g
  rw [sg_Mo_layLog_0, c_hasLog (d := d + 1) (I := pm_up I 81 0 0) l m3 e3]
  simp only [Option.bind_some, pm_ai, sg_Mo_layLog_5, b01_ne, sg_Mo_layLog_17]
  cases hl : pm_in l (m 3) with
  | false => exact ⟨_, by rw [okL, hl]; rfl, h51, fun h => by rw [okL, hl] at h; cases h⟩
  | true =>
    obtain ⟨J, e1, e2, e5⟩ := c_layBoth (X := X) (d := d) (al := al) (D := D) (L := L) (I := pm_up (pm_up I 81 0 0) 81 51 l) b s g'
    have hFJ : rF I J := h51.trans (rF_la e2)
    simp only [Bool.not_true, cond_false, e1, Option.bind_some, pm_ai, sg_Mo_layLog_14, b01_ne, sg_Mo_layLog_17]
    cases hok : (pm_in s (m 1) && pm_in b (m 0)) with
    | false => exact ⟨J, by rw [okL, hl, hok]; rfl, hFJ, fun h => by rw [okL, hl, hok] at h; cases h⟩
    | true =>
      have hok2 := hok
      simp only [Bool.and_eq_true] at hok
      obtain ⟨s', hs', es⟩ := in_nat hok.1
      obtain ⟨b', hb', eb⟩ := in_nat hok.2
      obtain ⟨l', hl', el⟩ := in_nat hl
      have hld : ldP I J b' s' := ⟨hFJ, e5 b' s' eb es hb' hs'⟩
      have hlg : lgP I J l' := ⟨by omega, by rw [e2 81 51 (by unfold laS; omega), up_eq, el], hFJ 90 (by omega) (by omega)⟩
      generalize hK0 : pm_up (pm_up (pm_up (pm_up J 81 52 0) 81 56 1000000) 81 57 (-1)) 81 58 4095 = K0
      have k0F : ∀ a j, ¬ (a = 81 ∧ (j = 52 ∨ (56 ≤ j ∧ j ≤ 58))) → K0 a j = J a j := fun a j h => by rw [← hK0, up_ne (by omega), up_ne (by omega), up_ne (by omega), up_ne (by omega)]
      have k52 : K0 81 52 = 0 := by rw [← hK0, up_ne (by omega), up_ne (by omega), up_ne (by omega), up_eq]
      have k56 : K0 81 56 = 1000000 := by rw [← hK0, up_ne (by omega), up_ne (by omega), up_eq]
      have k57 : K0 81 57 = -1 := by rw [← hK0, up_ne (by omega), up_eq]
      have k58 : K0 81 58 = 4095 := by rw [← hK0, up_eq]
      -- noughts
      obtain ⟨⟨K1, o3⟩, p1, p2, p3⟩ := lp (σ := (Nat → Nat → Int32) × Option pm_V) 84 (fun n q => Rn X (d + 4) co_Mo_layLog (46, [some (vr 81), some (vi b), some (vi s), q.2, some (vi (Int32.ofNat n))], [], pm_mm al D q.1 L)) (fun n q => (∀ a j, ¬ a = 109 → q.1 a j = K0 a j) ∧ ∀ x, x < n → q.1 109 x = 0) (fun n q hn hq => by
        obtain ⟨K, o3⟩ := q
        refine ⟨(pm_up K 109 n 0, pm_nl o3), ?_, fun a j h => by show pm_up K 109 n 0 a j = _; rw [up_ne (by omega)]; exact hq.1 a j h, fun x hx => ?_⟩
        · show Rn X (d + 4) co_Mo_layLog (46, [_, _, _, o3, _], [], pm_mm al D K L) = Rn X (d + 4) co_Mo_layLog (46, _)
          rw [sg_Mo_layLog_46, show decide ((84 : Int32) ≤ Int32.ofNat n) = false from (n_dle (a := 84) (by omega) (by omega)).trans (df (by omega)), cond_false, n_in (by omega), dt hn, cond_true, n_tn (by omega), n_s]
        · show pm_up K 109 n 0 109 x = 0
          by_cases hxn : x = n
          · subst hxn; exact up_eq
          · rw [up_ne (by omega)]; exact hq.2 x (by omega)) 0 (K0, pm_nl (some (vi l))) (Nat.zero_le _) ⟨fun _ _ _ => rfl, fun x hx => absurd hx (Nat.not_lt_zero x)⟩
      have p1 : Rn X (d + 4) co_Mo_layLog (46, [some (vr 81), some (vi b), some (vi s), pm_nl (some (vi l)), some (vi 0)], [], pm_mm al D K0 L) = Rn X (d + 4) co_Mo_layLog (46, [some (vr 81), some (vi b), some (vi s), o3, some (vi (Int32.ofNat 84))], [], pm_mm al D K1 L) := p1
      simp only at p2 p3
      obtain ⟨⟨K2, o4⟩, q1, q2, q3⟩ := lp (σ := (Nat → Nat → Int32) × Option pm_V) 12 (fun n q => Rn X (d + 4) co_Mo_layLog (70, [some (vr 81), some (vi b), some (vi s), q.2, some (vi (Int32.ofNat n))], [], pm_mm al D q.1 L)) (fun n q => (∀ a j, ¬ a = 110 → q.1 a j = K1 a j) ∧ ∀ x, x < n → q.1 110 x = 0) (fun n q hn hq => by
        obtain ⟨K, o3⟩ := q
        refine ⟨(pm_up K 110 n 0, pm_nl o3), ?_, fun a j h => by show pm_up K 110 n 0 a j = _; rw [up_ne (by omega)]; exact hq.1 a j h, fun x hx => ?_⟩
        · show Rn X (d + 4) co_Mo_layLog (70, [_, _, _, o3, _], [], pm_mm al D K L) = Rn X (d + 4) co_Mo_layLog (70, _)
          rw [sg_Mo_layLog_70, show decide ((12 : Int32) ≤ Int32.ofNat n) = false from (n_dle (a := 12) (by omega) (by omega)).trans (df (by omega)), cond_false, n_in (by omega), dt hn, cond_true, n_tn (by omega), n_s]
        · show pm_up K 110 n 0 110 x = 0
          by_cases hxn : x = n
          · subst hxn; exact up_eq
          · rw [up_ne (by omega)]; exact hq.2 x (by omega)) 0 (K1, pm_nl o3) (Nat.zero_le _) ⟨fun _ _ _ => rfl, fun x hx => absurd hx (Nat.not_lt_zero x)⟩
      have q1 : Rn X (d + 4) co_Mo_layLog (70, [some (vr 81), some (vi b), some (vi s), pm_nl o3, some (vi 0)], [], pm_mm al D K1 L) = Rn X (d + 4) co_Mo_layLog (70, [some (vr 81), some (vi b), some (vi s), o4, some (vi (Int32.ofNat 12))], [], pm_mm al D K2 L) := q1
      simp only at q2 q3
      have k2F : ∀ a j, ¬ (a = 81 ∧ (j = 52 ∨ (56 ≤ j ∧ j ≤ 58))) → ¬ a = 109 → ¬ a = 110 → K2 a j = J a j := fun a j h1 h2 h3 => by rw [q2 a j h3, p2 a j h2, k0F a j h1]
      have hld2 : ldP I K2 b' s' := ldP_up hld (fun a j h => k2F a j (by unfold ldS ctS at h; omega) (by unfold ldS ctS at h; omega) (by unfold ldS ctS at h; omega))
      have hlg2 : lgP I K2 l' := lgP_up hlg (fun a j h => k2F a j (by omega) (by omega) (by omega))
      have hN0 : llN (lgH I b' s' l') (lgW I b' s') 0 K2 := by
        refine ⟨?_, ?_, ?_, ?_, fun t ht => ?_, fun t c ht hc => ?_, fun x hx => absurd hx (Nat.not_lt_zero x)⟩
        · rw [q2 81 52 (by omega), p2 81 52 (by omega), k52]; rfl
        · rw [q2 81 56 (by omega), p2 81 56 (by omega), k56, fE, fo]
        · rw [q2 81 57 (by omega), p2 81 57 (by omega), k57, fM, fo]
        · rw [q2 81 58 (by omega), p2 81 58 (by omega), k58, fU, fo]
        · rw [q3 t ht]; rfl
        · rw [q2 109 _ (by omega), p3 _ (by omega)]; rfl
      obtain ⟨⟨K3, o5⟩, r1, r2, r3, r4⟩ := lp (σ := (Nat → Nat → Int32) × Option pm_V) 4096 (fun n q => Rn X (d + 4) co_Mo_layLog (94, [some (vr 81), some (vi b), some (vi s), q.2, some (vi (Int32.ofNat n))], [], pm_mm al D q.1 L)) (fun n q => ldP I q.1 b' s' ∧ lgP I q.1 l' ∧ llN (lgH I b' s' l') (lgW I b' s') n q.1) (fun n q hn hq => by
        obtain ⟨K, o3⟩ := q
        obtain ⟨K', t1, t2, t3, t4⟩ := c_logStep (X := X) (d := d) (al := al) (D := D) (L := L) (some (vi b)) (some (vi s)) o3 g hb' hl' hn hq.1 hq.2.1 hq.2.2
        exact ⟨(K', pm_nl o3), t1, t2, t3, t4⟩) 0 (K2, pm_nl o4) (Nat.zero_le _) ⟨hld2, hlg2, hN0⟩
      have r1 : Rn X (d + 4) co_Mo_layLog (94, [some (vr 81), some (vi b), some (vi s), pm_nl o4, some (vi 0)], [], pm_mm al D K2 L) = Rn X (d + 4) co_Mo_layLog (94, [some (vr 81), some (vi b), some (vi s), o5, some (vi (Int32.ofNat 4096))], [], pm_mm al D K3 L) := r1
      refine ⟨K3, ?_, r2.1, fun _ => ⟨b', s', l', eb, es, el, hb', hs', hl', r4⟩⟩
      rw [Bool.not_true, cond_false, p1, sg_Mo_layLog_46, show decide ((84 : Int32) ≤ Int32.ofNat 84) = true from rfl, cond_true, q1, sg_Mo_layLog_70, show decide ((12 : Int32) ≤ Int32.ofNat 12) = true from rfl, cond_true, r1, sg_Mo_layLog_94, show decide ((4096 : Int32) ≤ Int32.ofNat 4096) = true from rfl, cond_true, okL, hl, hok2]; rfl
def vTrodden (I : Nat → Nat → Int32) (m : Nat → Nat) (b s l t : Int32) (under : Bool) : Int64 := cond (pm_in t 12 && okL m b s l) (let h := lgH I b.toNatClampNeg s.toNatClampNeg l.toNatClampNeg; cond (decide (fN h 4096 = 0)) (-1) (pa (Int64.ofNat (fT h t.toNatClampNeg 4096)) (Int64.ofNat (fN h 4096)) under)) (-1)
theorem fN_le (h : Nat → Bool) (n : Nat) : fN h n ≤ 1 * n := su_bd (fun k => by cases h k <;> simp) n
theorem fT_le (h : Nat → Bool) (t n : Nat) : fT h t n ≤ 1 * n := su_bd (fun k => by cases h k && tb (Int32.ofNat k) t <;> simp) n
theorem r_trodden {m : Nat → Nat} (b s l t : Int32) (under : Bool) (g : rG I m) : ∃ J, Cl X (d + 6) 280 [vr 81, vi b, vi s, vi l, vi t, vi (b01 under)] (pm_mm al D I L) = some (some (vl (vTrodden I m b s l t under)), pm_mm al D J L) ∧ rF I J := by
  rw [Cl_s]
  show ∃ J, Rn X (d + 5) co_Mo_trodden (0, [some (vr 81), some (vi b), some (vi s), some (vi l), some (vi t), some (vi (b01 under))], [], pm_mm al D I L) = _ ∧ _
  have h5 : (if 0 ≤ t ∧ t ≤ 11 then (1 : Int32) else 0) = b01 (pm_in t 12) := in_m (m := 12) (by omega)
  obtain ⟨J, e1, e2, e3⟩ := c_layLog (X := X) (d := d) (al := al) (D := D) (L := L) b s l g
  rw [sg_Mo_trodden_0, vTrodden]
  simp only [c_in, h5, Option.bind_some, pm_ai, sg_Mo_trodden_13, b01_ne, e1]
  cases ht : pm_in t 12 with
  | false => exact ⟨_, sg_Mo_trodden_33 .., rF_code⟩
  | true =>
    rw [Bool.not_true, cond_false, Bool.true_and, sg_Mo_trodden_23, b01_ne, sg_Mo_trodden_33]
    cases hok : okL m b s l with
    | false => exact ⟨J, by rw [Bool.not_false, cond_true, cond_false], e2⟩
    | true =>
      obtain ⟨b', s', l', eb, es, el, hb', hs', hl', n1, n2, n3, n4, n5, n6, n7⟩ := e3 hok
      obtain ⟨t', ht', et⟩ := in_nat ht
      have m0 := (g.1 0 (by omega)).1; have m1 := (g.1 1 (by omega)).1; have m3 := (g.1 3 (by omega)).1
      refine ⟨J, ?_, e2⟩
      subst eb es el et
      rw [Bool.not_true, cond_false, n_tn (by omega), n_tn (by omega), n_tn (by omega), n_tn (by omega), n1, cond_true]
      have hN := fN_le (lgH I b' s' l') 4096
      have hT := fT_le (lgH I b' s' l') t' 4096
      have n5' := n5 t' ht'
      show cond (decide (Int32.ofNat (fN (lgH I b' s' l') 4096) = 0)) _ _ = some (some (vl (cond (decide (fN (lgH I b' s' l') 4096 = 0)) (-1) (pa (Int64.ofNat (fT (lgH I b' s' l') t' 4096)) (Int64.ofNat (fN (lgH I b' s' l') 4096)) under))), _)
      generalize fN (lgH I b' s' l') 4096 = N at *
      generalize fT (lgH I b' s' l') t' 4096 = T at *
      rw [show decide (Int32.ofNat N = 0) = decide (N = 0) from n_deq (b := 0) (by omega) (by omega)]
      by_cases hz : N = 0
      · rw [dt hz, cond_true, cond_true]
      · rw [df hz, cond_false, cond_false, n_in (by omega), dt ht', cond_true, n5', i64_n (by omega), i64_n (by omega), c_part (d := d + 3) under (by rw [u_ti (by omega)]; omega) (by rw [u_ti (by omega)]; omega)]
        simp only [Option.bind_some, pm_al, sg_Mo_trodden_55]
end
