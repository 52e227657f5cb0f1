theorem sn_ttyq {q : Nat} (h : (Nat.ble 100 (pm_kd q).1 || Nat.beq (pm_kd q).1 6) = true) : ∃ ty, sn_tty (pm_kd q).1 = some ty ∧ ty.isReference = true := by
  simp only [Bool.or_eq_true, Nat.ble_eq, Nat.beq_eq] at h
  have h2 := sn_kdT q
  have h3 : (pm_kd q).1 = 6 ∨ (pm_kd q).1 = 100 ∨ (pm_kd q).1 = 103 ∨ (pm_kd q).1 = 106 ∨ (pm_kd q).1 = 108 ∨ (pm_kd q).1 = 109 := by omega
  rcases h3 with h3 | h3 | h3 | h3 | h3 | h3 <;> rw [h3] <;> exact ⟨_, rfl, rfl⟩
theorem sn_ttya {q : Nat} (h1 : 1 ≤ (pm_kd q).1) (h : 100 ≤ (pm_kd q).1 ∨ (pm_kd q).1 ≤ 6) : ∃ ty, sn_tty (pm_kd q).1 = some ty := by
  have h2 := sn_kdT q
  have h3 : (pm_kd q).1 = 1 ∨ (pm_kd q).1 = 2 ∨ (pm_kd q).1 = 3 ∨ (pm_kd q).1 = 4 ∨ (pm_kd q).1 = 6 ∨ (pm_kd q).1 = 100 ∨ (pm_kd q).1 = 103 ∨ (pm_kd q).1 = 106 ∨ (pm_kd q).1 = 108 ∨ (pm_kd q).1 = 109 := by omega
  rcases h3 with h3 | h3 | h3 | h3 | h3 | h3 | h3 | h3 | h3 | h3 <;> rw [h3] <;> exact ⟨_, rfl⟩
theorem sn_ttyo {q : Nat} (h : 100 ≤ (pm_kd q).1) : ∃ ci rc, (pm_kd q).1 = 100 + ci ∧ sn_tty (100 + ci) = some (.object (rc : vw_C).1) ∧ vwCl[ci]? = some rc ∧ ci < 50 := by
  have h2 := sn_kdT q
  have h3 : (pm_kd q).1 = 100 ∨ (pm_kd q).1 = 103 ∨ (pm_kd q).1 = 106 ∨ (pm_kd q).1 = 108 ∨ (pm_kd q).1 = 109 := by omega
  rcases h3 with h3 | h3 | h3 | h3 | h3
  · exact ⟨0, _, h3, rfl, rfl, by omega⟩
  · exact ⟨3, _, h3, rfl, rfl, by omega⟩
  · exact ⟨6, _, h3, rfl, rfl, by omega⟩
  · exact ⟨8, _, h3, rfl, rfl, by omega⟩
  · exact ⟨9, _, h3, rfl, rfl, by omega⟩
theorem sn_ttyn {E : sn_E} {U : State} {a : Nat} (hXs : sn_Xs E U) (h : (Nat.beq a 0 || Nat.beq a 3 || Nat.beq a 6 || Nat.beq a 8 || Nat.beq a 9) = true) : sn_tty (100 + a) = some (.object (sn_ow a)) ∧ va_AO (sn_ow a) U := by
  simp only [Bool.or_eq_true, Nat.beq_eq] at h
  have h6 := hXs.2.2.2.2.2.1
  rcases h with (((h | h) | h) | h) | h <;> subst h
  · exact ⟨rfl, h6 _ (List.mem_of_getElem? (i := 0) rfl)⟩
  · exact ⟨rfl, h6 _ (List.mem_of_getElem? (i := 1) rfl)⟩
  · exact ⟨rfl, h6 _ (List.mem_of_getElem? (i := 2) rfl)⟩
  · exact ⟨rfl, h6 _ (List.mem_of_getElem? (i := 3) rfl)⟩
  · exact ⟨rfl, h6 _ (List.mem_of_getElem? (i := 4) rfl)⟩
theorem sn_slj {j : Nat} {u : Int32} (h : pm_in u (pm_sl (901 + j)) = true) : j < 5 := by
  rcases Nat.lt_or_ge j 5 with h1 | h1
  · exact h1
  · have h2 : pm_sl (901 + j) = 0 := by
      unfold pm_sl
      have hb : ∀ k, k ≤ 905 → Nat.beq (901 + j) k = false := fun k hk => by
        cases h3 : Nat.beq (901 + j) k with
        | false => rfl
        | true => exact absurd (Nat.eq_of_beq_eq_true h3) (by omega)
      rw [hb 901 (by omega), hb 902 (by omega), hb 903 (by omega), hb 904 (by omega), hb 905 (by omega)]
      simp
    rw [h2] at h
    simp [pm_in] at h
theorem sn_tm_d {f : Nat} {ty : FieldType} (h : sn_tm f ty) : defaultValue ty = (match f with | 2 => Value.null | 1 => Value.long 0 | _ => Value.int 0) := by
  rcases h with ⟨rfl, rfl⟩ | ⟨rfl, rfl⟩ | ⟨rfl, rfl⟩ | ⟨rfl, -, h⟩
  · rfl
  · rfl
  · rfl
  · exact h
theorem sn_stq {cal : pm_K} {k : pm_S → Option pm_R} {r : pm_R} {st : List pm_V} {b : Nat} {F : Nat → pm_T} (hb1 : 1 ≤ b) (h : pm_ev cal k (match st.drop (b - 1) with
      | (Sum.inr (Sum.inr q)) :: _ => F q
      | _ => pm_no) = some r) : ∃ (q : Nat) (as : List pm_V), (b ≤ st.length → st = (vr q :: as).reverse ++ st.drop b) ∧ (b ≤ st.length → as.length = b - 1) ∧ pm_ev cal k (F q) = some r ∧ (b ≤ st.length → (st.take b).reverse = vr q :: as) := by
  split at h
  · rename_i q t hq
    have hd : st.drop b = t := by
      have : st.drop b = (st.drop (b - 1)).drop 1 := by rw [List.drop_drop]; congr 1; omega
      rw [this, hq]
      rfl
    have hst : st = st.take (b - 1) ++ (vr q :: t) := by
      have := List.take_append_drop (b - 1) st
      rw [hq] at this
      exact this.symm
    have hlen : (b ≤ st.length → (st.take (b - 1)).length = b - 1) := fun hl => by rw [List.length_take]; omega
    refine ⟨q, (st.take (b - 1)).reverse, fun hl => ?_, fun hl => by rw [List.length_reverse]; exact hlen hl, h, fun hl => ?_⟩
    · rw [List.reverse_cons, List.reverse_reverse, hd, List.append_assoc]
      exact hst
    · have : st.take b = st.take (b - 1) ++ [vr q] := by
        conv => lhs; rw [hst]
        rw [List.take_append, hlen hl, List.take_of_length_le (by rw [hlen hl]; omega)]
        rw [show b - (b - 1) = 1 by omega]
        rfl
      rw [this, List.reverse_append]
      rfl
  · cases h
theorem sn_nn {r : pm_R} (h : (none : Option pm_R) = some r) : False := by cases h
theorem sn_evg {cal : pm_K} {k : pm_S → Option pm_R} {r : pm_R} {b : Bool} {s' : pm_S} (h : pm_ev cal k (pm_gx b s') = some r) : b = true ∧ k s' = some r := by
  cases b with
  | true => exact ⟨rfl, h⟩
  | false => cases h
theorem sn_evb1 {cal : pm_K} {k : pm_S → Option pm_R} {r : pm_R} {P : Prop} [Decidable P] {s' t' : pm_S} (h : pm_ev cal k (pm_br (decide P) s' t') = some r) (hp : P) : k s' = some r := by
  rw [decide_eq_true hp] at h
  exact h
theorem sn_evb2 {cal : pm_K} {k : pm_S → Option pm_R} {r : pm_R} {P : Prop} [Decidable P] {s' t' : pm_S} (h : pm_ev cal k (pm_br (decide P) s' t') = some r) (hp : ¬ P) : k t' = some r := by
  rw [decide_eq_false hp] at h
  exact h
theorem sn_ai {x : pm_R} {q : Int32 × pm_M} (h : pm_ai x = some q) : x = (some (vi q.1), q.2) := by
  unfold pm_ai at h
  split at h
  · cases h; rfl
  · cases h
theorem sn_al {x : pm_R} {q : Int64 × pm_M} (h : pm_al x = some q) : x = (some (vl q.1), q.2) := by
  unfold pm_al at h
  split at h
  · cases h; rfl
  · cases h
theorem sn_ar {x : pm_R} {q : Nat × pm_M} (h : pm_ar x = some q) : x = (some (vr q.1), q.2) := by
  unfold pm_ar at h
  split at h
  · cases h; rfl
  · cases h
theorem sn_av {x : pm_R} {q : pm_M} (h : pm_av x = some q) : x = (none, q) := by
  unfold pm_av at h
  split at h
  · cases h; rfl
  · cases h
theorem sn_evc {cal : pm_K} {k : pm_S → Option pm_R} {r : pm_R} {g : Bool} {m' : Nat} {as : List pm_V} {V : pm_M} {kind pc' : Nat} {ls : pm_L} {st' : List pm_V} (h : pm_ev cal k (g, Sum.inr (Sum.inl (m', as, V, kind, pc', ls, st'))) = some r) : g = true ∧ ∃ rc, cal m' as V = some rc ∧ k (pc', ls, rc.1.toList ++ st', rc.2) = some r := by
  cases g with
  | false => cases h
  | true =>
    refine ⟨rfl, ?_⟩
    match kind, h with
    | 0, h =>
      simp only [pm_ev, cond_true, Option.bind_eq_some_iff] at h
      obtain ⟨q, ⟨rc, h1, h2⟩, h3⟩ := h
      rw [sn_av h2] at h1
      exact ⟨_, h1, h3⟩
    | 1, h =>
      simp only [pm_ev, cond_true, Option.bind_eq_some_iff] at h
      obtain ⟨q, ⟨rc, h1, h2⟩, h3⟩ := h
      rw [sn_ai h2] at h1
      exact ⟨_, h1, h3⟩
    | 2, h =>
      simp only [pm_ev, cond_true, Option.bind_eq_some_iff] at h
      obtain ⟨q, ⟨rc, h1, h2⟩, h3⟩ := h
      rw [sn_al h2] at h1
      exact ⟨_, h1, h3⟩
    | n + 3, h =>
      simp only [pm_ev, cond_true, Option.bind_eq_some_iff] at h
      obtain ⟨q, ⟨rc, h1, h2⟩, h3⟩ := h
      rw [sn_ar h2] at h1
      exact ⟨_, h1, h3⟩
theorem sn_tt_pre {a b : List Nat} (h : a <+: b) : a.length ≤ b.length ∧ sn_tt a ≤ sn_tt b := by
  obtain ⟨k, rfl⟩ := h
  refine ⟨by rw [List.length_append]; omega, ?_⟩
  unfold sn_tt
  rw [List.map_append, List.sum_append]
  omega
/-- what holds in a method's body -/
def sn_Cx (E : sn_E) (p : Program) (R : Room) (s : State) (m : MethodId) (args : Array Value) (meth : Method) (c : Code) (n0 mm ow d : Nat) : Prop :=
  p.tables.exec = Jvm.exec ∧ c.code = sn_b mm ∧ c.maxLocals = pm_mx mm ∧ s.vm.findClass (sn_ow ow) = some m.cls ∧ (∀ w ∈ sn_GT, w.before args s = true) ∧ sn_K E s ∧ sn_Xs E s ∧ s.heap.size = E.1 + n0 ∧ meth.name = (sn_y mm).name ∧ d + 9 ≤ R.frames ∧ 64 * (d + 9) ≤ R.locals
section SN8
variable {E : sn_E} {p : Program} {l : Launch} {e : Env} {R : Room} {s : State} {m : MethodId} {args : Array Value} {below : List Frame} {meth : Method} {c : Code} {n0 t0 : Nat} {Q : State → Prop} {mm ow d : Nat}
variable {pc : Nat} {ls : pm_L} {st : List pm_V} {V : pm_M}
theorem sn_memN {l : List (Nat × Nat × Nat)} {q : Nat × Nat × Nat} (h : l.contains q = true) : q ∈ l := List.contains_iff_mem.mp h
set_option maxHeartbeats 4000000 in
set_option maxRecDepth 10000 in
theorem sn_step (C : sn_Cx E p R s m args meth c n0 mm ow d) {cal : pm_K} {k : pm_S → Option pm_R} {r : pm_R} {i : Instr} {np a b f : Nat} {x : Int32} {y : Int64} {sw : List (Int32 × Nat)} (hchk : sn_chk mm ow pc (i, np, a, b, f, x, y, sw) = true)
    (hcal : ∀ m' as V' rc, cal m' as V' = some rc → V'.1 <+: rc.2.1 ∧ (rc.2.1 <+: E.2.1 → sn_Met E l d m' as V' rc))
    (hkm : ∀ s', k s' = some r → s'.2.2.2.1 <+: r.2.1) (hr : r.2.1 <+: E.2.1) (hroom : r.2.1.length ≤ n0 + R.cells ∧ sn_tt r.2.1 ≤ t0 + R.slots)
    (IH : ∀ s' : pm_S, k s' = some r → sn_Go E p l e R s m args below meth c (pm_mx mm) n0 t0 Q s'.1 s'.2.1 s'.2.2.1 s'.2.2.2)
    (fin : (i = .ireturn ∨ i = .lreturn ∨ i = .areturn ∨ i = .return_) → ∀ bb, pm_ins E.2.2.2.2.2.1 i np a b f x y sw ls st V = (bb, Sum.inr (Sum.inr r)) → bb = true → sn_Go E p l e R s m args below meth c (pm_mx mm) n0 t0 Q pc ls st V)
    (hev : pm_ev cal k (pm_ins E.2.2.2.2.2.1 i np a b f x y sw ls st V) = some r) : sn_Go E p l e R s m args below meth c (pm_mx mm) n0 t0 Q pc ls st V := by
  obtain ⟨hx, hb, hml, hown, hts, hK, hXs, hz, hmn, hf1, hf2⟩ := C
  have hz' : E.1 ≤ s.heap.size := by omega
  cases i
  case iconst n =>
    have hc : (sn_de mm pc (.iconst n) np 1 && decide (Int32.ofInt n = x)) = true := hchk
    simp only [Bool.and_eq_true] at hc
    obtain ⟨hc0, hc1⟩ := hc
    obtain ⟨hd, rfl⟩ := sn_de_ok hc0
    exact sn_iconst hx hb hd (of_decide_eq_true hc1) (IH (pc + 1, ls, vi x :: st, V) hev)
  case bipush n =>
    have hc : (sn_de mm pc (.bipush n) np 2 && decide ((Int8.ofInt n).toInt32 = x)) = true := hchk
    simp only [Bool.and_eq_true] at hc
    obtain ⟨hc0, hc1⟩ := hc
    obtain ⟨hd, rfl⟩ := sn_de_ok hc0
    exact sn_bipush hx hb hd (of_decide_eq_true hc1) (IH (pc + 2, ls, vi x :: st, V) hev)
  case sipush n =>
    have hc : (sn_de mm pc (.sipush n) np 3 && decide ((Int16.ofInt n).toInt32 = x)) = true := hchk
    simp only [Bool.and_eq_true] at hc
    obtain ⟨hc0, hc1⟩ := hc
    obtain ⟨hd, rfl⟩ := sn_de_ok hc0
    exact sn_sipush hx hb hd (of_decide_eq_true hc1) (IH (pc + 3, ls, vi x :: st, V) hev)
  case lconst n =>
    have hc : (sn_de mm pc (.lconst n) np 1 && decide (Int64.ofNat (n : Nat) = y)) = true := hchk
    simp only [Bool.and_eq_true] at hc
    obtain ⟨hc0, hc1⟩ := hc
    obtain ⟨hd, rfl⟩ := sn_de_ok hc0
    exact sn_lconst hx hb hd (of_decide_eq_true hc1) (IH (pc + 1, ls, vl y :: st, V) hev)
  case ldc_w n =>
    have hc : (sn_de mm pc (.ldc_w n) np 3 && sn_ci.contains (ow, n, x)) = true := hchk
    simp only [Bool.and_eq_true] at hc
    obtain ⟨hc0, hc1⟩ := hc
    obtain ⟨hd, rfl⟩ := sn_de_ok hc0
    exact sn_ldcw hx hb hown (hts _ (sn_ci_ok _ (List.contains_iff_mem.mp hc1))) hd (IH (pc + 3, ls, vi x :: st, V) hev)
  case ldc2_w n =>
    have hc : (sn_de mm pc (.ldc2_w n) np 3 && sn_cl.contains (ow, n, y)) = true := hchk
    simp only [Bool.and_eq_true] at hc
    obtain ⟨hc0, hc1⟩ := hc
    obtain ⟨hd, rfl⟩ := sn_de_ok hc0
    exact sn_ldc2 hx hb hown (hts _ (sn_cl_ok _ (List.contains_iff_mem.mp hc1))) hd (IH (pc + 3, ls, vl y :: st, V) hev)
  case ldc n =>
    have hc : (sn_de mm pc (.ldc n) np 2 && cond (Nat.beq a 0) (sn_ci.contains (ow, n, x)) (Nat.ble 911 a && Nat.ble a 917 && Nat.beq ow 5 && Nat.beq n (sn_tx (a - 911)).1)) = true := hchk
    simp only [Bool.and_eq_true] at hc
    obtain ⟨hc0, hc1⟩ := hc
    obtain ⟨hd, rfl⟩ := sn_de_ok hc0
    have hev : pm_ev cal k (cond (Nat.beq a 0) (pm_nx (pc + 2, ls, vi x :: st, V)) (pm_nx (pc + 2, ls, vr a :: st, V))) = some r := hev
    cases h0 : Nat.beq a 0 with
    | true =>
      rw [h0] at hc1 hev
      exact sn_ldc hx hb hown (hts _ (sn_ci_ok _ (List.contains_iff_mem.mp hc1))) hd (IH (pc + 2, ls, vi x :: st, V) hev)
    | false =>
      rw [h0] at hc1 hev
      simp only [cond_false, Bool.and_eq_true, Nat.ble_eq, Nat.beq_eq] at hc1
      obtain ⟨⟨⟨g1, g2⟩, g3⟩, g4⟩ := hc1
      obtain ⟨j, rfl⟩ : ∃ j, a = 911 + j := ⟨a - 911, by omega⟩
      rw [Nat.add_sub_cancel_left] at g4
      subst g3
      exact sn_ldcS hx hb hXs (by omega) hown g4 hd (IH (pc + 2, ls, vr (911 + j) :: st, V) hev)
  case iload n =>
    have hc : (sn_de mm pc (.iload n) np 2 && Nat.beq n a) = true := hchk
    simp only [Bool.and_eq_true] at hc
    obtain ⟨hc0, hc1⟩ := hc
    obtain ⟨hd, rfl⟩ := sn_de_ok hc0
    have hna := Nat.eq_of_beq_eq_true hc1
    subst hna
    have hev : pm_ev cal k (match pm_get ls n with | some (Sum.inl z) => pm_nx (pc + 2, ls, vi z :: st, V) | _ => pm_no) = some r := hev
    split at hev
    · rename_i z hz0
      exact sn_iload hx hb hd hz0 (IH (pc + 2, ls, vi z :: st, V) hev)
    · exact (sn_nn hev).elim
  case iload_n n =>
    have hc : (sn_de mm pc (.iload_n n) np 1 && Nat.beq n.val a) = true := hchk
    simp only [Bool.and_eq_true] at hc
    obtain ⟨hc0, hc1⟩ := hc
    obtain ⟨hd, rfl⟩ := sn_de_ok hc0
    have hna := Nat.eq_of_beq_eq_true hc1
    have hev : pm_ev cal k (match pm_get ls a with | some (Sum.inl z) => pm_nx (pc + 1, ls, vi z :: st, V) | _ => pm_no) = some r := hev
    split at hev
    · rename_i z hz0
      exact sn_iload_n hx hb hd hna hz0 (IH (pc + 1, ls, vi z :: st, V) hev)
    · exact (sn_nn hev).elim
  case lload n =>
    have hc : (sn_de mm pc (.lload n) np 2 && Nat.beq n a) = true := hchk
    simp only [Bool.and_eq_true] at hc
    obtain ⟨hc0, hc1⟩ := hc
    obtain ⟨hd, rfl⟩ := sn_de_ok hc0
    have hna := Nat.eq_of_beq_eq_true hc1
    subst hna
    have hev : pm_ev cal k (match pm_get ls n with | some (Sum.inr (Sum.inl z)) => pm_nx (pc + 2, ls, vl z :: st, V) | _ => pm_no) = some r := hev
    split at hev
    · rename_i z hz0
      exact sn_lload hx hb hd hz0 (IH (pc + 2, ls, vl z :: st, V) hev)
    · exact (sn_nn hev).elim
  case lload_n n =>
    have hc : (sn_de mm pc (.lload_n n) np 1 && Nat.beq n.val a) = true := hchk
    simp only [Bool.and_eq_true] at hc
    obtain ⟨hc0, hc1⟩ := hc
    obtain ⟨hd, rfl⟩ := sn_de_ok hc0
    have hna := Nat.eq_of_beq_eq_true hc1
    have hev : pm_ev cal k (match pm_get ls a with | some (Sum.inr (Sum.inl z)) => pm_nx (pc + 1, ls, vl z :: st, V) | _ => pm_no) = some r := hev
    split at hev
    · rename_i z hz0
      exact sn_lload_n hx hb hd hna hz0 (IH (pc + 1, ls, vl z :: st, V) hev)
    · exact (sn_nn hev).elim
  case aload n =>
    have hc : (sn_de mm pc (.aload n) np 2 && Nat.beq n a) = true := hchk
    simp only [Bool.and_eq_true] at hc
    obtain ⟨hc0, hc1⟩ := hc
    obtain ⟨hd, rfl⟩ := sn_de_ok hc0
    have hna := Nat.eq_of_beq_eq_true hc1
    subst hna
    have hev : pm_ev cal k (match pm_get ls n with | some (Sum.inr (Sum.inr z)) => pm_nx (pc + 2, ls, vr z :: st, V) | _ => pm_no) = some r := hev
    split at hev
    · rename_i z hz0
      exact sn_aload hx hb hd hz0 (IH (pc + 2, ls, vr z :: st, V) hev)
    · exact (sn_nn hev).elim
  case aload_n n =>
    have hc : (sn_de mm pc (.aload_n n) np 1 && Nat.beq n.val a) = true := hchk
    simp only [Bool.and_eq_true] at hc
    obtain ⟨hc0, hc1⟩ := hc
    obtain ⟨hd, rfl⟩ := sn_de_ok hc0
    have hna := Nat.eq_of_beq_eq_true hc1
    have hev : pm_ev cal k (match pm_get ls a with | some (Sum.inr (Sum.inr z)) => pm_nx (pc + 1, ls, vr z :: st, V) | _ => pm_no) = some r := hev
    split at hev
    · rename_i z hz0
      exact sn_aload_n hx hb hd hna hz0 (IH (pc + 1, ls, vr z :: st, V) hev)
    · exact (sn_nn hev).elim
  case istore n =>
    have hc : (sn_de mm pc (.istore n) np 2 && Nat.beq n a && Nat.ble (a + 1) (pm_mx mm)) = true := hchk
    simp only [Bool.and_eq_true] at hc
    obtain ⟨⟨hc0, hc1⟩, hc2⟩ := hc
    obtain ⟨hd, rfl⟩ := sn_de_ok hc0
    have hna := Nat.eq_of_beq_eq_true hc1
    subst hna
    rcases st with _ | ⟨w, st⟩
    · exact (sn_nn hev).elim
    rcases w with z | z | z
    · exact sn_istore hx hb hd (Nat.le_of_ble_eq_true hc2) (IH (pc + 2, pm_sto ls n (vi z), st, V) hev)
    · exact (sn_nn hev).elim
    · exact (sn_nn hev).elim
  case istore_n n =>
    have hc : (sn_de mm pc (.istore_n n) np 1 && Nat.beq n.val a && Nat.ble (a + 1) (pm_mx mm)) = true := hchk
    simp only [Bool.and_eq_true] at hc
    obtain ⟨⟨hc0, hc1⟩, hc2⟩ := hc
    obtain ⟨hd, rfl⟩ := sn_de_ok hc0
    have hna := Nat.eq_of_beq_eq_true hc1
    rcases st with _ | ⟨w, st⟩
    · exact (sn_nn hev).elim
    rcases w with z | z | z
    · exact sn_istore_n hx hb hd hna (Nat.le_of_ble_eq_true hc2) (IH (pc + 1, pm_sto ls a (vi z), st, V) hev)
    · exact (sn_nn hev).elim
    · exact (sn_nn hev).elim
  case astore n =>
    have hc : (sn_de mm pc (.astore n) np 2 && Nat.beq n a && Nat.ble (a + 1) (pm_mx mm)) = true := hchk
    simp only [Bool.and_eq_true] at hc
    obtain ⟨⟨hc0, hc1⟩, hc2⟩ := hc
    obtain ⟨hd, rfl⟩ := sn_de_ok hc0
    have hna := Nat.eq_of_beq_eq_true hc1
    subst hna
    rcases st with _ | ⟨w, st⟩
    · exact (sn_nn hev).elim
    rcases w with z | z | z
    · exact (sn_nn hev).elim
    · exact (sn_nn hev).elim
    · exact sn_astore hx hb hd (Nat.le_of_ble_eq_true hc2) (IH (pc + 2, pm_sto ls n (vr z), st, V) hev)
  case astore_n n =>
    have hc : (sn_de mm pc (.astore_n n) np 1 && Nat.beq n.val a && Nat.ble (a + 1) (pm_mx mm)) = true := hchk
    simp only [Bool.and_eq_true] at hc
    obtain ⟨⟨hc0, hc1⟩, hc2⟩ := hc
    obtain ⟨hd, rfl⟩ := sn_de_ok hc0
    have hna := Nat.eq_of_beq_eq_true hc1
    rcases st with _ | ⟨w, st⟩
    · exact (sn_nn hev).elim
    rcases w with z | z | z
    · exact (sn_nn hev).elim
    · exact (sn_nn hev).elim
    · exact sn_astore_n hx hb hd hna (Nat.le_of_ble_eq_true hc2) (IH (pc + 1, pm_sto ls a (vr z), st, V) hev)
  case lstore n =>
    have hc : (sn_de mm pc (.lstore n) np 2 && Nat.beq n a && Nat.ble (a + 2) (pm_mx mm)) = true := hchk
    simp only [Bool.and_eq_true] at hc
    obtain ⟨⟨hc0, hc1⟩, hc2⟩ := hc
    obtain ⟨hd, rfl⟩ := sn_de_ok hc0
    have hna := Nat.eq_of_beq_eq_true hc1
    subst hna
    rcases st with _ | ⟨w, st⟩
    · exact (sn_nn hev).elim
    rcases w with z | z | z
    · exact (sn_nn hev).elim
    · exact sn_lstore hx hb hd (Nat.le_of_ble_eq_true hc2) (IH (pc + 2, pm_kil (pm_sto ls n (vl z)) (n + 1), st, V) hev)
    · exact (sn_nn hev).elim
  case lstore_n n =>
    have hc : (sn_de mm pc (.lstore_n n) np 1 && Nat.beq n.val a && Nat.ble (a + 2) (pm_mx mm)) = true := hchk
    simp only [Bool.and_eq_true] at hc
    obtain ⟨⟨hc0, hc1⟩, hc2⟩ := hc
    obtain ⟨hd, rfl⟩ := sn_de_ok hc0
    have hna := Nat.eq_of_beq_eq_true hc1
    rcases st with _ | ⟨w, st⟩
    · exact (sn_nn hev).elim
    rcases w with z | z | z
    · exact (sn_nn hev).elim
    · exact sn_lstore_n hx hb hd hna (Nat.le_of_ble_eq_true hc2) (IH (pc + 1, pm_kil (pm_sto ls a (vl z)) (a + 1), st, V) hev)
    · exact (sn_nn hev).elim
  case iinc n w =>
    have hc : (sn_de mm pc (.iinc n w) np 3 && Nat.beq n a && decide (Int32.ofInt w = x) && Nat.ble (a + 1) (pm_mx mm)) = true := hchk
    simp only [Bool.and_eq_true] at hc
    obtain ⟨⟨⟨hc0, hc1⟩, hc2⟩, hc3⟩ := hc
    obtain ⟨hd, rfl⟩ := sn_de_ok hc0
    have hna := Nat.eq_of_beq_eq_true hc1
    subst hna
    have hev : pm_ev cal k (match pm_get ls n with | some (Sum.inl z) => pm_nx (pc + 3, pm_sto ls n (vi (z + x)), st, V) | _ => pm_no) = some r := hev
    split at hev
    · rename_i z hz0
      exact sn_iinc hx hb hd (of_decide_eq_true hc2) hz0 (Nat.le_of_ble_eq_true hc3) (IH (pc + 3, pm_sto ls n (vi (z + x)), st, V) hev)
    · exact (sn_nn hev).elim
  case iadd =>
    obtain ⟨hd, rfl⟩ := sn_de_ok (show sn_de mm pc (.iadd) np 1 = true from hchk)
    rcases st with _ | ⟨w, st⟩
    · exact (sn_nn hev).elim
    rcases w with v | v | v
    · rcases st with _ | ⟨w, st⟩
      · exact (sn_nn hev).elim
      rcases w with u | u | u
      · exact sn_iadd hx hb hd (IH (pc + 1, ls, vi (u + v) :: st, V) hev)
      · exact (sn_nn hev).elim
      · exact (sn_nn hev).elim
    · exact (sn_nn hev).elim
    · exact (sn_nn hev).elim
  case isub =>
    obtain ⟨hd, rfl⟩ := sn_de_ok (show sn_de mm pc (.isub) np 1 = true from hchk)
    rcases st with _ | ⟨w, st⟩
    · exact (sn_nn hev).elim
    rcases w with v | v | v
    · rcases st with _ | ⟨w, st⟩
      · exact (sn_nn hev).elim
      rcases w with u | u | u
      · exact sn_isub hx hb hd (IH (pc + 1, ls, vi (u - v) :: st, V) hev)
      · exact (sn_nn hev).elim
      · exact (sn_nn hev).elim
    · exact (sn_nn hev).elim
    · exact (sn_nn hev).elim
  case imul =>
    obtain ⟨hd, rfl⟩ := sn_de_ok (show sn_de mm pc (.imul) np 1 = true from hchk)
    rcases st with _ | ⟨w, st⟩
    · exact (sn_nn hev).elim
    rcases w with v | v | v
    · rcases st with _ | ⟨w, st⟩
      · exact (sn_nn hev).elim
      rcases w with u | u | u
      · exact sn_imul hx hb hd (IH (pc + 1, ls, vi (u * v) :: st, V) hev)
      · exact (sn_nn hev).elim
      · exact (sn_nn hev).elim
    · exact (sn_nn hev).elim
    · exact (sn_nn hev).elim
  case iand =>
    obtain ⟨hd, rfl⟩ := sn_de_ok (show sn_de mm pc (.iand) np 1 = true from hchk)
    rcases st with _ | ⟨w, st⟩
    · exact (sn_nn hev).elim
    rcases w with v | v | v
    · rcases st with _ | ⟨w, st⟩
      · exact (sn_nn hev).elim
      rcases w with u | u | u
      · exact sn_iand hx hb hd (IH (pc + 1, ls, vi (u &&& v) :: st, V) hev)
      · exact (sn_nn hev).elim
      · exact (sn_nn hev).elim
    · exact (sn_nn hev).elim
    · exact (sn_nn hev).elim
  case ior =>
    obtain ⟨hd, rfl⟩ := sn_de_ok (show sn_de mm pc (.ior) np 1 = true from hchk)
    rcases st with _ | ⟨w, st⟩
    · exact (sn_nn hev).elim
    rcases w with v | v | v
    · rcases st with _ | ⟨w, st⟩
      · exact (sn_nn hev).elim
      rcases w with u | u | u
      · exact sn_ior hx hb hd (IH (pc + 1, ls, vi (u ||| v) :: st, V) hev)
      · exact (sn_nn hev).elim
      · exact (sn_nn hev).elim
    · exact (sn_nn hev).elim
    · exact (sn_nn hev).elim
  case ixor =>
    obtain ⟨hd, rfl⟩ := sn_de_ok (show sn_de mm pc (.ixor) np 1 = true from hchk)
    rcases st with _ | ⟨w, st⟩
    · exact (sn_nn hev).elim
    rcases w with v | v | v
    · rcases st with _ | ⟨w, st⟩
      · exact (sn_nn hev).elim
      rcases w with u | u | u
      · exact sn_ixor hx hb hd (IH (pc + 1, ls, vi (u ^^^ v) :: st, V) hev)
      · exact (sn_nn hev).elim
      · exact (sn_nn hev).elim
    · exact (sn_nn hev).elim
    · exact (sn_nn hev).elim
  case ishl =>
    obtain ⟨hd, rfl⟩ := sn_de_ok (show sn_de mm pc (.ishl) np 1 = true from hchk)
    rcases st with _ | ⟨w, st⟩
    · exact (sn_nn hev).elim
    rcases w with v | v | v
    · rcases st with _ | ⟨w, st⟩
      · exact (sn_nn hev).elim
      rcases w with u | u | u
      · exact sn_ishl hx hb hd (IH (pc + 1, ls, vi (u <<< (v &&& 31)) :: st, V) hev)
      · exact (sn_nn hev).elim
      · exact (sn_nn hev).elim
    · exact (sn_nn hev).elim
    · exact (sn_nn hev).elim
  case ishr =>
    obtain ⟨hd, rfl⟩ := sn_de_ok (show sn_de mm pc (.ishr) np 1 = true from hchk)
    rcases st with _ | ⟨w, st⟩
    · exact (sn_nn hev).elim
    rcases w with v | v | v
    · rcases st with _ | ⟨w, st⟩
      · exact (sn_nn hev).elim
      rcases w with u | u | u
      · exact sn_ishr hx hb hd (IH (pc + 1, ls, vi (u >>> (v &&& 31)) :: st, V) hev)
      · exact (sn_nn hev).elim
      · exact (sn_nn hev).elim
    · exact (sn_nn hev).elim
    · exact (sn_nn hev).elim
  case iushr =>
    obtain ⟨hd, rfl⟩ := sn_de_ok (show sn_de mm pc (.iushr) np 1 = true from hchk)
    rcases st with _ | ⟨w, st⟩
    · exact (sn_nn hev).elim
    rcases w with v | v | v
    · rcases st with _ | ⟨w, st⟩
      · exact (sn_nn hev).elim
      rcases w with u | u | u
      · exact sn_iushr hx hb hd (IH (pc + 1, ls, vi (pm_ush u v) :: st, V) hev)
      · exact (sn_nn hev).elim
      · exact (sn_nn hev).elim
    · exact (sn_nn hev).elim
    · exact (sn_nn hev).elim
  case idiv =>
    obtain ⟨hd, rfl⟩ := sn_de_ok (show sn_de mm pc (.idiv) np 1 = true from hchk)
    rcases st with _ | ⟨w, st⟩
    · exact (sn_nn hev).elim
    rcases w with v | v | v
    · rcases st with _ | ⟨w, st⟩
      · exact (sn_nn hev).elim
      rcases w with u | u | u
      · obtain ⟨hg, hk⟩ := sn_evg (b := !(decide (v = 0))) (s' := (pc + 1, ls, vi (u / v) :: st, V)) hev
        exact sn_idiv hx hb hd (by simpa using hg) (IH (pc + 1, ls, vi (u / v) :: st, V) hk)
      · exact (sn_nn hev).elim
      · exact (sn_nn hev).elim
    · exact (sn_nn hev).elim
    · exact (sn_nn hev).elim
  case irem =>
    obtain ⟨hd, rfl⟩ := sn_de_ok (show sn_de mm pc (.irem) np 1 = true from hchk)
    rcases st with _ | ⟨w, st⟩
    · exact (sn_nn hev).elim
    rcases w with v | v | v
    · rcases st with _ | ⟨w, st⟩
      · exact (sn_nn hev).elim
      rcases w with u | u | u
      · obtain ⟨hg, hk⟩ := sn_evg (b := !(decide (v = 0))) (s' := (pc + 1, ls, vi (u - u / v * v) :: st, V)) hev
        exact sn_irem hx hb hd (by simpa using hg) (IH (pc + 1, ls, vi (u - u / v * v) :: st, V) hk)
      · exact (sn_nn hev).elim
      · exact (sn_nn hev).elim
    · exact (sn_nn hev).elim
    · exact (sn_nn hev).elim
  case ldiv =>
    obtain ⟨hd, rfl⟩ := sn_de_ok (show sn_de mm pc (.ldiv) np 1 = true from hchk)
    rcases st with _ | ⟨w, st⟩
    · exact (sn_nn hev).elim
    rcases w with v | v | v
    · exact (sn_nn hev).elim
    · rcases st with _ | ⟨w, st⟩
      · exact (sn_nn hev).elim
      rcases w with u | u | u
      · exact (sn_nn hev).elim
      · obtain ⟨hg, hk⟩ := sn_evg (b := !(decide (v = 0))) (s' := (pc + 1, ls, vl (u / v) :: st, V)) hev
        exact sn_ldiv hx hb hd (by simpa using hg) (IH (pc + 1, ls, vl (u / v) :: st, V) hk)
      · exact (sn_nn hev).elim
    · exact (sn_nn hev).elim
  case lrem =>
    obtain ⟨hd, rfl⟩ := sn_de_ok (show sn_de mm pc (.lrem) np 1 = true from hchk)
    rcases st with _ | ⟨w, st⟩
    · exact (sn_nn hev).elim
    rcases w with v | v | v
    · exact (sn_nn hev).elim
    · rcases st with _ | ⟨w, st⟩
      · exact (sn_nn hev).elim
      rcases w with u | u | u
      · exact (sn_nn hev).elim
      · obtain ⟨hg, hk⟩ := sn_evg (b := !(decide (v = 0))) (s' := (pc + 1, ls, vl (u - u / v * v) :: st, V)) hev
        exact sn_lrem hx hb hd (by simpa using hg) (IH (pc + 1, ls, vl (u - u / v * v) :: st, V) hk)
      · exact (sn_nn hev).elim
    · exact (sn_nn hev).elim
  case ladd =>
    obtain ⟨hd, rfl⟩ := sn_de_ok (show sn_de mm pc (.ladd) np 1 = true from hchk)
    rcases st with _ | ⟨w, st⟩
    · exact (sn_nn hev).elim
    rcases w with v | v | v
    · exact (sn_nn hev).elim
    · rcases st with _ | ⟨w, st⟩
      · exact (sn_nn hev).elim
      rcases w with u | u | u
      · exact (sn_nn hev).elim
      · exact sn_ladd hx hb hd (IH (pc + 1, ls, vl (u + v) :: st, V) hev)
      · exact (sn_nn hev).elim
    · exact (sn_nn hev).elim
  case lsub =>
    obtain ⟨hd, rfl⟩ := sn_de_ok (show sn_de mm pc (.lsub) np 1 = true from hchk)
    rcases st with _ | ⟨w, st⟩
    · exact (sn_nn hev).elim
    rcases w with v | v | v
    · exact (sn_nn hev).elim
    · rcases st with _ | ⟨w, st⟩
      · exact (sn_nn hev).elim
      rcases w with u | u | u
      · exact (sn_nn hev).elim
      · exact sn_lsub hx hb hd (IH (pc + 1, ls, vl (u - v) :: st, V) hev)
      · exact (sn_nn hev).elim
    · exact (sn_nn hev).elim
  case lmul =>
    obtain ⟨hd, rfl⟩ := sn_de_ok (show sn_de mm pc (.lmul) np 1 = true from hchk)
    rcases st with _ | ⟨w, st⟩
    · exact (sn_nn hev).elim
    rcases w with v | v | v
    · exact (sn_nn hev).elim
    · rcases st with _ | ⟨w, st⟩
      · exact (sn_nn hev).elim
      rcases w with u | u | u
      · exact (sn_nn hev).elim
      · exact sn_lmul hx hb hd (IH (pc + 1, ls, vl (u * v) :: st, V) hev)
      · exact (sn_nn hev).elim
    · exact (sn_nn hev).elim
  case land =>
    obtain ⟨hd, rfl⟩ := sn_de_ok (show sn_de mm pc (.land) np 1 = true from hchk)
    rcases st with _ | ⟨w, st⟩
    · exact (sn_nn hev).elim
    rcases w with v | v | v
    · exact (sn_nn hev).elim
    · rcases st with _ | ⟨w, st⟩
      · exact (sn_nn hev).elim
      rcases w with u | u | u
      · exact (sn_nn hev).elim
      · exact sn_land hx hb hd (IH (pc + 1, ls, vl (u &&& v) :: st, V) hev)
      · exact (sn_nn hev).elim
    · exact (sn_nn hev).elim
  case lor =>
    obtain ⟨hd, rfl⟩ := sn_de_ok (show sn_de mm pc (.lor) np 1 = true from hchk)
    rcases st with _ | ⟨w, st⟩
    · exact (sn_nn hev).elim
    rcases w with v | v | v
    · exact (sn_nn hev).elim
    · rcases st with _ | ⟨w, st⟩
      · exact (sn_nn hev).elim
      rcases w with u | u | u
      · exact (sn_nn hev).elim
      · exact sn_lor hx hb hd (IH (pc + 1, ls, vl (u ||| v) :: st, V) hev)
      · exact (sn_nn hev).elim
    · exact (sn_nn hev).elim
  case ineg =>
    obtain ⟨hd, rfl⟩ := sn_de_ok (show sn_de mm pc (.ineg) np 1 = true from hchk)
    rcases st with _ | ⟨w, st⟩
    · exact (sn_nn hev).elim
    rcases w with u | u | u
    · exact sn_ineg hx hb hd (IH (pc + 1, ls, vi (-u) :: st, V) hev)
    · exact (sn_nn hev).elim
    · exact (sn_nn hev).elim
  case lneg =>
    obtain ⟨hd, rfl⟩ := sn_de_ok (show sn_de mm pc (.lneg) np 1 = true from hchk)
    rcases st with _ | ⟨w, st⟩
    · exact (sn_nn hev).elim
    rcases w with u | u | u
    · exact (sn_nn hev).elim
    · exact sn_lneg hx hb hd (IH (pc + 1, ls, vl (-u) :: st, V) hev)
    · exact (sn_nn hev).elim
  case i2b =>
    obtain ⟨hd, rfl⟩ := sn_de_ok (show sn_de mm pc (.i2b) np 1 = true from hchk)
    rcases st with _ | ⟨w, st⟩
    · exact (sn_nn hev).elim
    rcases w with u | u | u
    · exact sn_i2b hx hb hd (IH (pc + 1, ls, vi (pm_ib u) :: st, V) hev)
    · exact (sn_nn hev).elim
    · exact (sn_nn hev).elim
  case i2l =>
    obtain ⟨hd, rfl⟩ := sn_de_ok (show sn_de mm pc (.i2l) np 1 = true from hchk)
    rcases st with _ | ⟨w, st⟩
    · exact (sn_nn hev).elim
    rcases w with u | u | u
    · exact sn_i2l hx hb hd (IH (pc + 1, ls, vl u.toInt64 :: st, V) hev)
    · exact (sn_nn hev).elim
    · exact (sn_nn hev).elim
  case l2i =>
    obtain ⟨hd, rfl⟩ := sn_de_ok (show sn_de mm pc (.l2i) np 1 = true from hchk)
    rcases st with _ | ⟨w, st⟩
    · exact (sn_nn hev).elim
    rcases w with u | u | u
    · exact (sn_nn hev).elim
    · exact sn_l2i hx hb hd (IH (pc + 1, ls, vi u.toInt32 :: st, V) hev)
    · exact (sn_nn hev).elim
  case lshl =>
    obtain ⟨hd, rfl⟩ := sn_de_ok (show sn_de mm pc (.lshl) np 1 = true from hchk)
    rcases st with _ | ⟨w, st⟩
    · exact (sn_nn hev).elim
    rcases w with v | v | v
    · rcases st with _ | ⟨w, st⟩
      · exact (sn_nn hev).elim
      rcases w with u | u | u
      · exact (sn_nn hev).elim
      · exact sn_lshl hx hb hd (IH (pc + 1, ls, vl (u <<< (v.toInt64 &&& 63)) :: st, V) hev)
      · exact (sn_nn hev).elim
    · exact (sn_nn hev).elim
    · exact (sn_nn hev).elim
  case lshr =>
    obtain ⟨hd, rfl⟩ := sn_de_ok (show sn_de mm pc (.lshr) np 1 = true from hchk)
    rcases st with _ | ⟨w, st⟩
    · exact (sn_nn hev).elim
    rcases w with v | v | v
    · rcases st with _ | ⟨w, st⟩
      · exact (sn_nn hev).elim
      rcases w with u | u | u
      · exact (sn_nn hev).elim
      · exact sn_lshr hx hb hd (IH (pc + 1, ls, vl (u >>> (v.toInt64 &&& 63)) :: st, V) hev)
      · exact (sn_nn hev).elim
    · exact (sn_nn hev).elim
    · exact (sn_nn hev).elim
  case lcmp =>
    obtain ⟨hd, rfl⟩ := sn_de_ok (show sn_de mm pc (.lcmp) np 1 = true from hchk)
    rcases st with _ | ⟨w, st⟩
    · exact (sn_nn hev).elim
    rcases w with v | v | v
    · exact (sn_nn hev).elim
    · rcases st with _ | ⟨w, st⟩
      · exact (sn_nn hev).elim
      rcases w with u | u | u
      · exact (sn_nn hev).elim
      · exact sn_lcmp hx hb hd (IH (pc + 1, ls, vi (lg_cmp u v) :: st, V) hev)
      · exact (sn_nn hev).elim
    · exact (sn_nn hev).elim
  case dup =>
    obtain ⟨hd, rfl⟩ := sn_de_ok (show sn_de mm pc (.dup) np 1 = true from hchk)
    rcases st with _ | ⟨w, st⟩
    · exact (sn_nn hev).elim
    rcases w with u | u | u
    · exact sn_dup_i hx hb hd (IH (pc + 1, ls, vi u :: vi u :: st, V) hev)
    · exact (sn_nn hev).elim
    · exact sn_dup_r hx hb hd (IH (pc + 1, ls, vr u :: vr u :: st, V) hev)
  case dup2 =>
    obtain ⟨hd, rfl⟩ := sn_de_ok (show sn_de mm pc (.dup2) np 1 = true from hchk)
    rcases st with _ | ⟨w, st⟩
    · exact (sn_nn hev).elim
    rcases w with v | v | v
    · rcases st with _ | ⟨w, st⟩
      · exact (sn_nn hev).elim
      rcases w with u | u | u
      · exact (sn_nn hev).elim
      · exact (sn_nn hev).elim
      · exact sn_dup2 hx hb hd (IH (pc + 1, ls, vi v :: vr u :: vi v :: vr u :: st, V) hev)
    · exact (sn_nn hev).elim
    · exact (sn_nn hev).elim
  case pop =>
    obtain ⟨hd, rfl⟩ := sn_de_ok (show sn_de mm pc (.pop) np 1 = true from hchk)
    rcases st with _ | ⟨w, st⟩
    · exact (sn_nn hev).elim
    rcases w with v | v | v
    · exact sn_pop hx hb hd (IH (pc + 1, ls, st, V) hev)
    · exact (sn_nn hev).elim
    · exact (sn_nn hev).elim
  case goto w =>
    have hc : (sn_de mm pc (.goto w) np 3 && sn_jp pc a w) = true := hchk
    simp only [Bool.and_eq_true] at hc
    obtain ⟨hc0, hc1⟩ := hc
    obtain ⟨hd, rfl⟩ := sn_de_ok hc0
    exact sn_goto hx hb hd (sn_jp_ok hc1) (IH (a, ls, st, V) hev)
  case ifCond cn w =>
    cases cn
    case eq =>
      have hc : (sn_de mm pc (.ifCond .eq w) np 3 && sn_jp pc a w) = true := hchk
      simp only [Bool.and_eq_true] at hc
      obtain ⟨hc0, hc1⟩ := hc
      obtain ⟨hd, rfl⟩ := sn_de_ok hc0
      rcases st with _ | ⟨w, st⟩
      · exact (sn_nn hev).elim
      rcases w with u | u | u
      · exact sn_if_eq hx hb hd (sn_jp_ok hc1) (fun h => IH (a, ls, st, V) (sn_evb1 (P := u = 0) (s' := (a, ls, st, V)) (t' := (pc + 3, ls, st, V)) hev h)) (fun h => IH (pc + 3, ls, st, V) (sn_evb2 (P := u = 0) (s' := (a, ls, st, V)) (t' := (pc + 3, ls, st, V)) hev h))
      · exact (sn_nn hev).elim
      · exact (sn_nn hev).elim
    case ne =>
      have hc : (sn_de mm pc (.ifCond .ne w) np 3 && sn_jp pc a w) = true := hchk
      simp only [Bool.and_eq_true] at hc
      obtain ⟨hc0, hc1⟩ := hc
      obtain ⟨hd, rfl⟩ := sn_de_ok hc0
      rcases st with _ | ⟨w, st⟩
      · exact (sn_nn hev).elim
      rcases w with u | u | u
      · exact sn_if_ne hx hb hd (sn_jp_ok hc1) (fun h => IH (a, ls, st, V) (sn_evb2 (P := u = 0) (s' := (pc + 3, ls, st, V)) (t' := (a, ls, st, V)) hev h)) (fun h => IH (pc + 3, ls, st, V) (sn_evb1 (P := u = 0) (s' := (pc + 3, ls, st, V)) (t' := (a, ls, st, V)) hev h))
      · exact (sn_nn hev).elim
      · exact (sn_nn hev).elim
    case lt =>
      have hc : (sn_de mm pc (.ifCond .lt w) np 3 && sn_jp pc a w) = true := hchk
      simp only [Bool.and_eq_true] at hc
      obtain ⟨hc0, hc1⟩ := hc
      obtain ⟨hd, rfl⟩ := sn_de_ok hc0
      rcases st with _ | ⟨w, st⟩
      · exact (sn_nn hev).elim
      rcases w with u | u | u
      · exact sn_if_lt hx hb hd (sn_jp_ok hc1) (fun h => IH (a, ls, st, V) (sn_evb1 (P := u < 0) (s' := (a, ls, st, V)) (t' := (pc + 3, ls, st, V)) hev h)) (fun h => IH (pc + 3, ls, st, V) (sn_evb2 (P := u < 0) (s' := (a, ls, st, V)) (t' := (pc + 3, ls, st, V)) hev h))
      · exact (sn_nn hev).elim
      · exact (sn_nn hev).elim
    case ge =>
      have hc : (sn_de mm pc (.ifCond .ge w) np 3 && sn_jp pc a w) = true := hchk
      simp only [Bool.and_eq_true] at hc
      obtain ⟨hc0, hc1⟩ := hc
      obtain ⟨hd, rfl⟩ := sn_de_ok hc0
      rcases st with _ | ⟨w, st⟩
      · exact (sn_nn hev).elim
      rcases w with u | u | u
      · exact sn_if_ge hx hb hd (sn_jp_ok hc1) (fun h => IH (a, ls, st, V) (sn_evb1 (P := 0 ≤ u) (s' := (a, ls, st, V)) (t' := (pc + 3, ls, st, V)) hev h)) (fun h => IH (pc + 3, ls, st, V) (sn_evb2 (P := 0 ≤ u) (s' := (a, ls, st, V)) (t' := (pc + 3, ls, st, V)) hev h))
      · exact (sn_nn hev).elim
      · exact (sn_nn hev).elim
    case gt =>
      have hc : (sn_de mm pc (.ifCond .gt w) np 3 && sn_jp pc a w) = true := hchk
      simp only [Bool.and_eq_true] at hc
      obtain ⟨hc0, hc1⟩ := hc
      obtain ⟨hd, rfl⟩ := sn_de_ok hc0
      rcases st with _ | ⟨w, st⟩
      · exact (sn_nn hev).elim
      rcases w with u | u | u
      · exact sn_if_gt hx hb hd (sn_jp_ok hc1) (fun h => IH (a, ls, st, V) (sn_evb1 (P := 0 < u) (s' := (a, ls, st, V)) (t' := (pc + 3, ls, st, V)) hev h)) (fun h => IH (pc + 3, ls, st, V) (sn_evb2 (P := 0 < u) (s' := (a, ls, st, V)) (t' := (pc + 3, ls, st, V)) hev h))
      · exact (sn_nn hev).elim
      · exact (sn_nn hev).elim
    case le =>
      have hc : (sn_de mm pc (.ifCond .le w) np 3 && sn_jp pc a w) = true := hchk
      simp only [Bool.and_eq_true] at hc
      obtain ⟨hc0, hc1⟩ := hc
      obtain ⟨hd, rfl⟩ := sn_de_ok hc0
      rcases st with _ | ⟨w, st⟩
      · exact (sn_nn hev).elim
      rcases w with u | u | u
      · exact sn_if_le hx hb hd (sn_jp_ok hc1) (fun h => IH (a, ls, st, V) (sn_evb1 (P := u ≤ 0) (s' := (a, ls, st, V)) (t' := (pc + 3, ls, st, V)) hev h)) (fun h => IH (pc + 3, ls, st, V) (sn_evb2 (P := u ≤ 0) (s' := (a, ls, st, V)) (t' := (pc + 3, ls, st, V)) hev h))
      · exact (sn_nn hev).elim
      · exact (sn_nn hev).elim
  case if_icmp cn w =>
    cases cn
    case eq =>
      have hc : (sn_de mm pc (.if_icmp .eq w) np 3 && sn_jp pc a w) = true := hchk
      simp only [Bool.and_eq_true] at hc
      obtain ⟨hc0, hc1⟩ := hc
      obtain ⟨hd, rfl⟩ := sn_de_ok hc0
      rcases st with _ | ⟨w, st⟩
      · exact (sn_nn hev).elim
      rcases w with v | v | v
      · rcases st with _ | ⟨w, st⟩
        · exact (sn_nn hev).elim
        rcases w with u | u | u
        · exact sn_icmp_eq hx hb hd (sn_jp_ok hc1) (fun h => IH (a, ls, st, V) (sn_evb1 (P := u = v) (s' := (a, ls, st, V)) (t' := (pc + 3, ls, st, V)) hev h)) (fun h => IH (pc + 3, ls, st, V) (sn_evb2 (P := u = v) (s' := (a, ls, st, V)) (t' := (pc + 3, ls, st, V)) hev h))
        · exact (sn_nn hev).elim
        · exact (sn_nn hev).elim
      · exact (sn_nn hev).elim
      · exact (sn_nn hev).elim
    case ne =>
      have hc : (sn_de mm pc (.if_icmp .ne w) np 3 && sn_jp pc a w) = true := hchk
      simp only [Bool.and_eq_true] at hc
      obtain ⟨hc0, hc1⟩ := hc
      obtain ⟨hd, rfl⟩ := sn_de_ok hc0
      rcases st with _ | ⟨w, st⟩
      · exact (sn_nn hev).elim
      rcases w with v | v | v
      · rcases st with _ | ⟨w, st⟩
        · exact (sn_nn hev).elim
        rcases w with u | u | u
        · exact sn_icmp_ne hx hb hd (sn_jp_ok hc1) (fun h => IH (a, ls, st, V) (sn_evb2 (P := u = v) (s' := (pc + 3, ls, st, V)) (t' := (a, ls, st, V)) hev h)) (fun h => IH (pc + 3, ls, st, V) (sn_evb1 (P := u = v) (s' := (pc + 3, ls, st, V)) (t' := (a, ls, st, V)) hev h))
        · exact (sn_nn hev).elim
        · exact (sn_nn hev).elim
      · exact (sn_nn hev).elim
      · exact (sn_nn hev).elim
    case lt =>
      have hc : (sn_de mm pc (.if_icmp .lt w) np 3 && sn_jp pc a w) = true := hchk
      simp only [Bool.and_eq_true] at hc
      obtain ⟨hc0, hc1⟩ := hc
      obtain ⟨hd, rfl⟩ := sn_de_ok hc0
      rcases st with _ | ⟨w, st⟩
      · exact (sn_nn hev).elim
      rcases w with v | v | v
      · rcases st with _ | ⟨w, st⟩
        · exact (sn_nn hev).elim
        rcases w with u | u | u
        · exact sn_icmp_lt hx hb hd (sn_jp_ok hc1) (fun h => IH (a, ls, st, V) (sn_evb1 (P := u < v) (s' := (a, ls, st, V)) (t' := (pc + 3, ls, st, V)) hev h)) (fun h => IH (pc + 3, ls, st, V) (sn_evb2 (P := u < v) (s' := (a, ls, st, V)) (t' := (pc + 3, ls, st, V)) hev h))
        · exact (sn_nn hev).elim
        · exact (sn_nn hev).elim
      · exact (sn_nn hev).elim
      · exact (sn_nn hev).elim
    case ge =>
      have hc : (sn_de mm pc (.if_icmp .ge w) np 3 && sn_jp pc a w) = true := hchk
      simp only [Bool.and_eq_true] at hc
      obtain ⟨hc0, hc1⟩ := hc
      obtain ⟨hd, rfl⟩ := sn_de_ok hc0
      rcases st with _ | ⟨w, st⟩
      · exact (sn_nn hev).elim
      rcases w with v | v | v
      · rcases st with _ | ⟨w, st⟩
        · exact (sn_nn hev).elim
        rcases w with u | u | u
        · exact sn_icmp_ge hx hb hd (sn_jp_ok hc1) (fun h => IH (a, ls, st, V) (sn_evb1 (P := v ≤ u) (s' := (a, ls, st, V)) (t' := (pc + 3, ls, st, V)) hev h)) (fun h => IH (pc + 3, ls, st, V) (sn_evb2 (P := v ≤ u) (s' := (a, ls, st, V)) (t' := (pc + 3, ls, st, V)) hev h))
        · exact (sn_nn hev).elim
        · exact (sn_nn hev).elim
      · exact (sn_nn hev).elim
      · exact (sn_nn hev).elim
    case gt =>
      have hc : (sn_de mm pc (.if_icmp .gt w) np 3 && sn_jp pc a w) = true := hchk
      simp only [Bool.and_eq_true] at hc
      obtain ⟨hc0, hc1⟩ := hc
      obtain ⟨hd, rfl⟩ := sn_de_ok hc0
      rcases st with _ | ⟨w, st⟩
      · exact (sn_nn hev).elim
      rcases w with v | v | v
      · rcases st with _ | ⟨w, st⟩
        · exact (sn_nn hev).elim
        rcases w with u | u | u
        · exact sn_icmp_gt hx hb hd (sn_jp_ok hc1) (fun h => IH (a, ls, st, V) (sn_evb1 (P := v < u) (s' := (a, ls, st, V)) (t' := (pc + 3, ls, st, V)) hev h)) (fun h => IH (pc + 3, ls, st, V) (sn_evb2 (P := v < u) (s' := (a, ls, st, V)) (t' := (pc + 3, ls, st, V)) hev h))
        · exact (sn_nn hev).elim
        · exact (sn_nn hev).elim
      · exact (sn_nn hev).elim
      · exact (sn_nn hev).elim
    case le =>
      have hc : (sn_de mm pc (.if_icmp .le w) np 3 && sn_jp pc a w) = true := hchk
      simp only [Bool.and_eq_true] at hc
      obtain ⟨hc0, hc1⟩ := hc
      obtain ⟨hd, rfl⟩ := sn_de_ok hc0
      rcases st with _ | ⟨w, st⟩
      · exact (sn_nn hev).elim
      rcases w with v | v | v
      · rcases st with _ | ⟨w, st⟩
        · exact (sn_nn hev).elim
        rcases w with u | u | u
        · exact sn_icmp_le hx hb hd (sn_jp_ok hc1) (fun h => IH (a, ls, st, V) (sn_evb1 (P := u ≤ v) (s' := (a, ls, st, V)) (t' := (pc + 3, ls, st, V)) hev h)) (fun h => IH (pc + 3, ls, st, V) (sn_evb2 (P := u ≤ v) (s' := (a, ls, st, V)) (t' := (pc + 3, ls, st, V)) hev h))
        · exact (sn_nn hev).elim
        · exact (sn_nn hev).elim
      · exact (sn_nn hev).elim
      · exact (sn_nn hev).elim
  case ifnull w =>
    have hc : (sn_de mm pc (.ifnull w) np 3 && sn_jp pc a w) = true := hchk
    simp only [Bool.and_eq_true] at hc
    obtain ⟨hc0, hc1⟩ := hc
    obtain ⟨hd, rfl⟩ := sn_de_ok hc0
    rcases st with _ | ⟨w, st⟩
    · exact (sn_nn hev).elim
    rcases w with u | u | u
    · exact (sn_nn hev).elim
    · exact (sn_nn hev).elim
    · exact sn_ifnull hx hb hd (sn_jp_ok hc1) (fun h => IH (a, ls, st, V) (sn_evb1 (P := u = 0) (s' := (a, ls, st, V)) (t' := (pc + 3, ls, st, V)) hev h)) (fun h => IH (pc + 3, ls, st, V) (sn_evb2 (P := u = 0) (s' := (a, ls, st, V)) (t' := (pc + 3, ls, st, V)) hev h))
  case ifnonnull w =>
    have hc : (sn_de mm pc (.ifnonnull w) np 3 && sn_jp pc a w) = true := hchk
    simp only [Bool.and_eq_true] at hc
    obtain ⟨hc0, hc1⟩ := hc
    obtain ⟨hd, rfl⟩ := sn_de_ok hc0
    rcases st with _ | ⟨w, st⟩
    · exact (sn_nn hev).elim
    rcases w with u | u | u
    · exact (sn_nn hev).elim
    · exact (sn_nn hev).elim
    · exact sn_ifnonnull hx hb hd (sn_jp_ok hc1) (fun h => IH (a, ls, st, V) (sn_evb2 (P := u = 0) (s' := (pc + 3, ls, st, V)) (t' := (a, ls, st, V)) hev h)) (fun h => IH (pc + 3, ls, st, V) (sn_evb1 (P := u = 0) (s' := (pc + 3, ls, st, V)) (t' := (a, ls, st, V)) hev h))
  case tableswitch df lo hi fs =>
    have hc : (decide (decode (sn_b mm) pc = .ok (.tableswitch df lo hi fs, np - pc)) && sn_jp pc a df && decide (hi + 1 = lo + (fs.size : Int)) && sn_tw pc lo fs.toList sw) = true := hchk
    simp only [Bool.and_eq_true, decide_eq_true_eq] at hc
    obtain ⟨⟨⟨hd, hc1⟩, hc2⟩, hc3⟩ := hc
    rcases st with _ | ⟨w, st⟩
    · exact (sn_nn hev).elim
    rcases w with u | u | u
    · have hev : pm_alts k (pm_sw ls st V u a sw) = some r := hev
      rw [sn_sw_alts] at hev
      obtain ⟨g1, g2⟩ := sn_tw_ok (d := a) (x := u) fs.toList sw lo hc3
      have hln : (fs.toList.length : Int) = (fs.size : Int) := by rw [Array.length_toList]
      refine sn_table hx hb hd (tgt := sn_swt u a sw) ?_ (fun h => by omega) (IH (sn_swt u a sw, ls, st, V) hev)
      by_cases h : u.toInt < lo ∨ hi < u.toInt
      · rw [if_pos h, g1 (by omega)]
        exact sn_jp_ok hc1
      · rw [if_neg h]
        have h2 := g2 (by omega)
        rw [← h2, Array.getD_eq_getD_getElem?, List.getD_eq_getElem?_getD, Array.getElem?_toList]
    · exact (sn_nn hev).elim
    · exact (sn_nn hev).elim
  case lookupswitch df ps =>
    have hc : (decide (decode (sn_b mm) pc = .ok (.lookupswitch df ps, np - pc)) && sn_jp pc a df && (ps.toList.zip (ps.toList.drop 1)).all (fun (a, next) => a.1 < next.1) && sn_lw pc ps.toList sw) = true := hchk
    simp only [Bool.and_eq_true, decide_eq_true_eq] at hc
    obtain ⟨⟨⟨hd, hc1⟩, hc2⟩, hc3⟩ := hc
    rcases st with _ | ⟨w, st⟩
    · exact (sn_nn hev).elim
    rcases w with u | u | u
    · have hev : pm_alts k (pm_sw ls st V u a sw) = some r := hev
      rw [sn_sw_alts] at hev
      exact sn_lookup hx hb hd hc2 (sn_lw_ok (sn_jp_ok hc1) ps.toList sw hc3) (IH (sn_swt u a sw, ls, st, V) hev)
    · exact (sn_nn hev).elim
    · exact (sn_nn hev).elim
  case getfield n =>
    have hc : (sn_de mm pc (.getfield n) np 3 && Nat.ble a 11 && sn_fl.contains (ow, n, a, b) && Nat.beq (pm_ft a b) f) = true := hchk
    simp only [Bool.and_eq_true] at hc
    obtain ⟨⟨⟨hc0, hc1⟩, hc2⟩, hc3⟩ := hc
    obtain ⟨hd, rfl⟩ := sn_de_ok hc0
    obtain ⟨C, T, N, ty0, hcl, huw, htp, hnm, htk, hin, hini, hnf, how⟩ := sn_cls (show a < 12 by have := Nat.le_of_ble_eq_true hc1; omega)
    have ha12 : a < 12 := by have := Nat.le_of_ble_eq_true hc1; omega
    obtain ⟨hkN, hlk⟩ := sn_fl_ok _ (List.contains_iff_mem.mp hc2) C T N hcl
    have hft := Nat.eq_of_beq_eq_true hc3
    rcases st with _ | ⟨w, st⟩
    · exact (sn_nn hev).elim
    rcases w with q | q | q
    · exact (sn_nn hev).elim
    · exact (sn_nn hev).elim
    · rcases (htk b hkN).2 with ⟨h0, -⟩ | ⟨h0, -⟩ | ⟨h0, -⟩ | ⟨h0, -, -⟩
      · rw [h0] at hft
        subst hft
        obtain ⟨hg, hk⟩ := sn_evg (b := pm_is V q (10 + a)) (s' := (pc + 3, ls, vi (V.2.2.2.1 q b) :: st, V)) hev
        exact sn_getf (v := vi (V.2.2.2.1 q b)) hx hb hts huw hown hK hcl hkN (htk b hkN).1 (hts _ hlk) hg (by omega) ((sn_kdN (sn_is hg).2 ha12).trans hnf) (by unfold sn_fv; rw [h0]; rfl) hd (IH (pc + 3, ls, vi (V.2.2.2.1 q b) :: st, V) hk)
      · rw [h0] at hft
        subst hft
        obtain ⟨hg, hk⟩ := sn_evg (b := pm_is V q (10 + a)) (s' := (pc + 3, ls, vi (V.2.2.2.1 q b) :: st, V)) hev
        exact sn_getf (v := vi (V.2.2.2.1 q b)) hx hb hts huw hown hK hcl hkN (htk b hkN).1 (hts _ hlk) hg (by omega) ((sn_kdN (sn_is hg).2 ha12).trans hnf) (by unfold sn_fv; rw [h0]; rfl) hd (IH (pc + 3, ls, vi (V.2.2.2.1 q b) :: st, V) hk)
      · rw [h0] at hft
        subst hft
        obtain ⟨hg, hk⟩ := sn_evg (b := pm_is V q (10 + a)) (s' := (pc + 3, ls, vl (V.2.2.2.2 q b) :: st, V)) hev
        exact sn_getf (v := vl (V.2.2.2.2 q b)) hx hb hts huw hown hK hcl hkN (htk b hkN).1 (hts _ hlk) hg (by omega) ((sn_kdN (sn_is hg).2 ha12).trans hnf) (by unfold sn_fv; rw [h0]; rfl) hd (IH (pc + 3, ls, vl (V.2.2.2.2 q b) :: st, V) hk)
      · rw [h0] at hft
        subst hft
        obtain ⟨hg, hk⟩ := sn_evg (b := pm_is V q (10 + a)) (s' := (pc + 3, ls, vr (V.2.2.1 q b) :: st, V)) hev
        exact sn_getf (v := vr (V.2.2.1 q b)) hx hb hts huw hown hK hcl hkN (htk b hkN).1 (hts _ hlk) hg (by omega) ((sn_kdN (sn_is hg).2 ha12).trans hnf) (by unfold sn_fv; rw [h0]; rfl) hd (IH (pc + 3, ls, vr (V.2.2.1 q b) :: st, V) hk)
  case putfield n =>
    have hc : (sn_de mm pc (.putfield n) np 3 && Nat.ble a 11 && sn_fl.contains (ow, n, a, b) && Nat.beq (pm_ft a b) f && (decide (sn_fin a b = false) || (Nat.beq f 2 && decide ((sn_y mm).name = "<init>") && Nat.beq a ow))) = true := hchk
    simp only [Bool.and_eq_true] at hc
    obtain ⟨⟨⟨⟨hc0, hc1⟩, hc2⟩, hc3⟩, hc4⟩ := hc
    obtain ⟨hd, rfl⟩ := sn_de_ok hc0
    obtain ⟨C, T, N, ty0, hcl, huw, htp, hnm, htk, hin, hini, hnf, how⟩ := sn_cls (show a < 12 by have := Nat.le_of_ble_eq_true hc1; omega)
    have ha12 : a < 12 := by have := Nat.le_of_ble_eq_true hc1; omega
    obtain ⟨hkN, hlk⟩ := sn_fl_ok _ (List.contains_iff_mem.mp hc2) C T N hcl
    have hft := Nat.eq_of_beq_eq_true hc3
    rw [sn_fin_of hcl] at hc4
    rcases (htk b hkN).2 with ⟨h0, h9⟩ | ⟨h0, h9⟩ | ⟨h0, h9⟩ | ⟨h0, h9, -⟩
    · rw [h0] at hft
      subst hft
      have hfn : (T b).2.2.2 = false := by simpa [Nat.beq] using hc4
      rcases st with _ | ⟨w, st⟩
      · exact (sn_nn hev).elim
      rcases w with z | z | z
      · rcases st with _ | ⟨w, st⟩
        · exact (sn_nn hev).elim
        rcases w with q | q | q
        · exact (sn_nn hev).elim
        · exact (sn_nn hev).elim
        · obtain ⟨hg, hk⟩ := sn_evg (b := pm_is V q (10 + a)) (s' := (pc + 3, ls, st, pm_wI V q b z)) hev
          exact sn_putI hx hb hts huw htp hnm hown hK hcl hkN (htk b hkN).1 (hts _ hlk) hfn (Or.inl ⟨h0, h9⟩) hg (by omega) ((sn_kdN (sn_is hg).2 ha12).trans hnf) hd (IH (pc + 3, ls, st, pm_wI V q b z) hk)
      · exact (sn_nn hev).elim
      · exact (sn_nn hev).elim
    · rw [h0] at hft
      subst hft
      have hfn : (T b).2.2.2 = false := by simpa [Nat.beq] using hc4
      rcases st with _ | ⟨w, st⟩
      · exact (sn_nn hev).elim
      rcases w with z | z | z
      · rcases st with _ | ⟨w, st⟩
        · exact (sn_nn hev).elim
        rcases w with q | q | q
        · exact (sn_nn hev).elim
        · exact (sn_nn hev).elim
        · obtain ⟨hg, hk⟩ := sn_evg (b := pm_is V q (10 + a) && pm_01 z) (s' := (pc + 3, ls, st, pm_wI V q b z)) hev
          rw [Bool.and_eq_true] at hg
          obtain ⟨hg, h01⟩ := hg
          exact sn_putI hx hb hts huw htp hnm hown hK hcl hkN (htk b hkN).1 (hts _ hlk) hfn (Or.inr ⟨h0, h9, h01⟩) hg (by omega) ((sn_kdN (sn_is hg).2 ha12).trans hnf) hd (IH (pc + 3, ls, st, pm_wI V q b z) hk)
      · exact (sn_nn hev).elim
      · exact (sn_nn hev).elim
    · rw [h0] at hft
      subst hft
      have hfn : (T b).2.2.2 = false := by simpa [Nat.beq] using hc4
      rcases st with _ | ⟨w, st⟩
      · exact (sn_nn hev).elim
      rcases w with z | z | z
      · exact (sn_nn hev).elim
      · rcases st with _ | ⟨w, st⟩
        · exact (sn_nn hev).elim
        rcases w with q | q | q
        · exact (sn_nn hev).elim
        · exact (sn_nn hev).elim
        · obtain ⟨hg, hk⟩ := sn_evg (b := pm_is V q (10 + a)) (s' := (pc + 3, ls, st, pm_wL V q b z)) hev
          exact sn_putL hx hb hts huw htp hnm hown hK hcl hkN (htk b hkN).1 (hts _ hlk) hfn (⟨h0, h9⟩) hg (by omega) ((sn_kdN (sn_is hg).2 ha12).trans hnf) hd (IH (pc + 3, ls, st, pm_wL V q b z) hk)
      · exact (sn_nn hev).elim
    · rw [h0] at hft
      subst hft
      rcases st with _ | ⟨w, st⟩
      · exact (sn_nn hev).elim
      rcases w with z | z | z
      · exact (sn_nn hev).elim
      · exact (sn_nn hev).elim
      · rcases st with _ | ⟨w, st⟩
        · exact (sn_nn hev).elim
        rcases w with q | q | q
        · exact (sn_nn hev).elim
        · exact (sn_nn hev).elim
        · obtain ⟨hg, hk⟩ := sn_evg (b := pm_is V q (10 + a) && !(Nat.beq z 0)) (s' := (pc + 3, ls, st, pm_wN V q b z)) hev
          rw [Bool.and_eq_true] at hg
          obtain ⟨hg, h01⟩ := hg
          have hz0 : z ≠ 0 := by intro e0; rw [e0] at h01; cases h01
          have hfn : (T b).2.2.2 = false ∨ ((T b).2.2.2 = true ∧ meth.name = "<init>" ∧ C = sn_ow ow) := by
            cases h7 : (T b).2.2.2 with
            | false => exact Or.inl rfl
            | true =>
              rw [h7] at hc4
              simp only [Bool.or_eq_true, decide_eq_true_eq, Bool.and_eq_true, Nat.beq_eq] at hc4
              rcases hc4 with hc4 | ⟨⟨-, g1⟩, g2⟩
              · cases hc4
              · exact Or.inr ⟨rfl, by rw [hmn]; exact g1, by rw [← g2]; exact how.symm⟩
          exact sn_putN hx hb hts huw htp hnm hown hK hcl hkN (htk b hkN).1 (hts _ hlk) hfn ⟨h0, h9⟩ hz0 hg (by omega) ((sn_kdN (sn_is hg).2 ha12).trans hnf) hd (IH (pc + 3, ls, st, pm_wN V q b z) hk)
  case getstatic n =>
    have hc : (sn_de mm pc (.getstatic n) np 3 && Nat.ble 901 a && Nat.ble a 905 && sn_gs.contains (ow, n, a - 901)) = true := hchk
    simp only [Bool.and_eq_true] at hc
    obtain ⟨⟨⟨hc0, hc1⟩, hc2⟩, hc3⟩ := hc
    obtain ⟨hd, rfl⟩ := sn_de_ok hc0
    have g1 := Nat.le_of_ble_eq_true hc1
    have g2 := Nat.le_of_ble_eq_true hc2
    obtain ⟨j, rfl⟩ : ∃ j, a = 901 + j := ⟨a - 901, by omega⟩
    rw [Nat.add_sub_cancel_left] at hc3
    exact sn_gets (k := j) hx hb hXs (by omega) hown (hts _ (sn_gs_ok _ (List.contains_iff_mem.mp hc3))) hd (IH (pc + 3, ls, vr (901 + j) :: st, V) hev)
  case iaload =>
    obtain ⟨hd, rfl⟩ := sn_de_ok (show sn_de mm pc (.iaload) np 1 = true from hchk)
    rcases st with _ | ⟨w, st⟩
    · exact (sn_nn hev).elim
    rcases w with u | u | u
    · rcases st with _ | ⟨w, st⟩
      · exact (sn_nn hev).elim
      rcases w with q | q | q
      · exact (sn_nn hev).elim
      · exact (sn_nn hev).elim
      · have hev : pm_ev cal k (cond (Nat.ble 900 q) (cond (Nat.beq q 900) (pm_gx (pm_in u E.2.2.2.2.2.1.1) (pc + 1, ls, vi (E.2.2.2.2.2.1.2 u.toNatClampNeg) :: st, V)) (pm_gx (pm_in u (pm_sl q)) (pc + 1, ls, vi (pm_sv q u.toNatClampNeg) :: st, V))) (pm_gx (pm_is V q 1 && pm_in u (pm_kd q).2) (pc + 1, ls, vi (V.2.2.2.1 q u.toNatClampNeg) :: st, V))) = some r := hev
        cases h1 : Nat.ble 900 q with
        | false =>
          rw [h1] at hev
          obtain ⟨hg, hk⟩ := sn_evg (b := pm_is V q 1 && pm_in u (pm_kd q).2) (s' := (pc + 1, ls, vi (V.2.2.2.1 q u.toNatClampNeg) :: st, V)) hev
          rw [Bool.and_eq_true] at hg
          exact sn_iaload hx hb hK hg.1 hg.2 hd (IH (pc + 1, ls, vi (V.2.2.2.1 q u.toNatClampNeg) :: st, V) hk)
        | true =>
          rw [h1] at hev
          cases h2 : Nat.beq q 900 with
          | true =>
            rw [h2] at hev
            have e0 := Nat.eq_of_beq_eq_true h2
            subst e0
            obtain ⟨hg, hk⟩ := sn_evg (b := pm_in u E.2.2.2.2.2.1.1) (s' := (pc + 1, ls, vi (E.2.2.2.2.2.1.2 u.toNatClampNeg) :: st, V)) hev
            exact sn_xload hx hb hXs hz' hg hd (IH (pc + 1, ls, vi (E.2.2.2.2.2.1.2 u.toNatClampNeg) :: st, V) hk)
          | false =>
            rw [h2] at hev
            obtain ⟨hg, hk⟩ := sn_evg (b := pm_in u (pm_sl q)) (s' := (pc + 1, ls, vi (pm_sv q u.toNatClampNeg) :: st, V)) hev
            have g1 := Nat.le_of_ble_eq_true h1
            have g2 : q ≠ 900 := fun e0 => by rw [e0] at h2; cases h2
            obtain ⟨j, rfl⟩ : ∃ j, q = 901 + j := ⟨q - 901, by omega⟩
            have hj : j < 5 := sn_slj hg
            exact sn_sload hx hb hXs hj hg hd (IH (pc + 1, ls, vi (pm_sv (901 + j) u.toNatClampNeg) :: st, V) hk)
    · exact (sn_nn hev).elim
    · exact (sn_nn hev).elim
  case baload =>
    obtain ⟨hd, rfl⟩ := sn_de_ok (show sn_de mm pc (.baload) np 1 = true from hchk)
    rcases st with _ | ⟨w, st⟩
    · exact (sn_nn hev).elim
    rcases w with u | u | u
    · rcases st with _ | ⟨w, st⟩
      · exact (sn_nn hev).elim
      rcases w with q | q | q
      · exact (sn_nn hev).elim
      · exact (sn_nn hev).elim
      · obtain ⟨hg, hk⟩ := sn_evg (b := (pm_is V q 2 || pm_is V q 3) && pm_in u (pm_kd q).2) (s' := (pc + 1, ls, vi (V.2.2.2.1 q u.toNatClampNeg) :: st, V)) hev
        simp only [Bool.and_eq_true] at hg
        exact sn_baload hx hb hK hg.1 hg.2 hd (IH (pc + 1, ls, vi (V.2.2.2.1 q u.toNatClampNeg) :: st, V) hk)
    · exact (sn_nn hev).elim
    · exact (sn_nn hev).elim
  case laload =>
    obtain ⟨hd, rfl⟩ := sn_de_ok (show sn_de mm pc (.laload) np 1 = true from hchk)
    rcases st with _ | ⟨w, st⟩
    · exact (sn_nn hev).elim
    rcases w with u | u | u
    · rcases st with _ | ⟨w, st⟩
      · exact (sn_nn hev).elim
      rcases w with q | q | q
      · exact (sn_nn hev).elim
      · exact (sn_nn hev).elim
      · obtain ⟨hg, hk⟩ := sn_evg (b := pm_is V q 4 && pm_in u (pm_kd q).2) (s' := (pc + 1, ls, vl (V.2.2.2.2 q u.toNatClampNeg) :: st, V)) hev
        simp only [Bool.and_eq_true] at hg
        exact sn_laload hx hb hK hg.1 hg.2 hd (IH (pc + 1, ls, vl (V.2.2.2.2 q u.toNatClampNeg) :: st, V) hk)
    · exact (sn_nn hev).elim
    · exact (sn_nn hev).elim
  case iastore =>
    obtain ⟨hd, rfl⟩ := sn_de_ok (show sn_de mm pc (.iastore) np 1 = true from hchk)
    rcases st with _ | ⟨w, st⟩
    · exact (sn_nn hev).elim
    rcases w with z | z | z
    · rcases st with _ | ⟨w, st⟩
      · exact (sn_nn hev).elim
      rcases w with u | u | u
      · rcases st with _ | ⟨w, st⟩
        · exact (sn_nn hev).elim
        rcases w with q | q | q
        · exact (sn_nn hev).elim
        · exact (sn_nn hev).elim
        · obtain ⟨hg, hk⟩ := sn_evg (b := pm_is V q 1 && pm_in u (pm_kd q).2) (s' := (pc + 1, ls, st, pm_wI V q u.toNatClampNeg z)) hev
          simp only [Bool.and_eq_true] at hg
          exact sn_iastore hx hb hK hg.1 hg.2 hd (IH (pc + 1, ls, st, pm_wI V q u.toNatClampNeg z) hk)
      · exact (sn_nn hev).elim
      · exact (sn_nn hev).elim
    · exact (sn_nn hev).elim
    · exact (sn_nn hev).elim
  case lastore =>
    obtain ⟨hd, rfl⟩ := sn_de_ok (show sn_de mm pc (.lastore) np 1 = true from hchk)
    rcases st with _ | ⟨w, st⟩
    · exact (sn_nn hev).elim
    rcases w with z | z | z
    · exact (sn_nn hev).elim
    · rcases st with _ | ⟨w, st⟩
      · exact (sn_nn hev).elim
      rcases w with u | u | u
      · rcases st with _ | ⟨w, st⟩
        · exact (sn_nn hev).elim
        rcases w with q | q | q
        · exact (sn_nn hev).elim
        · exact (sn_nn hev).elim
        · obtain ⟨hg, hk⟩ := sn_evg (b := pm_is V q 4 && pm_in u (pm_kd q).2) (s' := (pc + 1, ls, st, pm_wL V q u.toNatClampNeg z)) hev
          simp only [Bool.and_eq_true] at hg
          exact sn_lastore hx hb hK hg.1 hg.2 hd (IH (pc + 1, ls, st, pm_wL V q u.toNatClampNeg z) hk)
      · exact (sn_nn hev).elim
      · exact (sn_nn hev).elim
    · exact (sn_nn hev).elim
  case bastore =>
    obtain ⟨hd, rfl⟩ := sn_de_ok (show sn_de mm pc (.bastore) np 1 = true from hchk)
    rcases st with _ | ⟨w, st⟩
    · exact (sn_nn hev).elim
    rcases w with z | z | z
    · rcases st with _ | ⟨w, st⟩
      · exact (sn_nn hev).elim
      rcases w with u | u | u
      · rcases st with _ | ⟨w, st⟩
        · exact (sn_nn hev).elim
        rcases w with q | q | q
        · exact (sn_nn hev).elim
        · exact (sn_nn hev).elim
        · have hev : pm_ev cal k (cond (Nat.beq (pm_kd q).1 2) (pm_gx (pm_is V q 2 && pm_in u (pm_kd q).2) (pc + 1, ls, st, pm_wI V q u.toNatClampNeg (pm_ib z))) (pm_gx (pm_is V q 3 && pm_in u (pm_kd q).2 && pm_01 z) (pc + 1, ls, st, pm_wI V q u.toNatClampNeg z))) = some r := hev
          cases h1 : Nat.beq (pm_kd q).1 2 with
          | true =>
            rw [h1] at hev
            obtain ⟨hg, hk⟩ := sn_evg (b := pm_is V q 2 && pm_in u (pm_kd q).2) (s' := (pc + 1, ls, st, pm_wI V q u.toNatClampNeg (pm_ib z))) hev
            rw [Bool.and_eq_true] at hg
            exact sn_bastore hx hb hK hg.1 hg.2 hd (IH (pc + 1, ls, st, pm_wI V q u.toNatClampNeg (pm_ib z)) hk)
          | false =>
            rw [h1] at hev
            obtain ⟨hg, hk⟩ := sn_evg (b := pm_is V q 3 && pm_in u (pm_kd q).2 && pm_01 z) (s' := (pc + 1, ls, st, pm_wI V q u.toNatClampNeg z)) hev
            simp only [Bool.and_eq_true] at hg
            exact sn_zastore hx hb hK hg.1.1 hg.1.2 hg.2 hd (IH (pc + 1, ls, st, pm_wI V q u.toNatClampNeg z) hk)
      · exact (sn_nn hev).elim
      · exact (sn_nn hev).elim
    · exact (sn_nn hev).elim
    · exact (sn_nn hev).elim
  case aaload =>
    obtain ⟨hd, rfl⟩ := sn_de_ok (show sn_de mm pc (.aaload) np 1 = true from hchk)
    rcases st with _ | ⟨w, st⟩
    · exact (sn_nn hev).elim
    rcases w with u | u | u
    · rcases st with _ | ⟨w, st⟩
      · exact (sn_nn hev).elim
      rcases w with q | q | q
      · exact (sn_nn hev).elim
      · exact (sn_nn hev).elim
      · obtain ⟨hg, hk⟩ := sn_evg (b := V.2.1 q && (Nat.ble 100 (pm_kd q).1 || Nat.beq (pm_kd q).1 6) && pm_in u (pm_kd q).2) (s' := (pc + 1, ls, vr (V.2.2.1 q u.toNatClampNeg) :: st, V)) hev
        simp only [Bool.and_eq_true] at hg
        obtain ⟨ty, h1, h2⟩ := sn_ttyq hg.1.2
        exact sn_aaload hx hb hK hg.1.1 rfl hg.1.2 h1 h2 hg.2 hd (IH (pc + 1, ls, vr (V.2.2.1 q u.toNatClampNeg) :: st, V) hk)
    · exact (sn_nn hev).elim
    · exact (sn_nn hev).elim
  case aastore =>
    obtain ⟨hd, rfl⟩ := sn_de_ok (show sn_de mm pc (.aastore) np 1 = true from hchk)
    rcases st with _ | ⟨w, st⟩
    · exact (sn_nn hev).elim
    rcases w with z | z | z
    · exact (sn_nn hev).elim
    · exact (sn_nn hev).elim
    · rcases st with _ | ⟨w, st⟩
      · exact (sn_nn hev).elim
      rcases w with u | u | u
      · rcases st with _ | ⟨w, st⟩
        · exact (sn_nn hev).elim
        rcases w with q | q | q
        · exact (sn_nn hev).elim
        · exact (sn_nn hev).elim
        · obtain ⟨hg, hk⟩ := sn_evg (b := V.2.1 q && Nat.ble 100 (pm_kd q).1 && pm_in u (pm_kd q).2 && V.2.1 z && Nat.beq (pm_kd z).1 ((pm_kd q).1 - 90)) (s' := (pc + 1, ls, st, pm_wN V q u.toNatClampNeg z)) hev
          simp only [Bool.and_eq_true, Nat.ble_eq, Nat.beq_eq] at hg
          obtain ⟨⟨⟨⟨g1, g2⟩, g3⟩, g4⟩, g5⟩ := hg
          obtain ⟨ci, rc, h1, h2, h3, h4⟩ := sn_ttyo g2
          exact sn_aastore hx hb hK g1 h1 h2 h3 h4 g3 (by unfold pm_is; rw [g4, g5, h1]; rw [show 100 + ci - 90 = 10 + ci by omega, Nat.beq_refl]; rfl) hd (IH (pc + 1, ls, st, pm_wN V q u.toNatClampNeg z) hk)
      · exact (sn_nn hev).elim
      · exact (sn_nn hev).elim
  case arraylength =>
    obtain ⟨hd, rfl⟩ := sn_de_ok (show sn_de mm pc (.arraylength) np 1 = true from hchk)
    rcases st with _ | ⟨w, st⟩
    · exact (sn_nn hev).elim
    rcases w with q | q | q
    · exact (sn_nn hev).elim
    · exact (sn_nn hev).elim
    · have hev : pm_ev cal k (cond (Nat.ble 900 q) (pm_gx (Nat.beq q 900) (pc + 1, ls, vi (Int32.ofNat E.2.2.2.2.2.1.1) :: st, V)) (pm_gx (V.2.1 q && (Nat.ble 1 (pm_kd q).1 && (Nat.ble 100 (pm_kd q).1 || Nat.ble (pm_kd q).1 6))) (pc + 1, ls, vi (Int32.ofNat (pm_kd q).2) :: st, V))) = some r := hev
      cases h1 : Nat.ble 900 q with
      | true =>
        rw [h1] at hev
        obtain ⟨hg, hk⟩ := sn_evg (b := Nat.beq q 900) (s' := (pc + 1, ls, vi (Int32.ofNat E.2.2.2.2.2.1.1) :: st, V)) hev
        have e0 := Nat.eq_of_beq_eq_true hg
        subst e0
        exact sn_xlen hx hb hXs hz' hd (IH (pc + 1, ls, vi (Int32.ofNat E.2.2.2.2.2.1.1) :: st, V) hk)
      | false =>
        rw [h1] at hev
        obtain ⟨hg, hk⟩ := sn_evg (b := V.2.1 q && (Nat.ble 1 (pm_kd q).1 && (Nat.ble 100 (pm_kd q).1 || Nat.ble (pm_kd q).1 6))) (s' := (pc + 1, ls, vi (Int32.ofNat (pm_kd q).2) :: st, V)) hev
        simp only [Bool.and_eq_true, Bool.or_eq_true, Nat.ble_eq] at hg
        obtain ⟨ty, h2⟩ := sn_ttya hg.2.1 hg.2.2
        exact sn_alen hx hb hK hg.1 rfl h2 hd (IH (pc + 1, ls, vi (Int32.ofNat (pm_kd q).2) :: st, V) hk)
  case new n =>
    have hc : (sn_de mm pc (.new n) np 3 && Nat.ble a 11 && sn_kl.contains (ow, n, a)) = true := hchk
    simp only [Bool.and_eq_true] at hc
    obtain ⟨⟨hc0, hc1⟩, hc2⟩ := hc
    obtain ⟨hd, rfl⟩ := sn_de_ok hc0
    obtain ⟨C, T, N, ty0, hcl, huw, htp, hnm, htk, hin, hini, hnf, how⟩ := sn_cls (show a < 12 by have := Nat.le_of_ble_eq_true hc1; omega)
    have ha12 : a < 12 := by have := Nat.le_of_ble_eq_true hc1; omega
    have hkl : sn_klk (ow, n, a) := sn_kl_ok _ (List.contains_iff_mem.mp hc2)
    unfold sn_klk at hkl
    change Cond.classLink (sn_ow ow) n (sn_ow a) ∈ sn_GT at hkl
    rw [how] at hkl
    have hev : pm_ev cal k (pm_mke (pc + 3) ls st V (pm_pk ls b f x) (10 + a) (pm_kd (pm_pk ls b f x)).2) = some r := hev
    generalize pm_pk ls b f x = q at hev
    obtain ⟨hg, hk⟩ := sn_evg (b := !(V.2.1 q) && (Nat.ble 1 q && Nat.ble q 899 && Nat.beq (pm_kd q).1 (10 + a) && Nat.beq (pm_kd q).2 ((pm_kd q).2))) (s' := (pc + 3, ls, vr q :: st, (V.1 ++ [q], pm_set V.2.1 q, V.2.2))) hev
    simp only [Bool.and_eq_true, Bool.not_eq_true', Nat.ble_eq, Nat.beq_eq] at hg
    obtain ⟨g1, ⟨⟨g2, g3⟩, g4⟩, g5⟩ := hg
    have hpre := hkm _ hk
    have hpr2 := sn_tt_pre hpre
    change (V.1 ++ [q]).length ≤ _ ∧ sn_tt (V.1 ++ [q]) ≤ _ at hpr2
    rw [List.length_append, sn_tt_app] at hpr2
    have hl1 : ([q] : List Nat).length = 1 := rfl
    have hN := (sn_kdN g4 ha12).trans hnf
    exact sn_newo hx hb hts huw htp hown (hts _ hkl) (hts _ hin) (hts _ hini) hK hcl (by omega) (fun j hj => by rcases (htk j hj).2 with ⟨h0, h1⟩ | ⟨h0, h1⟩ | ⟨h0, h1⟩ | ⟨h0, -, h1⟩ <;> rw [h0] <;> first | (rw [h1]; rfl) | exact h1) g1 g2 g3 g4 hN (hpre.trans hr) (by omega) (by omega) hd (IH (pc + 3, ls, vr q :: st, (V.1 ++ [q], pm_set V.2.1 q, V.2.2)) hk)
  case newarray t =>
    have hc : (sn_de mm pc (.newarray t) np 2 && Nat.beq (sn_at4 t) a && Nat.ble 1 a) = true := hchk
    simp only [Bool.and_eq_true] at hc
    obtain ⟨⟨hc0, hc1⟩, hc2⟩ := hc
    obtain ⟨hd, rfl⟩ := sn_de_ok hc0
    have hta := Nat.eq_of_beq_eq_true hc1
    have hty : ∃ w, Cond.arrayClass (newarray.typeOf t) ∈ sn_GT ∧ sn_tty a = some (newarray.typeOf t) ∧ (a = 1 ∨ a = 2 ∨ a = 3 ∨ a = 4) ∧ w = 0 := by
      have g1 := Nat.le_of_ble_eq_true hc2
      cases t <;> simp only [sn_at4] at hta <;> first | omega | (subst hta; first | exact ⟨0, sn_ac_int, rfl, by omega, rfl⟩ | exact ⟨0, sn_ac_byte, rfl, by omega, rfl⟩ | exact ⟨0, sn_ac_boolean, rfl, by omega, rfl⟩ | exact ⟨0, sn_ac_long, rfl, by omega, rfl⟩)
    obtain ⟨-, hty1, hty2, hty3, -⟩ := hty
    rcases st with _ | ⟨w, st⟩
    · exact (sn_nn hev).elim
    rcases w with n | n | n
    · have hev : pm_ev cal k (cond (decide (0 ≤ n)) (pm_mke (pc + 2) ls st V (pm_pk ls b f x) a n.toNatClampNeg) pm_no) = some r := hev
      by_cases hn0 : 0 ≤ n
      · rw [decide_eq_true hn0] at hev
        generalize pm_pk ls b f x = q at hev
        obtain ⟨hg, hk⟩ := sn_evg (b := !(V.2.1 q) && (Nat.ble 1 q && Nat.ble q 899 && Nat.beq (pm_kd q).1 (a) && Nat.beq (pm_kd q).2 (n.toNatClampNeg))) (s' := (pc + 2, ls, vr q :: st, (V.1 ++ [q], pm_set V.2.1 q, V.2.2))) hev
        simp only [Bool.and_eq_true, Bool.not_eq_true', Nat.ble_eq, Nat.beq_eq] at hg
        obtain ⟨g1, ⟨⟨g2, g3⟩, g4⟩, g5⟩ := hg
        have hpre := hkm _ hk
        have hpr2 := sn_tt_pre hpre
        change (V.1 ++ [q]).length ≤ _ ∧ sn_tt (V.1 ++ [q]) ≤ _ at hpr2
        rw [List.length_append, sn_tt_app] at hpr2
        have hl1 : ([q] : List Nat).length = 1 := rfl
        have hsz : n.toNatClampNeg ≤ 60000000 := by have := sn_kdT q; omega
        exact sn_newa hx hb (hts _ hty1) hK hty3 hty2 hn0 g1 g2 g3 g4 g5 hsz (hpre.trans hr) (by omega) (by omega) hd (IH (pc + 2, ls, vr q :: st, (V.1 ++ [q], pm_set V.2.1 q, V.2.2)) hk)
      · rw [decide_eq_false hn0] at hev
        exact (sn_nn hev).elim
    · exact (sn_nn hev).elim
    · exact (sn_nn hev).elim
  case anewarray t =>
    have hc : (sn_de mm pc (.anewarray t) np 3 && sn_kl.contains (ow, t, a) && (Nat.beq a 0 || Nat.beq a 3 || Nat.beq a 6 || Nat.beq a 8 || Nat.beq a 9)) = true := hchk
    simp only [Bool.and_eq_true] at hc
    obtain ⟨⟨hc0, hc1⟩, hc2⟩ := hc
    obtain ⟨hd, rfl⟩ := sn_de_ok hc0
    have hkl : sn_klk (ow, t, a) := sn_kl_ok _ (List.contains_iff_mem.mp hc1)
    unfold sn_klk at hkl
    change Cond.classLink (sn_ow ow) t (sn_ow a) ∈ sn_GT at hkl
    obtain ⟨h5, h6⟩ := sn_ttyn (E := E) (U := s) hXs hc2
    rcases st with _ | ⟨w, st⟩
    · exact (sn_nn hev).elim
    rcases w with n | n | n
    · have hev : pm_ev cal k (cond (decide (0 ≤ n)) (pm_mke (pc + 3) ls st V (pm_pk ls b f x) (100 + a) n.toNatClampNeg) pm_no) = some r := hev
      by_cases hn0 : 0 ≤ n
      · rw [decide_eq_true hn0] at hev
        generalize pm_pk ls b f x = q at hev
        obtain ⟨hg, hk⟩ := sn_evg (b := !(V.2.1 q) && (Nat.ble 1 q && Nat.ble q 899 && Nat.beq (pm_kd q).1 (100 + a) && Nat.beq (pm_kd q).2 (n.toNatClampNeg))) (s' := (pc + 3, ls, vr q :: st, (V.1 ++ [q], pm_set V.2.1 q, V.2.2))) hev
        simp only [Bool.and_eq_true, Bool.not_eq_true', Nat.ble_eq, Nat.beq_eq] at hg
        obtain ⟨g1, ⟨⟨g2, g3⟩, g4⟩, g5⟩ := hg
        have hpre := hkm _ hk
        have hpr2 := sn_tt_pre hpre
        change (V.1 ++ [q]).length ≤ _ ∧ sn_tt (V.1 ++ [q]) ≤ _ at hpr2
        rw [List.length_append, sn_tt_app] at hpr2
        have hl1 : ([q] : List Nat).length = 1 := rfl
        have hsz : n.toNatClampNeg ≤ 60000000 := by have := sn_kdT q; omega
        exact sn_anew hx hb hown (hts _ hkl) h6 hK h5 hn0 g1 g2 g3 g4 g5 hsz (hpre.trans hr) (by omega) (by omega) hd (IH (pc + 3, ls, vr q :: st, (V.1 ++ [q], pm_set V.2.1 q, V.2.2)) hk)
      · rw [decide_eq_false hn0] at hev
        exact (sn_nn hev).elim
    · exact (sn_nn hev).elim
    · exact (sn_nn hev).elim
  case multianewarray n t =>
    have hc : (sn_de mm pc (.multianewarray n t) np 4 && Nat.beq n 32 && Nat.beq t 2 && Nat.beq ow 7) = true := hchk
    simp only [Bool.and_eq_true] at hc
    obtain ⟨⟨⟨hc0, hc1⟩, hc2⟩, hc3⟩ := hc
    obtain ⟨hd, rfl⟩ := sn_de_ok hc0
    have e1 := Nat.eq_of_beq_eq_true hc1
    have e2 := Nat.eq_of_beq_eq_true hc2
    have e3 := Nat.eq_of_beq_eq_true hc3
    subst e1
    subst e2
    subst e3
    rcases st with _ | ⟨w, st⟩
    · exact (sn_nn hev).elim
    rcases w with w1 | w1 | w1
    · rcases st with _ | ⟨w, st⟩
      · exact (sn_nn hev).elim
      rcases w with w2 | w2 | w2
      · obtain ⟨hg, hk⟩ := sn_evg (b := decide (w2 = 9) && decide (w1 = 12) && !(V.2.1 63) && !(V.2.1 64) && !(V.2.1 65) && !(V.2.1 66) && !(V.2.1 67) && !(V.2.1 68) && !(V.2.1 69) && !(V.2.1 70) && !(V.2.1 71) && !(V.2.1 72)) (s' := (pc + 4, ls, vr 63 :: st, (V.1 ++ [63, 64, 65, 66, 67, 68, 69, 70, 71, 72], (fun b => cond (Nat.ble 63 b && Nat.ble b 72) true (V.2.1 b)), (fun b j => cond (Nat.beq b 63 && Nat.ble j 8) (64 + j) (V.2.2.1 b j)), V.2.2.2))) hev
        simp only [Bool.and_eq_true, decide_eq_true_eq, Bool.not_eq_true'] at hg
        obtain ⟨⟨⟨⟨⟨⟨⟨⟨⟨⟨⟨g1, g2⟩, a0⟩, a1⟩, a2⟩, a3⟩, a4⟩, a5⟩, a6⟩, a7⟩, a8⟩, a9⟩ := hg
        subst g1
        subst g2
        have hpre := hkm _ hk
        have hpr2 := sn_tt_pre hpre
        exact sn_multi hx hb hown hts hK hXs hz a0 a1 a2 a3 a4 a5 a6 a7 a8 a9 (hpre.trans hr) (Nat.le_trans hpr2.1 hroom.1) (Nat.le_trans hpr2.2 hroom.2) hd (IH (pc + 4, ls, vr 63 :: st, (V.1 ++ [63, 64, 65, 66, 67, 68, 69, 70, 71, 72], (fun b => cond (Nat.ble 63 b && Nat.ble b 72) true (V.2.1 b)), (fun b j => cond (Nat.beq b 63 && Nat.ble j 8) (64 + j) (V.2.2.1 b j)), V.2.2.2)) hk)
      · exact (sn_nn hev).elim
      · exact (sn_nn hev).elim
    · exact (sn_nn hev).elim
    · exact (sn_nn hev).elim
  case invokestatic n =>
    have hc : (sn_de mm pc (.invokestatic n) np 3 && cond (Nat.ble 1000 a) (Nat.beq a 1007 && sn_x1007.contains (ow, n)) (sn_mol.contains (a, b) && (sn_ls.contains (ow, n, a) || sn_lsn.contains (ow, n, a)))) = true := hchk
    simp only [Bool.and_eq_true] at hc
    obtain ⟨hc0, hc1⟩ := hc
    obtain ⟨hd, rfl⟩ := sn_de_ok hc0
    have hev : pm_ev cal k (cond (Nat.ble 1000 a) (pm_ext (pc + 3) a ls st V) (Nat.ble b st.length && Nat.ble (pm_wd (st.drop b)) 8, Sum.inr (Sum.inl (a, (st.take b).reverse, V, f % 4, pc + 3, ls, st.drop b)))) = some r := hev
    cases h1 : Nat.ble 1000 a with
    | true =>
      rw [h1] at hc1 hev
      simp only [cond_true, Bool.and_eq_true, Nat.beq_eq] at hc1
      obtain ⟨rfl, hc2⟩ := hc1
      rcases st with _ | ⟨w, st⟩
      · exact (sn_nn hev).elim
      rcases w with n1 | n1 | n1
      · rcases st with _ | ⟨w, st⟩
        · exact (sn_nn hev).elim
        rcases w with dp | dp | dp
        · rcases st with _ | ⟨w, st⟩
          · exact (sn_nn hev).elim
          rcases w with d1 | d1 | d1
          · exact (sn_nn hev).elim
          · exact (sn_nn hev).elim
          · rcases st with _ | ⟨w, st⟩
            · exact (sn_nn hev).elim
            rcases w with sp | sp | sp
            · rcases st with _ | ⟨w, st⟩
              · exact (sn_nn hev).elim
              rcases w with s1 | s1 | s1
              · exact (sn_nn hev).elim
              · exact (sn_nn hev).elim
              · obtain ⟨hg, hk⟩ := sn_evg (b := Nat.ble (pm_wd st) 8 && (V.2.1 s1 && V.2.1 d1 && Nat.beq (pm_kd s1).1 (pm_kd d1).1 && (Nat.beq (pm_kd s1).1 1 || Nat.beq (pm_kd s1).1 2) && decide (0 ≤ sp) && decide (0 ≤ dp) && decide (0 ≤ n1) && Nat.ble (sp.toNatClampNeg + n1.toNatClampNeg) (pm_kd s1).2 && Nat.ble (dp.toNatClampNeg + n1.toNatClampNeg) (pm_kd d1).2)) (s' := (pc + 3, ls, st, (V.1, V.2.1, V.2.2.1, pm_ups V.2.2.2.1 d1 (va_cpy (V.2.2.2.1 s1) (V.2.2.2.1 d1) sp.toNatClampNeg dp.toNatClampNeg n1.toNatClampNeg), V.2.2.2.2))) hev
                simp only [Bool.and_eq_true, Bool.or_eq_true, decide_eq_true_eq, Nat.ble_eq, Nat.beq_eq] at hg
                obtain ⟨g0, ⟨⟨⟨⟨⟨⟨⟨g1, g2⟩, g3⟩, g4⟩, g5⟩, g6⟩, g7⟩, g8⟩, g9⟩ := hg
                have hlo : 8 + (nativeFrameWords "java/lang/System" "arraycopy" 5 + 11) ≤ 64 := by decide
                exact sn_acopy hx hb hml hown (hts _ (sn_x1007_ok _ (List.contains_iff_mem.mp hc2))) (hts _ sn_xw.1) (hts _ sn_xw.2.1) (hts _ sn_xw.2.2.1) hK hz g1 g2 rfl g3.symm g4 g5 g6 g7 g8 g9 g0 (by omega) (by omega) hd (IH (pc + 3, ls, st, (V.1, V.2.1, V.2.2.1, pm_ups V.2.2.2.1 d1 (va_cpy (V.2.2.2.1 s1) (V.2.2.2.1 d1) sp.toNatClampNeg dp.toNatClampNeg n1.toNatClampNeg), V.2.2.2.2)) hk)
            · exact (sn_nn hev).elim
            · exact (sn_nn hev).elim
        · exact (sn_nn hev).elim
        · exact (sn_nn hev).elim
      · exact (sn_nn hev).elim
      · exact (sn_nn hev).elim
    | false =>
      rw [h1] at hc1 hev
      simp only [cond_false, Bool.and_eq_true, Bool.or_eq_true] at hc1
      obtain ⟨hg, rc, hrc, hk⟩ := sn_evc hev
      simp only [Bool.and_eq_true, Nat.ble_eq] at hg
      obtain ⟨hV1, hM⟩ := hcal _ _ _ _ hrc
      have hp1 := hkm _ hk
      have hM := hM (hp1.trans hr)
      have hq1 := sn_tt_pre hV1
      have hq2 := sn_tt_pre hp1
      change rc.2.1.length ≤ _ ∧ sn_tt rc.2.1 ≤ _ at hq2
      have hst : st = (st.take b).reverse.reverse ++ st.drop b := by rw [List.reverse_reverse, List.take_append_drop]
      have hln : (st.take b).reverse.length = b := by rw [List.length_reverse, List.length_take]; omega
      rw [hst]
      rcases hc1.2 with hc2 | hc2
      · obtain ⟨w1, w2⟩ := sn_ls_ok _ (sn_memN hc2)
        exact sn_callS hx hb hml hown hts hK hXs hz' (sn_mol_ok hc1.1) w2 w1 hln hM hq1 ⟨hf1, hf2⟩ ⟨by omega, by omega⟩ hg.2 hd (IH (pc + 3, ls, rc.1.toList ++ st.drop b, rc.2) hk)
      · obtain ⟨w1, w2⟩ := sn_lsn_ok _ (sn_memN hc2)
        exact sn_callSN hx hb hml hown hts hK hXs hz' (sn_mol_ok hc1.1) w2 w1 hln hM hq1 ⟨hf1, hf2⟩ ⟨by omega, by omega⟩ hg.2 hd (IH (pc + 3, ls, rc.1.toList ++ st.drop b, rc.2) hk)
  case invokevirtual n =>
    have hc : (sn_de mm pc (.invokevirtual n) np 3 && cond (Nat.ble 1000 a) ((Nat.beq a 1005 && sn_x1005.contains (ow, n)) || (Nat.beq a 1006 && sn_x1006.contains (ow, n))) (Nat.ble 1 b && sn_mol.contains (a, b - 1) && sn_lvt.contains (ow, n, a) && Nat.ble (f / 4) 11 && decide ((sn_y a).cls = sn_ow (f / 4)))) = true := hchk
    simp only [Bool.and_eq_true] at hc
    obtain ⟨hc0, hc1⟩ := hc
    obtain ⟨hd, rfl⟩ := sn_de_ok hc0
    have hev : pm_ev cal k (cond (Nat.ble 1000 a) (pm_ext (pc + 3) a ls st V) (match st.drop (b - 1) with
      | (Sum.inr (Sum.inr q)) :: _ => (Nat.ble b st.length && Nat.ble (pm_wd (st.drop b)) 8 && pm_is V q (10 + f / 4), Sum.inr (Sum.inl (a, (st.take b).reverse, V, f % 4, pc + 3, ls, st.drop b)))
      | _ => pm_no)) = some r := hev
    cases h1 : Nat.ble 1000 a with
    | true =>
      rw [h1] at hc1 hev
      simp only [cond_true, Bool.or_eq_true, Bool.and_eq_true, Nat.beq_eq] at hc1
      rcases hc1 with ⟨rfl, hc2⟩ | ⟨rfl, hc2⟩
      · rcases st with _ | ⟨w, st⟩
        · exact (sn_nn hev).elim
        rcases w with q | q | q
        · exact (sn_nn hev).elim
        · exact (sn_nn hev).elim
        · obtain ⟨hg, hk⟩ := sn_evg (b := Nat.ble (pm_wd st) 8 && (Nat.ble 911 q && Nat.ble q 917)) (s' := (pc + 3, ls, vi (Int32.ofNat (pm_tl q)) :: st, V)) hev
          simp only [Bool.and_eq_true, Nat.ble_eq] at hg
          obtain ⟨j, rfl⟩ : ∃ j, q = 911 + j := ⟨q - 911, by omega⟩
          exact sn_strlen hx hb hml hown hts hK hXs hz' (by omega) (sn_x1005_ok _ (List.contains_iff_mem.mp hc2)) hg.1 (by omega) (by omega) (Nat.le_trans (sn_tt_pre (hkm _ hk)).1 hroom.1) (Nat.le_trans (sn_tt_pre (hkm _ hk)).2 hroom.2) hd (IH (pc + 3, ls, vi (Int32.ofNat (pm_tl (911 + j))) :: st, V) hk)
      · rcases st with _ | ⟨w, st⟩
        · exact (sn_nn hev).elim
        rcases w with u | u | u
        · rcases st with _ | ⟨w, st⟩
          · exact (sn_nn hev).elim
          rcases w with q | q | q
          · exact (sn_nn hev).elim
          · exact (sn_nn hev).elim
          · obtain ⟨hg, hk⟩ := sn_evg (b := Nat.ble (pm_wd st) 8 && (Nat.ble 911 q && Nat.ble q 917) && pm_in u (pm_tl q)) (s' := (pc + 3, ls, vi (pm_tv q u.toNatClampNeg) :: st, V)) hev
            simp only [Bool.and_eq_true, Nat.ble_eq] at hg
            obtain ⟨j, rfl⟩ : ∃ j, q = 911 + j := ⟨q - 911, by omega⟩
            exact sn_strat hx hb hml hown hts hK hXs hz' (by omega) (sn_x1006_ok _ (List.contains_iff_mem.mp hc2)) hg.1.1 hg.2 (by omega) (by omega) (Nat.le_trans (sn_tt_pre (hkm _ hk)).1 hroom.1) (Nat.le_trans (sn_tt_pre (hkm _ hk)).2 hroom.2) hd (IH (pc + 3, ls, vi (pm_tv (911 + j) u.toNatClampNeg) :: st, V) hk)
        · exact (sn_nn hev).elim
        · exact (sn_nn hev).elim
    | false =>
      rw [h1] at hc1 hev
      simp only [cond_false, Bool.and_eq_true, Nat.ble_eq, decide_eq_true_eq] at hc1
      obtain ⟨⟨⟨⟨hb1, hc2⟩, hc3⟩, hc4⟩, hc5⟩ := hc1
      obtain ⟨q, as, hst, hln, hev2, hta⟩ := sn_stq hb1 hev
      obtain ⟨hg, rc, hrc, hk⟩ := sn_evc hev2
      simp only [Bool.and_eq_true, Nat.ble_eq] at hg
      obtain ⟨hV1, hM⟩ := hcal _ _ _ _ hrc
      have hp1 := hkm _ hk
      have hM := hM (hp1.trans hr)
      have hq1 := sn_tt_pre hV1
      have hq2 := sn_tt_pre hp1
      change rc.2.1.length ≤ _ ∧ sn_tt rc.2.1 ≤ _ at hq2
      rw [hta hg.1.1] at hM
      obtain ⟨w1, w2, w3⟩ := sn_lvt_ok _ (sn_memN hc3)
      obtain ⟨C, T, N, ty0, hcl, huw, htp, hnm, htk, hin, hini, hnf, how⟩ := sn_cls (show f / 4 < 12 by omega)
      change Cond.selects (sn_y a).cls (sn_y a) (sn_y a) ∈ sn_GT at w3
      rw [hc5, how] at w3
      rw [hst hg.1.1]
      exact sn_callV (rc := (C, T, N)) hx hb hml hown hts hK hXs hz' (sn_mol_ok hc2) w2 w3 w1 (hln hg.1.1) hg.2 (by omega) hcl hM hq1 ⟨hf1, hf2⟩ ⟨by omega, by omega⟩ hg.1.2 hd (IH (pc + 3, ls, rc.1.toList ++ st.drop b, rc.2) hk)
  case invokespecial n =>
    have hc : (sn_de mm pc (.invokespecial n) np 3 && cond (Nat.ble 1000 a) (Nat.beq a 1008 && sn_x1008.contains (ow, n)) (Nat.ble 1 b && sn_mol.contains (a, b - 1) && (sn_lsp.contains (ow, n, a) || sn_lspn.contains (ow, n, a)))) = true := hchk
    simp only [Bool.and_eq_true] at hc
    obtain ⟨hc0, hc1⟩ := hc
    obtain ⟨hd, rfl⟩ := sn_de_ok hc0
    have hev : pm_ev cal k (cond (Nat.ble 1000 a) (pm_ext (pc + 3) a ls st V) (match st.drop (b - 1) with
      | (Sum.inr (Sum.inr q)) :: _ => (Nat.ble b st.length && Nat.ble (pm_wd (st.drop b)) 8 && pm_is V q (10 + f / 4), Sum.inr (Sum.inl (a, (st.take b).reverse, V, f % 4, pc + 3, ls, st.drop b)))
      | _ => pm_no)) = some r := hev
    cases h1 : Nat.ble 1000 a with
    | true =>
      rw [h1] at hc1 hev
      simp only [cond_true, Bool.and_eq_true, Nat.beq_eq] at hc1
      obtain ⟨rfl, hc2⟩ := hc1
      rcases st with _ | ⟨w, st⟩
      · exact (sn_nn hev).elim
      rcases w with q | q | q
      · exact (sn_nn hev).elim
      · exact (sn_nn hev).elim
      · obtain ⟨hg, hk⟩ := sn_evg (b := Nat.ble (pm_wd st) 8 && !(Nat.beq q 0)) (s' := (pc + 3, ls, st, V)) hev
        simp only [Bool.and_eq_true, Nat.ble_eq, Bool.not_eq_true'] at hg
        have hq0 : q ≠ 0 := fun e0 => by rw [e0] at hg; cases hg.2
        exact sn_objInit hx hb hown hml (hts _ (sn_x1008_ok _ (List.contains_iff_mem.mp hc2))) (hts _ sn_xw.2.2.2.1) (hts _ sn_xw.2.2.2.2) hq0 hg.1 (by omega) (by omega) hd (IH (pc + 3, ls, st, V) hk)
    | false =>
      rw [h1] at hc1 hev
      simp only [cond_false, Bool.and_eq_true, Bool.or_eq_true, Nat.ble_eq] at hc1
      obtain ⟨⟨hb1, hc2⟩, hc3⟩ := hc1
      obtain ⟨q, as, hst, hln, hev2, hta⟩ := sn_stq hb1 hev
      obtain ⟨hg, rc, hrc, hk⟩ := sn_evc hev2
      simp only [Bool.and_eq_true, Nat.ble_eq] at hg
      obtain ⟨hV1, hM⟩ := hcal _ _ _ _ hrc
      have hp1 := hkm _ hk
      have hM := hM (hp1.trans hr)
      have hq1 := sn_tt_pre hV1
      have hq2 := sn_tt_pre hp1
      change rc.2.1.length ≤ _ ∧ sn_tt rc.2.1 ≤ _ at hq2
      rw [hta hg.1.1] at hM
      rw [hst hg.1.1]
      rcases hc3 with hc3 | hc3
      · obtain ⟨w1, w2, w3, w4⟩ := sn_lsp_ok _ (sn_memN hc3)
        exact sn_callI hx hb hml hown hts hK hXs hz' (sn_mol_ok hc2) w2 w3 w4 w1 (hln hg.1.1) (sn_is hg.2).1 hM hq1 ⟨hf1, hf2⟩ ⟨by omega, by omega⟩ hg.1.2 hd (IH (pc + 3, ls, rc.1.toList ++ st.drop b, rc.2) hk)
      · obtain ⟨w1, w2, w3, w4⟩ := sn_lspn_ok _ (sn_memN hc3)
        exact sn_callIN hx hb hml hown hts hK hXs hz' (sn_mol_ok hc2) w2 w3 w4 w1 (hln hg.1.1) (sn_is hg.2).1 hM hq1 ⟨hf1, hf2⟩ ⟨by omega, by omega⟩ hg.1.2 hd (IH (pc + 3, ls, rc.1.toList ++ st.drop b, rc.2) hk)
  case ireturn =>
    rcases st with _ | ⟨w, st⟩
    · exact (sn_nn hev).elim
    rcases w with u | u | u
    · rcases st with _ | ⟨w, st⟩
      · have hev : cond (cond (Nat.beq a 1) (pm_01 u) true) (some ((some (vi u), V) : pm_R)) none = some r := hev
        cases hg : cond (Nat.beq a 1) (pm_01 u) true with
        | true =>
          rw [hg] at hev
          have he : ((some (vi u), V) : pm_R) = r := Option.some.inj hev
          subst he
          exact fin (Or.inl rfl) (cond (Nat.beq a 1) (pm_01 u) true) rfl hg
        | false =>
          rw [hg] at hev
          cases hev
      · exact (sn_nn hev).elim
    · exact (sn_nn hev).elim
    · exact (sn_nn hev).elim
  case lreturn =>
    rcases st with _ | ⟨w, st⟩
    · exact (sn_nn hev).elim
    rcases w with u | u | u
    · exact (sn_nn hev).elim
    · rcases st with _ | ⟨w, st⟩
      · have he : ((some (vl u), V) : pm_R) = r := Option.some.inj hev
        subst he
        exact fin (Or.inr (Or.inl rfl)) true rfl rfl
      · exact (sn_nn hev).elim
    · exact (sn_nn hev).elim
  case areturn =>
    rcases st with _ | ⟨w, st⟩
    · exact (sn_nn hev).elim
    rcases w with u | u | u
    · exact (sn_nn hev).elim
    · exact (sn_nn hev).elim
    · rcases st with _ | ⟨w, st⟩
      · have hev : cond (!(Nat.beq u 0)) (some ((some (vr u), V) : pm_R)) none = some r := hev
        cases hg : !(Nat.beq u 0) with
        | true =>
          rw [hg] at hev
          have he : ((some (vr u), V) : pm_R) = r := Option.some.inj hev
          subst he
          exact fin (Or.inr (Or.inr (Or.inl rfl))) (!(Nat.beq u 0)) rfl hg
        | false =>
          rw [hg] at hev
          cases hev
      · exact (sn_nn hev).elim
  case return_ =>
    rcases st with _ | ⟨w, st⟩
    · have he : ((none, V) : pm_R) = r := Option.some.inj hev
      subst he
      exact fin (Or.inr (Or.inr (Or.inr rfl))) true rfl rfl
    · exact (sn_nn hev).elim
  all_goals exact (sn_nn hev).elim
end SN8
