/-! SOUNDNESS: a row of rows (multianewarray) -/
theorem mu_outer (c : ClassId) (N h0 : Nat) : ∀ i : Nat, Jvm.Free.Multi.outerC c N h0 i = arrV c N (fun j => va_rf (if j < i then some (h0 + 1 + j) else none))
  | 0 => by
    show ({ cls := c, slots := Array.replicate N .null, vm := .none } : Cell) = _
    rw [arrV_new]
    refine congrArg (arrV c N) (funext fun j => ?_)
    simp [va_rf]
  | i + 1 => by
    show (Jvm.Free.Multi.outerC c N h0 i).setSlot i (.ref (h0 + 1 + i)) = _
    rw [mu_outer c N h0 i, arrV_store]
    refine congrArg (arrV c N) (funext fun j => ?_)
    by_cases e : j = i
    · subst e
      simp [updV, va_rf]
    · by_cases h : j < i
      · simp [updV, e, h, Nat.lt_succ_of_lt h]
      · simp [updV, e, h, show ¬ j < i + 1 by omega]
abbrev mu_L : List Nat := [63, 64, 65, 66, 67, 68, 69, 70, 71, 72]
def mu_A (A : Nat → Bool) : Nat → Bool := fun b => cond (Nat.ble 63 b && Nat.ble b 72) true (A b)
def mu_N (N : Nat → Nat → Nat) : Nat → Nat → Nat := fun b j => cond (Nat.beq b 63 && Nat.ble j 8) (64 + j) (N b j)
theorem mu_in {b : Nat} : (Nat.ble 63 b && Nat.ble b 72) = true ↔ 63 ≤ b ∧ b ≤ 72 := by
  rw [Bool.and_eq_true, Nat.ble_eq, Nat.ble_eq]
theorem mu_mem {b : Nat} : b ∈ mu_L ↔ 63 ≤ b ∧ b ≤ 72 := by
  simp only [mu_L, List.mem_cons, List.not_mem_nil, or_false]
  omega
theorem mu_A_t {A : Nat → Bool} {b : Nat} (h : 63 ≤ b ∧ b ≤ 72) : mu_A A b = true := by
  unfold mu_A
  rw [mu_in.mpr h]
  rfl
theorem mu_A_f {A : Nat → Bool} {b : Nat} (h : ¬ (63 ≤ b ∧ b ≤ 72)) : mu_A A b = A b := by
  unfold mu_A
  cases e : (Nat.ble 63 b && Nat.ble b 72) with
  | true => exact absurd (mu_in.mp e) h
  | false => rfl
theorem mu_N_f {N : Nat → Nat → Nat} {b j : Nat} (h : ¬ (b = 63 ∧ j < 9)) : mu_N N b j = N b j := by
  unfold mu_N
  cases e : (Nat.beq b 63 && Nat.ble j 8) with
  | true =>
    rw [Bool.and_eq_true, Nat.ble_eq] at e
    exact absurd ⟨Nat.eq_of_beq_eq_true e.1, by omega⟩ h
  | false => rfl
theorem mu_N_t {N : Nat → Nat → Nat} {j : Nat} (h : j < 9) : mu_N N 63 j = 64 + j := by
  unfold mu_N
  rw [Nat.beq_refl, Nat.ble_eq_true_of_le (show j ≤ 8 by omega)]
  rfl
section SNMU
variable {E : sn_E} {p : Program} {l : Launch} {e : Env} {R : Room} {s : State} {m : MethodId} {args : Array Value} {below : List Frame} {meth : Method} {c : Code} {nL n0 t0 : Nat} {Q : State → Prop}
variable {cc : ByteArray} {pc : Nat} {ls : pm_L} {st : List pm_V} {V : pm_M}
theorem mu_ix (n : Nat) : ∀ (i : Nat), i < n → ∀ (x : Nat) (l k : List Nat), (∀ b, x ≤ b → b < x + n → b ∉ l) → sn_ix (x + i) (l ++ ((List.range n).map (fun j => x + j) ++ k)) = l.length + i := by
  induction n with
  | zero => intro i h; omega
  | succ n ih =>
    intro i hi x l k hl
    rw [List.range_succ_eq_map, List.map_cons, List.map_map]
    show sn_ix (x + i) (l ++ (x + 0) :: (List.map ((fun j => x + j) ∘ Nat.succ) (List.range n) ++ k)) = _
    cases i with
    | zero => exact sn_ix_new _ (hl _ (by omega) (by omega))
    | succ i =>
      have hf : ((fun j => x + j) ∘ Nat.succ) = fun j => (x + 1) + j := by
        funext j
        show x + (j + 1) = x + 1 + j
        omega
      have h9 := ih i (by omega) (x + 1) (l ++ [x]) k (fun b h1 h2 hb => by
        rcases List.mem_append.mp hb with h | h
        · exact hl b (by omega) (by omega) h
        · have := List.mem_singleton.mp h
          omega)
      rw [List.append_assoc, List.length_append] at h9
      rw [hf, show x + (i + 1) = x + 1 + i by omega]
      refine h9.trans ?_
      show l.length + 1 + i = _
      omega
theorem mu_ad {H : Heap} (hS : sn_S E V H) (hn : ∀ b, 63 ≤ b → b ≤ 72 → b ∉ V.1) (hp : V.1 ++ mu_L <+: E.2.1) {i : Nat} (hi : i < 10) : sn_ad E (63 + i) = H.size + i := by
  obtain ⟨k, hk⟩ := hp
  unfold sn_ad
  have hb : Nat.ble 900 (63 + i) = false := by
    cases hb : Nat.ble 900 (63 + i) with
    | false => rfl
    | true => exact absurd (Nat.le_of_ble_eq_true hb) (by omega)
  rw [hb]
  show E.1 + sn_ix (63 + i) E.2.1 = _
  rw [← hk, List.append_assoc]
  have := mu_ix 10 i hi 63 V.1 k (fun b h1 h2 => hn b h1 (by omega))
  have e : sn_ix (63 + i) (V.1 ++ (mu_L ++ k)) = V.1.length + i := this
  rw [e, hS.1]
  omega
theorem mu_S {H H1 : Heap} (hS : sn_S E V H) (hn : ∀ b, 63 ≤ b → b ≤ 72 → V.2.1 b = false) (hp : V.1 ++ mu_L <+: E.2.1) (hz : H1.size = H.size + 10) (ho : ∀ x, x < H.size → H1[x]? = H[x]?)
    (h0 : H1[H.size]? = some (arrV (E.2.2.2.2.1 6) 9 (fun j => va_rf (if j < 9 then some (H.size + 1 + j) else none)))) (hr : ∀ j, j < 9 → H1[H.size + 1 + j]? = some (arrV (E.2.2.2.2.1 1) 12 (fun _ => .int 0))) :
    sn_S E (V.1 ++ mu_L, mu_A V.2.1, mu_N V.2.2.1, V.2.2.2) H1 := by
  obtain ⟨h1, h2, h3, h4, h5, h6, h7, h8⟩ := id hS
  have hnot : ∀ b, 63 ≤ b → b ≤ 72 → b ∉ V.1 := fun b g1 g2 z => by
    have := (h3 b).mpr z
    rw [hn b g1 g2] at this
    cases this
  have had : ∀ i, i < 10 → sn_ad E (63 + i) = H.size + i := fun i hi => mu_ad hS hnot hp hi
  refine ⟨?_, hp, fun a => ?_, fun a ha => ?_, fun a ha j => ?_, h6, fun a ha => ?_, ?_⟩
  · show H1.size = E.1 + (V.1 ++ mu_L).length
    rw [hz, h1, List.length_append]
    show _ = E.1 + (V.1.length + 10)
    omega
  · show mu_A V.2.1 a = true ↔ a ∈ V.1 ++ mu_L
    rw [List.mem_append, mu_mem]
    by_cases g : 63 ≤ a ∧ a ≤ 72
    · rw [mu_A_t g]
      exact ⟨fun _ => Or.inr g, fun _ => rfl⟩
    · rw [mu_A_f g, h3 a]
      exact ⟨Or.inl, fun z => z.resolve_right g⟩
  · rcases List.mem_append.mp ha with ha | ha
    · have hne : ¬ (63 ≤ a ∧ a ≤ 72) := fun g => hnot a g.1 g.2 ha
      have e : sn_en E (V.1 ++ mu_L, mu_A V.2.1, mu_N V.2.2.1, V.2.2.2) a = sn_en E V a := sn_en_congr (by
        show mu_N V.2.2.1 a = V.2.2.1 a
        funext j
        exact mu_N_f (fun g => hne ⟨by omega, by omega⟩)) rfl rfl
      rw [e]
      exact (h4 a ha).kept (ho _ ((h4 a ha).lt))
    · have g := mu_mem.mp ha
      obtain ⟨i, rfl⟩ : ∃ i, a = 63 + i := ⟨a - 63, by omega⟩
      have hi : i < 10 := by omega
      rw [had i hi]
      cases i with
      | zero =>
        rw [sn_en_q (q := 63 + 0) (t := 6) rfl rfl]
        show H1[H.size]? = some (arrV (E.2.2.2.2.1 6) 9 (fun j => va_rf (sn_rw E (mu_N V.2.2.1 63) j)))
        rw [h0]
        congr 2
        funext j
        rw [sn_rfrw]
        by_cases hj : j < 9
        · rw [if_pos hj, mu_N_t hj, sn_rf_ne (by omega), show 64 + j = 63 + (1 + j) by omega, had (1 + j) (by omega), show H.size + (1 + j) = H.size + 1 + j by omega]
          rfl
        · rw [if_neg hj, mu_N_f (fun z => hj z.2), (h5 63 (hn 63 (by omega) (by omega)) j).2.2]
          rfl
      | succ i =>
        have hk : pm_kd (63 + (i + 1)) = (1, 12) := by
          have : i = 0 ∨ i = 1 ∨ i = 2 ∨ i = 3 ∨ i = 4 ∨ i = 5 ∨ i = 6 ∨ i = 7 ∨ i = 8 := by omega
          rcases this with h | h | h | h | h | h | h | h | h <;> subst h <;> rfl
        rw [sn_en_i (q := 63 + (i + 1)) (t := 1) (by rw [hk]) (Or.inl rfl), hk]
        show H1[H.size + (i + 1)]? = some (arrV (E.2.2.2.2.1 1) 12 (fun j => .int (V.2.2.2.1 (63 + (i + 1)) j)))
        rw [show H.size + (i + 1) = H.size + 1 + i by omega, hr i (by omega)]
        congr 2
        funext j
        rw [(h5 (63 + (i + 1)) (hn _ (by omega) (by omega)) j).1]
  · have ha' : mu_A V.2.1 a = false := ha
    have hne : ¬ (63 ≤ a ∧ a ≤ 72) := fun g => by
      rw [mu_A_t g] at ha'
      cases ha'
    rw [mu_A_f hne] at ha'
    have := h5 a ha' j
    refine ⟨this.1, this.2.1, ?_⟩
    show mu_N V.2.2.1 a j = 0
    rw [mu_N_f (fun g => hne ⟨by omega, by omega⟩)]
    exact this.2.2
  · rcases List.mem_append.mp ha with ha | ha
    · exact h7 a ha
    · have := mu_mem.mp ha
      exact ⟨by omega, by omega⟩
  · rw [List.nodup_append]
    exact ⟨h8, by decide, fun a ha b hb z => by
      have g := mu_mem.mp hb
      rw [z] at ha
      exact hnot b g.1 g.2 ha⟩
theorem sn_multi (hx : p.tables.exec = Jvm.exec) (hb : c.code = cc) (hown : s.vm.findClass RX8 = some m.cls) (hts : ∀ w ∈ sn_GT, w.before args s = true) (hK : sn_K E s) (hXs : sn_Xs E s) (hz : s.heap.size = E.1 + n0) (a0 : V.2.1 63 = false) (a1 : V.2.1 64 = false) (a2 : V.2.1 65 = false) (a3 : V.2.1 66 = false) (a4 : V.2.1 67 = false) (a5 : V.2.1 68 = false) (a6 : V.2.1 69 = false) (a7 : V.2.1 70 = false) (a8 : V.2.1 71 = false) (a9 : V.2.1 72 = false) (hp : V.1 ++ [63, 64, 65, 66, 67, 68, 69, 70, 71, 72] <+: E.2.1) (hcells : (V.1 ++ [63, 64, 65, 66, 67, 68, 69, 70, 71, 72]).length ≤ n0 + R.cells) (hslots : sn_tt (V.1 ++ [63, 64, 65, 66, 67, 68, 69, 70, 71, 72]) ≤ t0 + R.slots) (hdg : decode cc pc = .ok (.multianewarray 32 2, 4))
    (kk : sn_Go E p l e R s m args below meth c nL n0 t0 Q (pc + 4) ls (vr 63 :: st) (V.1 ++ [63, 64, 65, 66, 67, 68, 69, 70, 71, 72], (fun b => cond (Nat.ble 63 b && Nat.ble b 72) true (V.2.1 b)), (fun b j => cond (Nat.beq b 63 && Nat.ble j 8) (64 + j) (V.2.2.1 b j)), V.2.2.2)) : sn_Go E p l e R s m args below meth c nL n0 t0 Q pc ls (vi 12 :: vi 9 :: st) V := by
  intro H locs cells slots arr hS hV hc' hs hl
  show W p l e R s m args below meth c H locs cells slots Q (F0 m pc arr (.int 12 :: .int 9 :: st.map (sn_cv E)))
  have hn : ∀ b, 63 ≤ b → b ≤ 72 → V.2.1 b = false := fun b g1 g2 => by
    have : b = 63 ∨ b = 64 ∨ b = 65 ∨ b = 66 ∨ b = 67 ∨ b = 68 ∨ b = 69 ∨ b = 70 ∨ b = 71 ∨ b = 72 := by omega
    rcases this with h | h | h | h | h | h | h | h | h | h <;> subst h <;> assumption
  have etl : (V.1 ++ mu_L).length = V.1.length + 10 := List.length_append
  have ett : sn_tt (V.1 ++ mu_L) = sn_tt V.1 + 117 := by
    unfold sn_tt
    rw [List.map_append, List.sum_append]
    rfl
  have hcells : (V.1 ++ mu_L).length ≤ n0 + R.cells := hcells
  have hslots : sn_tt (V.1 ++ mu_L) ≤ t0 + R.slots := hslots
  rw [etl] at hcells
  rw [ett] at hslots
  intro T hT Xs
  obtain ⟨vm₁, cA, comp, -, fA, fC, -, -, X', step⟩ := Xs.multianewarray2F (ty := .int) (n := 9) (k := 12) (rest := st.map (sn_cv E)) hx hown (hts (.classLink RX8 32 "[[I") (sn_GT_of (i := 431) (by decide +kernel) rfl)) hXs.2.2.2.2.2.2.2.2.2.use (hts (.arrayClass .int) (sn_GT_of (i := 212) (by decide +kernel) rfl)) (g := F0 m pc arr (.int 12 :: .int 9 :: st.map (sn_cv E))) rfl (by rw [hb]; exact hdg) rfl (by decide) (by decide) (by decide) (by decide) (by decide) rfl rfl (by show cells + (1 + 9) ≤ _; omega) (by show slots + (9 + 9 * 12) ≤ _; omega)
  have hcA : cA = E.2.2.2.2.1 6 := Option.some.inj (fA.symm.trans (hK.2 6 (.array .int) rfl).2)
  have hcI : comp = E.2.2.2.2.1 1 := Option.some.inj (fC.symm.trans (hK.2 1 .int rfl).2)
  subst hcA
  subst hcI
  have e9 : (9 : Int32).toNatClampNeg = 9 := rfl
  have e12 : (12 : Int32).toNatClampNeg = 12 := rfl
  rw [e9, e12] at X' step
  generalize hF : Jvm.Free.Multi.fill (T.setVm vm₁) (E.2.2.2.2.1 6) (E.2.2.2.2.1 1) 9 12 (defaultValue .int) 9 = F at X' step
  have hTh : (T.setVm vm₁).heap = H := hT
  obtain ⟨f1, f2, -, -⟩ := Jvm.Free.Multi.fill_facts (T.setVm vm₁) (E.2.2.2.2.1 6) (E.2.2.2.2.1 1) 9 12 (defaultValue .int) 9
  rw [hF, hTh] at f1 f2
  have hold : ∀ x : Nat, x < H.size → F.heap[x]? = H[x]? := fun x hx => by
    have := Jvm.Free.Multi.fill_old (T.setVm vm₁) (E.2.2.2.2.1 6) (E.2.2.2.2.1 1) 9 12 (defaultValue .int) (a := x) (by rw [hTh]; exact hx) 9
    rw [hF, hTh] at this
    exact this
  have hrow : ∀ j : Nat, j < 9 → F.heap[H.size + 1 + j]? = some (arrV (E.2.2.2.2.1 1) 12 (fun _ => .int 0)) := fun j hj => by
    have := Jvm.Free.Multi.fill_inner (T.setVm vm₁) (E.2.2.2.2.1 6) (E.2.2.2.2.1 1) 9 12 (defaultValue .int) 9 j hj
    rw [hF, hTh] at this
    rw [this, ← arrV_new]
    rfl
  rw [mu_outer] at f2
  have hS1 := mu_S hS hn hp (by rw [f1]) hold f2 hrow
  have had : sn_ad E 63 = H.size := mu_ad hS (fun b g1 g2 z => by
    have := (hS.2.2.1 b).mpr z
    rw [hn b g1 g2] at this
    cases this) hp (i := 0) (by omega)
  have h9 := kk F.heap locs (cells + 1 + 9) (slots + 9 + 9 * 12) arr hS1 ⟨by have := hV.1; omega, fun x g1 g2 => (hold x (Nat.lt_of_lt_of_le g1 hV.1)).trans (hV.2.1 x g1 g2), hV.2.2⟩ (by show _ = (V.1 ++ mu_L).length; omega) (by show _ = sn_tt (V.1 ++ mu_L); omega) hl
  rw [List.map_cons] at h9
  change W p l e R s m args below meth c F.heap locs (cells + 1 + 9) (slots + 9 + 9 * 12) Q (F0 m (pc + 4) arr (sn_rf E 63 :: st.map (sn_cv E))) at h9
  rw [sn_rf_ne (show 63 ≠ 0 by omega), had] at h9
  obtain ⟨t, b1, b2⟩ := h9 F rfl X'
  rw [← hT] at b1
  exact ⟨t, step t b1, b2⟩
end SNMU
